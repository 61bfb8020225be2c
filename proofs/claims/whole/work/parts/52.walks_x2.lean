theorem wS_pass_L6 (G : GG) (d : Nat) (a0 : Nat) (q0 : shL[a0]? = some (7, 4)) (k0 : PH → Option (Int32 × PH)) (r : Int32 × PH) (kk0 : ∀ (hy : PH), k0 hy = some r → Vx G tS_pass (d + 6) 60 [some (.ref (gB G + a0)), none, none, none] [] hy (some (.int r.1)) r.2) : ∀ (n : Nat) (v1 : Int32) (hv : PH), mS_pass_L6 a0 k0 n v1 hv = some r → Vx G tS_pass (d + 6) 6 [some (.ref (gB G + a0)), some (.int v1), none, none] [] hv (some (.int r.1)) r.2 := by
  intro n
  induction n with
  | zero => intro v1 hv hm; cases hm
  | succ n ih =>
    intro v1 hv hm
    unfold mS_pass_L6 at hm
    refine v_ild_1 dS_pass_6 ?_
    refine v_ald_0 dS_pass_7 ?_
    refine v_getR dS_pass_8 fuS_15 q0 (rf_sea_1 q0) ?_
    refine v_getR dS_pass_11 fuS_30 sh_5 rf_5_3 ?_
    refine v_getI dS_pass_14 fuS_36 sh_12 rf_12_3 ?_
    refine v_cmp_ge dS_pass_17 (fun hc => ?_) (fun hc => ?_)
    · replace hm := it hc hm
      exact v_kw (kk0 _ hm) (wk_s (wk_n (wk_n (wk_n wk_e))))
    · replace hm := ie hc hm
      refine v_ald_0 dS_pass_20 ?_
      refine v_getR dS_pass_21 fuS_15 q0 (rf_sea_1 q0) ?_
      refine v_getR dS_pass_24 fuS_30 sh_5 rf_5_3 ?_
      refine v_ild_1 dS_pass_27 ?_
      refine v_iconst (x := 0) dS_pass_28 rfl ?_
      obtain ⟨r2, he, hm⟩ := bd_s hm
      refine v_cv2i (M' := tR_at) dS_pass_29 mlS_42 okR_at sh_12 hc_6 (Nat.le_of_ble_eq_true rfl) (ctR_at G (d + 5) _ _ _ sh_12 _ _ he) ?_
      refine v_ald_0 dS_pass_32 ?_
      refine v_getR dS_pass_33 fuS_9 q0 (rf_sea_0 q0) ?_
      refine v_getI dS_pass_36 fuS_46 (sh_sea q0) (rf_bor_6 (sh_sea q0)) ?_
      refine v_cmp_ne dS_pass_39 (fun hc => ?_) (fun hc => ?_)
      · replace hm := it hc hm
        refine v_ald_0 dS_pass_42 ?_
        refine v_ald_0 dS_pass_43 ?_
        refine v_getR dS_pass_44 fuS_15 q0 (rf_sea_1 q0) ?_
        refine v_getR dS_pass_47 fuS_30 sh_5 rf_5_3 ?_
        refine v_ild_1 dS_pass_50 ?_
        obtain ⟨h3, he, hm⟩ := bd_s hm
        refine v_cv2v (M' := tS_officeLine) dS_pass_51 mlS_51 okS_officeLine q0 hc_7 (Nat.le_of_ble_eq_true rfl) (ctS_officeLine G d _ _ _ q0 sh_12 _ _ he) ?_
        refine v_inc_1 1 dS_pass_54 rfl (by decide) rfl ?_
        refine v_goto dS_pass_57 ?_
        exact v_kw (ih _ _ hm) (wk_s (wk_s (wk_n (wk_n wk_e))))
      · replace hm := ie hc hm
        refine v_inc_1 1 dS_pass_54 rfl (by decide) rfl ?_
        refine v_goto dS_pass_57 ?_
        exact v_kw (ih _ _ hm) (wk_s (wk_s (wk_n (wk_n wk_e))))
theorem wS_pass_L70 (G : GG) (d : Nat) (a0 : Nat) (p1 : Int32) (q0 : shL[a0]? = some (7, 4)) (k0 : PH → Option (Int32 × PH)) (r : Int32 × PH) (kk0 : ∀ (hy : PH), k0 hy = some r → Vx G tS_pass (d + 6) 116 [some (.ref (gB G + a0)), some (.int p1), none, none] [] hy (some (.int r.1)) r.2) : ∀ (n : Nat) (v2 : Int32) (hv : PH), mS_pass_L70 a0 p1 k0 n v2 hv = some r → Vx G tS_pass (d + 6) 70 [some (.ref (gB G + a0)), some (.int p1), some (.int v2), none] [] hv (some (.int r.1)) r.2 := by
  intro n
  induction n with
  | zero => intro v2 hv hm; cases hm
  | succ n ih =>
    intro v2 hv hm
    unfold mS_pass_L70 at hm
    refine v_ild_2 dS_pass_70 ?_
    refine v_ald_0 dS_pass_71 ?_
    refine v_getR dS_pass_72 fuS_9 q0 (rf_sea_0 q0) ?_
    refine v_getI dS_pass_75 fuS_59 (sh_sea q0) (rf_bor_1 (sh_sea q0)) ?_
    refine v_cmp_ge dS_pass_78 (fun hc => ?_) (fun hc => ?_)
    · replace hm := it hc hm
      exact v_kw (kk0 _ hm) (wk_s (wk_s (wk_n (wk_n wk_e))))
    · replace hm := ie hc hm
      refine v_ald_0 dS_pass_81 ?_
      refine v_getR dS_pass_82 fuS_9 q0 (rf_sea_0 q0) ?_
      refine v_ild_2 dS_pass_85 ?_
      obtain ⟨r6, he, hm⟩ := bd_s hm
      refine v_cv1i (M' := tB_isUp) dS_pass_86 mlS_62 okB_isUp (sh_sea q0) hc_1 (Nat.le_of_ble_eq_true rfl) (ctB_isUp G (d + 4) _ _ (sh_sea q0) _ _ he) ?_
      refine v_if_eq dS_pass_89 (fun hc => ?_) (fun hc => ?_)
      · replace hm := it hc hm
        refine v_inc_2 1 dS_pass_110 rfl (by decide) rfl ?_
        refine v_goto dS_pass_113 ?_
        exact v_kw (ih _ _ hm) (wk_s (wk_s (wk_s (wk_n wk_e))))
      · replace hm := ie hc hm
        refine v_ald_0 dS_pass_92 ?_
        refine v_getR dS_pass_93 fuS_9 q0 (rf_sea_0 q0) ?_
        refine v_ild_2 dS_pass_96 ?_
        refine v_bipush (x := 7) dS_pass_97 rfl ?_
        obtain ⟨r7, he, hm⟩ := bd_s hm
        refine v_cv2i (M' := tB_read) dS_pass_99 mlS_66 okB_read (sh_sea q0) hc_1 (Nat.le_of_ble_eq_true rfl) (ctB_read G (d + 5) _ _ _ (sh_sea q0) _ _ he) ?_
        refine v_if_le dS_pass_102 (fun hc => ?_) (fun hc => ?_)
        · replace hm := it hc hm
          refine v_inc_2 1 dS_pass_110 rfl (by decide) rfl ?_
          refine v_goto dS_pass_113 ?_
          exact v_kw (ih _ _ hm) (wk_s (wk_s (wk_s (wk_n wk_e))))
        · replace hm := ie hc hm
          refine v_ald_0 dS_pass_105 ?_
          refine v_ild_2 dS_pass_106 ?_
          obtain ⟨h8, he, hm⟩ := bd_s hm
          refine v_cv1v (M' := tS_payRent) dS_pass_107 mlS_69 okS_payRent q0 hc_7 (Nat.le_of_ble_eq_true rfl) (ctS_payRent G d _ _ q0 _ _ he) ?_
          refine v_inc_2 1 dS_pass_110 rfl (by decide) rfl ?_
          refine v_goto dS_pass_113 ?_
          exact v_kw (ih _ _ hm) (wk_s (wk_s (wk_s (wk_n wk_e))))
theorem wS_pass_L118 (G : GG) (d : Nat) (a0 : Nat) (p1 : Int32) (q0 : shL[a0]? = some (7, 4)) (k0 : PH → Option (Int32 × PH)) (r : Int32 × PH) (kk0 : ∀ (hy : PH), k0 hy = some r → Vx G tS_pass (d + 6) 140 [some (.ref (gB G + a0)), some (.int p1), none, none] [] hy (some (.int r.1)) r.2) : ∀ (n : Nat) (v2 : Int32) (hv : PH), mS_pass_L118 a0 p1 k0 n v2 hv = some r → Vx G tS_pass (d + 6) 118 [some (.ref (gB G + a0)), some (.int p1), some (.int v2), none] [] hv (some (.int r.1)) r.2 := by
  intro n
  induction n with
  | zero => intro v2 hv hm; cases hm
  | succ n ih =>
    intro v2 hv hm
    unfold mS_pass_L118 at hm
    refine v_ild_2 dS_pass_118 ?_
    refine v_ald_0 dS_pass_119 ?_
    refine v_getR dS_pass_120 fuS_9 q0 (rf_sea_0 q0) ?_
    refine v_getI dS_pass_123 fuS_59 (sh_sea q0) (rf_bor_1 (sh_sea q0)) ?_
    refine v_cmp_ge dS_pass_126 (fun hc => ?_) (fun hc => ?_)
    · replace hm := it hc hm
      exact v_kw (kk0 _ hm) (wk_s (wk_s (wk_n (wk_n wk_e))))
    · replace hm := ie hc hm
      refine v_ald_0 dS_pass_129 ?_
      refine v_ild_2 dS_pass_130 ?_
      obtain ⟨h10, he, hm⟩ := bd_s hm
      refine v_cv1v (M' := tS_gnaw) dS_pass_131 mlS_73 okS_gnaw q0 hc_7 (Nat.le_of_ble_eq_true rfl) (ctS_gnaw G d _ _ q0 _ _ he) ?_
      refine v_inc_2 1 dS_pass_134 rfl (by decide) rfl ?_
      refine v_goto dS_pass_137 ?_
      exact v_kw (ih _ _ hm) (wk_s (wk_s (wk_s (wk_n wk_e))))
theorem wS_pass_L142 (G : GG) (d : Nat) (a0 : Nat) (p1 : Int32) (q0 : shL[a0]? = some (7, 4)) (k0 : PH → Option (Int32 × PH)) (r : Int32 × PH) (kk0 : ∀ (hy : PH), k0 hy = some r → Vx G tS_pass (d + 6) 164 [some (.ref (gB G + a0)), some (.int p1), none, none] [] hy (some (.int r.1)) r.2) : ∀ (n : Nat) (v2 : Int32) (hv : PH), mS_pass_L142 a0 p1 k0 n v2 hv = some r → Vx G tS_pass (d + 6) 142 [some (.ref (gB G + a0)), some (.int p1), some (.int v2), none] [] hv (some (.int r.1)) r.2 := by
  intro n
  induction n with
  | zero => intro v2 hv hm; cases hm
  | succ n ih =>
    intro v2 hv hm
    unfold mS_pass_L142 at hm
    refine v_ild_2 dS_pass_142 ?_
    refine v_ald_0 dS_pass_143 ?_
    refine v_getR dS_pass_144 fuS_9 q0 (rf_sea_0 q0) ?_
    refine v_getI dS_pass_147 fuS_59 (sh_sea q0) (rf_bor_1 (sh_sea q0)) ?_
    refine v_cmp_ge dS_pass_150 (fun hc => ?_) (fun hc => ?_)
    · replace hm := it hc hm
      exact v_kw (kk0 _ hm) (wk_s (wk_s (wk_n (wk_n wk_e))))
    · replace hm := ie hc hm
      refine v_ald_0 dS_pass_153 ?_
      refine v_ild_2 dS_pass_154 ?_
      obtain ⟨h12, he, hm⟩ := bd_s hm
      refine v_cv1v (M' := tS_melt) dS_pass_155 mlS_76 okS_melt q0 hc_7 (Nat.le_of_ble_eq_true rfl) (ctS_melt G d _ _ q0 _ _ he) ?_
      refine v_inc_2 1 dS_pass_158 rfl (by decide) rfl ?_
      refine v_goto dS_pass_161 ?_
      exact v_kw (ih _ _ hm) (wk_s (wk_s (wk_s (wk_n wk_e))))
theorem wS_pass_L180 (G : GG) (d : Nat) (a0 : Nat) (p2 : Int32) (q0 : shL[a0]? = some (7, 4)) (k0 : PH → Option (Int32 × PH)) (r : Int32 × PH) (kk0 : ∀ (hy : PH), k0 hy = some r → Vx G tS_pass (d + 6) 202 [some (.ref (gB G + a0)), none, some (.int p2), none] [] hy (some (.int r.1)) r.2) : ∀ (n : Nat) (v3 : Int32) (hv : PH), mS_pass_L180 a0 p2 k0 n v3 hv = some r → Vx G tS_pass (d + 6) 180 [some (.ref (gB G + a0)), none, some (.int p2), some (.int v3)] [] hv (some (.int r.1)) r.2 := by
  intro n
  induction n with
  | zero => intro v3 hv hm; cases hm
  | succ n ih =>
    intro v3 hv hm
    unfold mS_pass_L180 at hm
    refine v_ild_3 dS_pass_180 ?_
    refine v_ald_0 dS_pass_181 ?_
    refine v_getR dS_pass_182 fuS_9 q0 (rf_sea_0 q0) ?_
    refine v_getI dS_pass_185 fuS_59 (sh_sea q0) (rf_bor_1 (sh_sea q0)) ?_
    refine v_cmp_ge dS_pass_188 (fun hc => ?_) (fun hc => ?_)
    · replace hm := it hc hm
      exact v_kw (kk0 _ hm) (wk_s (wk_n (wk_s (wk_n wk_e))))
    · replace hm := ie hc hm
      refine v_ald_0 dS_pass_191 ?_
      refine v_ild_3 dS_pass_192 ?_
      obtain ⟨h17, he, hm⟩ := bd_s hm
      refine v_cv1v (M' := tS_leaveIfFallen) dS_pass_193 mlS_82 okS_leaveIfFallen q0 hc_7 (Nat.le_of_ble_eq_true rfl) (ctS_leaveIfFallen G (d + 2) _ _ q0 _ _ he) ?_
      refine v_inc_3 1 dS_pass_196 rfl (by decide) rfl ?_
      refine v_goto dS_pass_199 ?_
      exact v_kw (ih _ _ hm) (wk_s (wk_n (wk_s (wk_s wk_e))))
theorem ctS_pass (G : GG) (d : Nat) (a0 : Nat) (q0 : shL[a0]? = some (7, 4)) (h0 : PH) (r : Int32 × PH) (hm : mS_pass a0 h0 = some r) : Kx G tS_pass (d + 6) [.ref (gB G + a0)] h0 (some (.int r.1)) r.2 := by
  refine K_of_V (by decide) (by simp [Value.category]) (by simp [tS_pass]) ?_
  change Vx G tS_pass (d + 6) 0 [some (.ref (gB G + a0)), none, none, none] [] h0 (some (.int r.1)) r.2
  unfold mS_pass at hm
  refine v_ald_0 dS_pass_0 ?_
  obtain ⟨h1, he, hm⟩ := bd_s hm
  refine v_cv0v (M' := tS_weather) dS_pass_1 mlS_27 okS_weather q0 hc_7 (Nat.le_of_ble_eq_true rfl) (ctS_weather G (d + 4) _ q0 _ _ he) ?_
  refine v_iconst (x := 0) dS_pass_4 rfl ?_
  refine v_ist_1 dS_pass_5 (by decide) rfl ?_
  refine v_kw (wS_pass_L6 G d _ q0 _ _ (fun h4 hm => ?_) FU _ _ hm) (wk_s (wk_s (wk_n (wk_n wk_e))))
  refine v_ald_0 dS_pass_60 ?_
  refine v_getR dS_pass_61 fuS_9 q0 (rf_sea_0 q0) ?_
  obtain ⟨r5, he, hm⟩ := bd_s hm
  refine v_cv0i (M' := tB_countUp) dS_pass_64 mlS_55 okB_countUp (sh_sea q0) hc_1 (Nat.le_of_ble_eq_true rfl) (ctB_countUp G (d + 2) _ (sh_sea q0) _ _ he) ?_
  refine v_ist_1 dS_pass_67 (by decide) rfl ?_
  refine v_iconst (x := 0) dS_pass_68 rfl ?_
  refine v_ist_2 dS_pass_69 (by decide) rfl ?_
  refine v_kw (wS_pass_L70 G d _ _ q0 _ _ (fun h9 hm => ?_) FU _ _ hm) (wk_s (wk_s (wk_s (wk_n wk_e))))
  refine v_iconst (x := 0) dS_pass_116 rfl ?_
  refine v_ist_2 dS_pass_117 (by decide) rfl ?_
  refine v_kw (wS_pass_L118 G d _ _ q0 _ _ (fun h11 hm => ?_) FU _ _ hm) (wk_s (wk_s (wk_s (wk_n wk_e))))
  refine v_iconst (x := 0) dS_pass_140 rfl ?_
  refine v_ist_2 dS_pass_141 (by decide) rfl ?_
  refine v_kw (wS_pass_L142 G d _ _ q0 _ _ (fun h13 hm => ?_) FU _ _ hm) (wk_s (wk_s (wk_s (wk_n wk_e))))
  refine v_ild_1 dS_pass_164 ?_
  refine v_ald_0 dS_pass_165 ?_
  refine v_getR dS_pass_166 fuS_9 q0 (rf_sea_0 q0) ?_
  obtain ⟨r14, he, hm⟩ := bd_s hm
  refine v_cv0i (M' := tB_countUp) dS_pass_169 mlS_55 okB_countUp (sh_sea q0) hc_1 (Nat.le_of_ble_eq_true rfl) (ctB_countUp G (d + 2) _ (sh_sea q0) _ _ he) ?_
  refine v_isub dS_pass_172 ?_
  refine v_top hm (fun x15 hm => ?_)
  refine v_ist_2 dS_pass_173 (by decide) rfl ?_
  refine v_ald_0 dS_pass_174 ?_
  obtain ⟨h16, he, hm⟩ := bd_s hm
  refine v_cv0v (M' := tS_harden) dS_pass_175 mlS_79 okS_harden q0 hc_7 (Nat.le_of_ble_eq_true rfl) (ctS_harden G (d + 3) _ q0 _ _ he) ?_
  refine v_iconst (x := 0) dS_pass_178 rfl ?_
  refine v_ist_3 dS_pass_179 (by decide) rfl ?_
  refine v_kw (wS_pass_L180 G d _ _ q0 _ _ (fun h18 hm => ?_) FU _ _ hm) (wk_s (wk_n (wk_s (wk_s wk_e))))
  refine v_ald_0 dS_pass_202 ?_
  obtain ⟨h19, he, hm⟩ := bd_s hm
  refine v_cv0v (M' := tS_grow) dS_pass_203 mlS_85 okS_grow q0 hc_7 (Nat.le_of_ble_eq_true rfl) (ctS_grow G (d + 3) _ q0 _ _ he) ?_
  refine v_ild_2 dS_pass_206 ?_
  cases hm
  exact v_iret dS_pass_207 rfl
def mS_mayAct (a0 : Nat) (p1 : Int32) (p2 : Int32) (p3 : Int32) (h0 : PH) : Option (Int32) :=
  bd (mB_has (sT a0) p2 h0) fun r1 =>
  if r1 = 0 then
    some 0
  else
    bd (mX_within p1 0 3 h0) fun r2 =>
    if r2 = 0 then
      bd (mX_within p1 10 13 h0) fun r3 =>
      if r3 = 0 then
        if p1 = 20 then
          bd (mS_mayWed a0 p2 h0) fun r4 =>
          some (nb r4)
        else
          if p1 = 21 then
            bd (mB_read (sT a0) p2 7 h0) fun r5 =>
            if r5 ≤ 0 then
              some 0
            else
              if p3 = p2 then
                some 0
              else
                bd (mB_has (sT a0) p3 h0) fun r6 =>
                if r6 = 0 then
                  some 0
                else
                  bd (mB_isUp (sT a0) p3 h0) fun r7 =>
                  if r7 = 0 then
                    some 0
                  else
                    some 1
          else
            if p1 = 22 then
              bd (mB_isUp (sT a0) p2 h0) fun r8 =>
              some (nb r8)
            else
              some 0
      else
        bd (mX_within p3 1 99 h0) fun r9 =>
        some (nb r9)
    else
      bd (mB_read (sT a0) p2 p1 h0) fun r10 =>
      bd (mX_within p3 1 r10 h0) fun r11 =>
      some (nb r11)
theorem ctS_mayAct (G : GG) (d : Nat) (a0 : Nat) (p1 : Int32) (p2 : Int32) (p3 : Int32) (q0 : shL[a0]? = some (7, 4)) (h0 : PH) (r : Int32) (hm : mS_mayAct a0 p1 p2 p3 h0 = some r) : Kx G tS_mayAct (d + 3) [.ref (gB G + a0), .int p1, .int p2, .int p3] h0 (some (.int r)) h0 := by
  refine K_of_V (by decide) (by simp [Value.category]) (by simp [tS_mayAct]) ?_
  change Vx G tS_mayAct (d + 3) 0 [some (.ref (gB G + a0)), some (.int p1), some (.int p2), some (.int p3)] [] h0 (some (.int r)) h0
  unfold mS_mayAct at hm
  refine v_ald_0 dS_mayAct_0 ?_
  refine v_getR dS_mayAct_1 fuS_9 q0 (rf_sea_0 q0) ?_
  refine v_ild_2 dS_mayAct_4 ?_
  obtain ⟨r1, he, hm⟩ := bd_s hm
  refine v_cv1i (M' := tB_has) dS_mayAct_5 mlS_170 okB_has (sh_sea q0) hc_1 (Nat.le_of_ble_eq_true rfl) (ctB_has G (d + 2) _ _ (sh_sea q0) _ _ he) ?_
  refine v_if_ne dS_mayAct_8 (fun hc => ?_) (fun hc => ?_)
  · replace hm := it hc hm
    refine v_iconst (x := 0) dS_mayAct_11 rfl ?_
    cases hm
    exact v_zret0 dS_mayAct_12 rfl
  · replace hm := ie hc hm
    refine v_ild_1 dS_mayAct_13 ?_
    refine v_iconst (x := 0) dS_mayAct_14 rfl ?_
    refine v_iconst (x := 3) dS_mayAct_15 rfl ?_
    obtain ⟨r2, he, hm⟩ := bd_s hm
    refine v_cn3i (M' := tX_within) dS_mayAct_16 mlS_173 okX_within (Nat.le_of_ble_eq_true rfl) (ctX_within G (d + 2) _ _ _ _ _ he) ?_
    refine v_if_eq dS_mayAct_19 (fun hc => ?_) (fun hc => ?_)
    · replace hm := it hc hm
      refine v_ild_1 dS_mayAct_37 ?_
      refine v_bipush (x := 10) dS_mayAct_38 rfl ?_
      refine v_bipush (x := 13) dS_mayAct_40 rfl ?_
      obtain ⟨r3, he, hm⟩ := bd_s hm
      refine v_cn3i (M' := tX_within) dS_mayAct_42 mlS_173 okX_within (Nat.le_of_ble_eq_true rfl) (ctX_within G (d + 2) _ _ _ _ _ he) ?_
      refine v_if_eq dS_mayAct_45 (fun hc => ?_) (fun hc => ?_)
      · replace hm := it hc hm
        refine v_ild_1 dS_mayAct_56 ?_
        refine v_sw dS_mayAct_57 ?_
        refine v_selc (fun hc => ?_) (fun hc => ?_)
        · replace hm := it hc hm
          refine v_ald_0 dS_mayAct_84 ?_
          refine v_ild_2 dS_mayAct_85 ?_
          obtain ⟨r4, he, hm⟩ := bd_s hm
          refine v_cv1i (M' := tS_mayWed) dS_mayAct_86 mlS_109 okS_mayWed q0 hc_7 (Nat.le_of_ble_eq_true rfl) (ctS_mayWed G d _ _ q0 _ _ he) ?_
          cases hm
          exact v_zret dS_mayAct_89 rfl
        · replace hm := ie hc hm
          refine v_selc (fun hc => ?_) (fun hc => ?_)
          · replace hm := it hc hm
            refine v_ald_0 dS_mayAct_90 ?_
            refine v_getR dS_mayAct_91 fuS_9 q0 (rf_sea_0 q0) ?_
            refine v_ild_2 dS_mayAct_94 ?_
            refine v_bipush (x := 7) dS_mayAct_95 rfl ?_
            obtain ⟨r5, he, hm⟩ := bd_s hm
            refine v_cv2i (M' := tB_read) dS_mayAct_97 mlS_66 okB_read (sh_sea q0) hc_1 (Nat.le_of_ble_eq_true rfl) (ctB_read G (d + 2) _ _ _ (sh_sea q0) _ _ he) ?_
            refine v_if_le dS_mayAct_100 (fun hc => ?_) (fun hc => ?_)
            · replace hm := it hc hm
              refine v_iconst (x := 0) dS_mayAct_134 rfl ?_
              cases hm
              exact v_zret0 dS_mayAct_135 rfl
            · replace hm := ie hc hm
              refine v_ild_3 dS_mayAct_103 ?_
              refine v_ild_2 dS_mayAct_104 ?_
              refine v_cmp_eq dS_mayAct_105 (fun hc => ?_) (fun hc => ?_)
              · replace hm := it hc hm
                refine v_iconst (x := 0) dS_mayAct_134 rfl ?_
                cases hm
                exact v_zret0 dS_mayAct_135 rfl
              · replace hm := ie hc hm
                refine v_ald_0 dS_mayAct_108 ?_
                refine v_getR dS_mayAct_109 fuS_9 q0 (rf_sea_0 q0) ?_
                refine v_ild_3 dS_mayAct_112 ?_
                obtain ⟨r6, he, hm⟩ := bd_s hm
                refine v_cv1i (M' := tB_has) dS_mayAct_113 mlS_170 okB_has (sh_sea q0) hc_1 (Nat.le_of_ble_eq_true rfl) (ctB_has G (d + 2) _ _ (sh_sea q0) _ _ he) ?_
                refine v_if_eq dS_mayAct_116 (fun hc => ?_) (fun hc => ?_)
                · replace hm := it hc hm
                  refine v_iconst (x := 0) dS_mayAct_134 rfl ?_
                  cases hm
                  exact v_zret0 dS_mayAct_135 rfl
                · replace hm := ie hc hm
                  refine v_ald_0 dS_mayAct_119 ?_
                  refine v_getR dS_mayAct_120 fuS_9 q0 (rf_sea_0 q0) ?_
                  refine v_ild_3 dS_mayAct_123 ?_
                  obtain ⟨r7, he, hm⟩ := bd_s hm
                  refine v_cv1i (M' := tB_isUp) dS_mayAct_124 mlS_62 okB_isUp (sh_sea q0) hc_1 (Nat.le_of_ble_eq_true rfl) (ctB_isUp G (d + 1) _ _ (sh_sea q0) _ _ he) ?_
                  refine v_if_eq dS_mayAct_127 (fun hc => ?_) (fun hc => ?_)
                  · replace hm := it hc hm
                    refine v_iconst (x := 0) dS_mayAct_134 rfl ?_
                    cases hm
                    exact v_zret0 dS_mayAct_135 rfl
                  · replace hm := ie hc hm
                    refine v_iconst (x := 1) dS_mayAct_130 rfl ?_
                    refine v_goto dS_mayAct_131 ?_
                    cases hm
                    exact v_zret1 dS_mayAct_135 rfl
          · replace hm := ie hc hm
            refine v_selc (fun hc => ?_) (fun hc => ?_)
            · replace hm := it hc hm
              refine v_ald_0 dS_mayAct_136 ?_
              refine v_getR dS_mayAct_137 fuS_9 q0 (rf_sea_0 q0) ?_
              refine v_ild_2 dS_mayAct_140 ?_
              obtain ⟨r8, he, hm⟩ := bd_s hm
              refine v_cv1i (M' := tB_isUp) dS_mayAct_141 mlS_62 okB_isUp (sh_sea q0) hc_1 (Nat.le_of_ble_eq_true rfl) (ctB_isUp G (d + 1) _ _ (sh_sea q0) _ _ he) ?_
              cases hm
              exact v_zret dS_mayAct_144 rfl
            · replace hm := ie hc hm
              refine v_seln ?_
              refine v_iconst (x := 0) dS_mayAct_145 rfl ?_
              cases hm
              exact v_zret0 dS_mayAct_146 rfl
      · replace hm := ie hc hm
        refine v_ild_3 dS_mayAct_48 ?_
        refine v_iconst (x := 1) dS_mayAct_49 rfl ?_
        refine v_bipush (x := 99) dS_mayAct_50 rfl ?_
        obtain ⟨r9, he, hm⟩ := bd_s hm
        refine v_cn3i (M' := tX_within) dS_mayAct_52 mlS_173 okX_within (Nat.le_of_ble_eq_true rfl) (ctX_within G (d + 2) _ _ _ _ _ he) ?_
        cases hm
        exact v_zret dS_mayAct_55 rfl
    · replace hm := ie hc hm
      refine v_ild_3 dS_mayAct_22 ?_
      refine v_iconst (x := 1) dS_mayAct_23 rfl ?_
      refine v_ald_0 dS_mayAct_24 ?_
      refine v_getR dS_mayAct_25 fuS_9 q0 (rf_sea_0 q0) ?_
      refine v_ild_2 dS_mayAct_28 ?_
      refine v_ild_1 dS_mayAct_29 ?_
      obtain ⟨r10, he, hm⟩ := bd_s hm
      refine v_cv2i (M' := tB_read) dS_mayAct_30 mlS_66 okB_read (sh_sea q0) hc_1 (Nat.le_of_ble_eq_true rfl) (ctB_read G (d + 2) _ _ _ (sh_sea q0) _ _ he) ?_
      obtain ⟨r11, he, hm⟩ := bd_s hm
      refine v_cn3i (M' := tX_within) dS_mayAct_33 mlS_173 okX_within (Nat.le_of_ble_eq_true rfl) (ctX_within G (d + 2) _ _ _ _ _ he) ?_
      cases hm
      exact v_zret dS_mayAct_36 rfl
def mS_nibble (a0 : Nat) (p1 : Int32) (p2 : Int32) (p3 : Int32) (h0 : PH) : Option (PH) :=
  bd2 (mB_thin (sT a0) p1 p2 p3 h0) fun r1 h2 =>
  lt (up h2 (sT a0) 4 ((h0 (sT a0) 4) + r1)) fun h3 =>
  bd (mS_note a0 0 p1 p3 h3) fun h4 =>
  bd (mS_leaveIfFallen a0 p1 h4) fun h5 =>
  some h5
theorem ctS_nibble (G : GG) (d : Nat) (a0 : Nat) (p1 : Int32) (p2 : Int32) (p3 : Int32) (q0 : shL[a0]? = some (7, 4)) (h0 : PH) (r : PH) (hm : mS_nibble a0 p1 p2 p3 h0 = some r) : Kx G tS_nibble (d + 4) [.ref (gB G + a0), .int p1, .int p2, .int p3] h0 none r := by
  refine K_of_V (by decide) (by simp [Value.category]) (by simp [tS_nibble]) ?_
  change Vx G tS_nibble (d + 4) 0 [some (.ref (gB G + a0)), some (.int p1), some (.int p2), some (.int p3)] [] h0 none r
  unfold mS_nibble at hm
  refine v_ald_0 dS_nibble_0 ?_
  refine v_getR dS_nibble_1 fuS_9 q0 (rf_sea_0 q0) ?_
  refine v_dup dS_nibble_4 rfl ?_
  refine v_getI dS_nibble_5 fuS_132 (sh_sea q0) (rf_bor_4 (sh_sea q0)) ?_
  refine v_ald_0 dS_nibble_8 ?_
  refine v_getR dS_nibble_9 fuS_9 q0 (rf_sea_0 q0) ?_
  refine v_ild_1 dS_nibble_12 ?_
  refine v_ild_2 dS_nibble_13 ?_
  refine v_ild_3 dS_nibble_14 ?_
  obtain ⟨r1, h2, he, hm⟩ := bd2_s hm
  refine v_cv3i (M' := tB_thin) dS_nibble_15 mlS_128 okB_thin (sh_sea q0) hc_1 (Nat.le_of_ble_eq_true rfl) (ctB_thin G (d + 2) _ _ _ _ (sh_sea q0) _ _ he) ?_
  refine v_iadd dS_nibble_18 ?_
  refine v_putIl dS_nibble_19 fuS_132 ft_1_4 (sh_sea q0) (rf_bor_4 (sh_sea q0)) hm (fun h3 hm => ?_)
  refine v_ald_0 dS_nibble_22 ?_
  refine v_iconst (x := 0) dS_nibble_23 rfl ?_
  refine v_ild_1 dS_nibble_24 ?_
  refine v_ild_3 dS_nibble_25 ?_
  obtain ⟨h4, he, hm⟩ := bd_s hm
  refine v_cv3v (M' := tS_note) dS_nibble_26 mlS_160 okS_note q0 hc_7 (Nat.le_of_ble_eq_true rfl) (ctS_note G (d + 2) _ _ _ _ q0 _ _ he) ?_
  refine v_ald_0 dS_nibble_29 ?_
  refine v_ild_1 dS_nibble_30 ?_
  obtain ⟨h5, he, hm⟩ := bd_s hm
  refine v_cv1v (M' := tS_leaveIfFallen) dS_nibble_31 mlS_82 okS_leaveIfFallen q0 hc_7 (Nat.le_of_ble_eq_true rfl) (ctS_leaveIfFallen G d _ _ q0 _ _ he) ?_
  cases hm
  exact v_ret dS_nibble_34 rfl
def mS_actByHand (a0 : Nat) (p1 : Int32) (p2 : Int32) (p3 : Int32) (h0 : PH) : Option (PH) :=
  bd (mX_within p1 0 3 h0) fun r1 =>
  if r1 = 0 then
    bd (mX_within p1 10 13 h0) fun r2 =>
    if r2 = 0 then
      if p1 = 20 then
        bd (mS_wed a0 p2 h0) fun h3 =>
        some h3
      else
        if p1 = 21 then
          bd (mS_moveLodgers a0 p2 p3 h0) fun h4 =>
          some h4
        else
          if p1 = 22 then
            bd (mS_raze a0 p2 h0) fun h5 =>
            some h5
          else
            some h0
    else
      bd (mB_thicken (sT a0) p2 (p1 - 10) p3 h0) fun h6 =>
      some h6
  else
    bd (mS_nibble a0 p2 p1 p3 h0) fun h7 =>
    some h7
theorem ctS_actByHand (G : GG) (d : Nat) (a0 : Nat) (p1 : Int32) (p2 : Int32) (p3 : Int32) (q0 : shL[a0]? = some (7, 4)) (h0 : PH) (r : PH) (hm : mS_actByHand a0 p1 p2 p3 h0 = some r) : Kx G tS_actByHand (d + 5) [.ref (gB G + a0), .int p1, .int p2, .int p3] h0 none r := by
  refine K_of_V (by decide) (by simp [Value.category]) (by simp [tS_actByHand]) ?_
  change Vx G tS_actByHand (d + 5) 0 [some (.ref (gB G + a0)), some (.int p1), some (.int p2), some (.int p3)] [] h0 none r
  unfold mS_actByHand at hm
  refine v_ild_1 dS_actByHand_0 ?_
  refine v_iconst (x := 0) dS_actByHand_1 rfl ?_
  refine v_iconst (x := 3) dS_actByHand_2 rfl ?_
  obtain ⟨r1, he, hm⟩ := bd_s hm
  refine v_cn3i (M' := tX_within) dS_actByHand_3 mlS_173 okX_within (Nat.le_of_ble_eq_true rfl) (ctX_within G (d + 4) _ _ _ _ _ he) ?_
  refine v_if_eq dS_actByHand_6 (fun hc => ?_) (fun hc => ?_)
  · replace hm := it hc hm
    refine v_ild_1 dS_actByHand_19 ?_
    refine v_bipush (x := 10) dS_actByHand_20 rfl ?_
    refine v_bipush (x := 13) dS_actByHand_22 rfl ?_
    obtain ⟨r2, he, hm⟩ := bd_s hm
    refine v_cn3i (M' := tX_within) dS_actByHand_24 mlS_173 okX_within (Nat.le_of_ble_eq_true rfl) (ctX_within G (d + 4) _ _ _ _ _ he) ?_
    refine v_if_eq dS_actByHand_27 (fun hc => ?_) (fun hc => ?_)
    · replace hm := it hc hm
      refine v_ild_1 dS_actByHand_46 ?_
      refine v_bipush (x := 20) dS_actByHand_47 rfl ?_
      refine v_cmp_ne dS_actByHand_49 (fun hc => ?_) (fun hc => ?_)
      · replace hm := it hc hm
        refine v_ald_0 dS_actByHand_52 ?_
        refine v_ild_2 dS_actByHand_53 ?_
        obtain ⟨h3, he, hm⟩ := bd_s hm
        refine v_cv1v (M' := tS_wed) dS_actByHand_54 mlS_112 okS_wed q0 hc_7 (Nat.le_of_ble_eq_true rfl) (ctS_wed G d _ _ q0 _ _ he) ?_
        refine v_goto dS_actByHand_57 ?_
        cases hm
        exact v_ret dS_actByHand_86 rfl
      · replace hm := ie hc hm
        refine v_ild_1 dS_actByHand_60 ?_
        refine v_bipush (x := 21) dS_actByHand_61 rfl ?_
        refine v_cmp_ne dS_actByHand_63 (fun hc => ?_) (fun hc => ?_)
        · replace hm := it hc hm
          refine v_ald_0 dS_actByHand_66 ?_
          refine v_ild_2 dS_actByHand_67 ?_
          refine v_ild_3 dS_actByHand_68 ?_
          obtain ⟨h4, he, hm⟩ := bd_s hm
          refine v_cv2v (M' := tS_moveLodgers) dS_actByHand_69 mlS_153 okS_moveLodgers q0 hc_7 (Nat.le_of_ble_eq_true rfl) (ctS_moveLodgers G (d + 2) _ _ _ q0 _ _ he) ?_
          refine v_goto dS_actByHand_72 ?_
          cases hm
          exact v_ret dS_actByHand_86 rfl
        · replace hm := ie hc hm
          refine v_ild_1 dS_actByHand_75 ?_
          refine v_bipush (x := 22) dS_actByHand_76 rfl ?_
          refine v_cmp_ne dS_actByHand_78 (fun hc => ?_) (fun hc => ?_)
          · replace hm := it hc hm
            refine v_ald_0 dS_actByHand_81 ?_
            refine v_ild_2 dS_actByHand_82 ?_
            obtain ⟨h5, he, hm⟩ := bd_s hm
            refine v_cv1v (M' := tS_raze) dS_actByHand_83 mlS_115 okS_raze q0 hc_7 (Nat.le_of_ble_eq_true rfl) (ctS_raze G d _ _ q0 _ _ he) ?_
            cases hm
            exact v_ret dS_actByHand_86 rfl
          · replace hm := ie hc hm
            cases hm
            exact v_ret dS_actByHand_86 rfl
    · replace hm := ie hc hm
      refine v_ald_0 dS_actByHand_30 ?_
      refine v_getR dS_actByHand_31 fuS_9 q0 (rf_sea_0 q0) ?_
      refine v_ild_2 dS_actByHand_34 ?_
      refine v_ild_1 dS_actByHand_35 ?_
      refine v_bipush (x := 10) dS_actByHand_36 rfl ?_
      refine v_isub dS_actByHand_38 ?_
      refine v_ild_3 dS_actByHand_39 ?_
      obtain ⟨h6, he, hm⟩ := bd_s hm
      refine v_cv3v (M' := tB_thicken) dS_actByHand_40 mlS_106 okB_thicken (sh_sea q0) hc_1 (Nat.le_of_ble_eq_true rfl) (ctB_thicken G (d + 3) _ _ _ _ (sh_sea q0) _ _ he) ?_
      refine v_goto dS_actByHand_43 ?_
      cases hm
      exact v_ret dS_actByHand_86 rfl
  · replace hm := ie hc hm
    refine v_ald_0 dS_actByHand_9 ?_
    refine v_ild_2 dS_actByHand_10 ?_
    refine v_ild_1 dS_actByHand_11 ?_
    refine v_ild_3 dS_actByHand_12 ?_
    obtain ⟨h7, he, hm⟩ := bd_s hm
    refine v_cv3v (M' := tS_nibble) dS_actByHand_13 mlS_177 okS_nibble q0 hc_7 (Nat.le_of_ble_eq_true rfl) (ctS_nibble G d _ _ _ _ q0 _ _ he) ?_
    refine v_goto dS_actByHand_16 ?_
    cases hm
    exact v_ret dS_actByHand_86 rfl
def mD_forgetFault (h0 : PH) : Option (PH) :=
  lt (up h0 90 2 0) fun h1 =>
  lt (up h1 90 3 (-1)) fun h2 =>
  some h2
theorem ctD_forgetFault (G : GG) (d : Nat) (h0 : PH) (r : PH) (hm : mD_forgetFault h0 = some r) : Kx G tD_forgetFault d [.ref (gB G + 90)] h0 none r := by
  refine K_of_V (by decide) (by simp [Value.category]) (by simp [tD_forgetFault]) ?_
  change Vx G tD_forgetFault d 0 [some (.ref (gB G + 90))] [] h0 none r
  unfold mD_forgetFault at hm
  refine v_ald_0 dD_forgetFault_0 ?_
  refine v_iconst (x := 0) dD_forgetFault_1 rfl ?_
  refine v_putIl dD_forgetFault_2 fuD_25 ft_5_2 sh_90 rf_90_2 hm (fun h1 hm => ?_)
  refine v_ald_0 dD_forgetFault_5 ?_
  refine v_iconst (x := (-1)) dD_forgetFault_6 rfl ?_
  refine v_putIl dD_forgetFault_7 fuD_29 ft_5_3 sh_90 rf_90_3 hm (fun h2 hm => ?_)
  cases hm
  exact v_ret dD_forgetFault_10 rfl
def mD_advance (h0 : PH) : Option (PH) :=
  lt (up h0 90 5 ((h0 90 5) + 1)) fun h1 =>
  jn1 (fun (x3 : Int32) =>
    jn1 (fun (x5 : Int32) =>
      lt (up h1 90 6 x5) fun h6 =>
      jn1 (fun (x8 : Int32) =>
        lt (up h6 90 7 x8) fun h9 =>
        some h9) fun j7 =>
      if x3 = 0 then
        j7 0
      else
        ck (h6 90 5) 401 <|
        j7 (h6 88 (ix (h6 90 5)))) fun j4 =>
    if x3 = 0 then
      j4 0
    else
      ck (h1 90 5) 401 <|
      j4 (h1 87 (ix (h1 90 5)))) fun j2 =>
  if (h1 90 5) < 0 then
    j2 0
  else
    if (h1 85 5) ≤ (h1 90 5) then
      j2 0
    else
      if 400 < (h1 90 5) then
        j2 0
      else
        j2 1
theorem ctD_advance (G : GG) (d : Nat) (h0 : PH) (r : PH) (hm : mD_advance h0 = some r) : Kx G tD_advance d [.ref (gB G + 90)] h0 none r := by
  refine K_of_V (by decide) (by simp [Value.category]) (by simp [tD_advance]) ?_
  change Vx G tD_advance d 0 [some (.ref (gB G + 90)), none] [] h0 none r
  unfold mD_advance at hm
  refine v_ald_0 dD_advance_0 ?_
  refine v_dup dD_advance_1 rfl ?_
  refine v_getI dD_advance_2 fuD_51 sh_90 rf_90_5 ?_
  refine v_iconst (x := 1) dD_advance_5 rfl ?_
  refine v_iadd dD_advance_6 ?_
  refine v_putIl dD_advance_7 fuD_51 ft_5_5 sh_90 rf_90_5 hm (fun h1 hm => ?_)
  refine v_ald_0 dD_advance_10 ?_
  refine v_getI dD_advance_11 fuD_51 sh_90 rf_90_5 ?_
  refine v_j1 (fun (x3 : Int32) => Vx G tD_advance d 46 [some (.ref (gB G + 90)), none] [.int x3] h1 none r) hm (fun x3 hm => ?_) (fun j2 kj2 hm => ?_)
  · refine v_ist_1 dD_advance_46 (by decide) rfl ?_
    refine v_ald_0 dD_advance_47 ?_
    refine v_ild_1 dD_advance_48 ?_
    refine v_j1 (fun (x5 : Int32) => Vx G tD_advance d 68 [some (.ref (gB G + 90)), some (.int x3)] [.int x5, .ref (gB G + 90)] h1 none r) hm (fun x5 hm => ?_) (fun j4 kj4 hm => ?_)
    · refine v_putIl dD_advance_68 fuD_57 ft_5_6 sh_90 rf_90_6 hm (fun h6 hm => ?_)
      refine v_ald_0 dD_advance_71 ?_
      refine v_ild_1 dD_advance_72 ?_
      refine v_j1 (fun (x8 : Int32) => Vx G tD_advance d 92 [none, none] [.int x8, .ref (gB G + 90)] h6 none r) hm (fun x8 hm => ?_) (fun j7 kj7 hm => ?_)
      · refine v_putIl dD_advance_92 fuD_60 ft_5_7 sh_90 rf_90_7 hm (fun h9 hm => ?_)
        cases hm
        exact v_ret dD_advance_95 rfl
      · refine v_if_eq dD_advance_73 (fun hc => ?_) (fun hc => ?_)
        · replace hm := it hc hm
          refine v_iconst (x := 0) dD_advance_91 rfl ?_
          exact v_kw (kj7 _ hm) (wk_n (wk_n wk_e))
        · replace hm := ie hc hm
          refine v_ald_0 dD_advance_76 ?_
          refine v_getR dD_advance_77 fuD_32 sh_90 rf_90_4 ?_
          refine v_getR dD_advance_80 fuD_137 sh_85 rf_85_2 ?_
          refine v_ald_0 dD_advance_83 ?_
          refine v_getI dD_advance_84 fuD_51 sh_90 rf_90_5 ?_
          obtain ⟨hi, hm⟩ := ck_s hm
          refine v_iald dD_advance_87 sh_88 hi ?_
          refine v_goto dD_advance_88 ?_
          exact v_kw (kj7 _ hm) (wk_n (wk_n wk_e))
    · refine v_if_eq dD_advance_49 (fun hc => ?_) (fun hc => ?_)
      · replace hm := it hc hm
        refine v_iconst (x := 0) dD_advance_67 rfl ?_
        exact v_kw (kj4 _ hm) (wk_s (wk_s wk_e))
      · replace hm := ie hc hm
        refine v_ald_0 dD_advance_52 ?_
        refine v_getR dD_advance_53 fuD_32 sh_90 rf_90_4 ?_
        refine v_getR dD_advance_56 fuD_133 sh_85 rf_85_1 ?_
        refine v_ald_0 dD_advance_59 ?_
        refine v_getI dD_advance_60 fuD_51 sh_90 rf_90_5 ?_
        obtain ⟨hi, hm⟩ := ck_s hm
        refine v_iald dD_advance_63 sh_87 hi ?_
        refine v_goto dD_advance_64 ?_
        exact v_kw (kj4 _ hm) (wk_s (wk_s wk_e))
  · refine v_if_lt dD_advance_14 (fun hc => ?_) (fun hc => ?_)
    · replace hm := it hc hm
      refine v_iconst (x := 0) dD_advance_45 rfl ?_
      exact v_kw (kj2 _ hm) (wk_s (wk_n wk_e))
    · replace hm := ie hc hm
      refine v_ald_0 dD_advance_17 ?_
      refine v_getI dD_advance_18 fuD_51 sh_90 rf_90_5 ?_
      refine v_ald_0 dD_advance_21 ?_
      refine v_getR dD_advance_22 fuD_32 sh_90 rf_90_4 ?_
      refine v_getI dD_advance_25 fuD_130 sh_85 rf_85_5 ?_
      refine v_cmp_ge dD_advance_28 (fun hc => ?_) (fun hc => ?_)
      · replace hm := it hc hm
        refine v_iconst (x := 0) dD_advance_45 rfl ?_
        exact v_kw (kj2 _ hm) (wk_s (wk_n wk_e))
      · replace hm := ie hc hm
        refine v_ald_0 dD_advance_31 ?_
        refine v_getI dD_advance_32 fuD_51 sh_90 rf_90_5 ?_
        refine v_sipush (x := 400) dD_advance_35 rfl ?_
        refine v_cmp_gt dD_advance_38 (fun hc => ?_) (fun hc => ?_)
        · replace hm := it hc hm
          refine v_iconst (x := 0) dD_advance_45 rfl ?_
          exact v_kw (kj2 _ hm) (wk_s (wk_n wk_e))
        · replace hm := ie hc hm
          refine v_iconst (x := 1) dD_advance_41 rfl ?_
          refine v_goto dD_advance_42 ?_
          exact v_kw (kj2 _ hm) (wk_s (wk_n wk_e))
def mD_refuse (p1 : Int32) (h0 : PH) : Option (Int32 × PH) :=
  lt (up h0 90 2 p1) fun h1 =>
  jn1 (fun (x3 : Int32) =>
    lt (up h1 90 3 x3) fun h4 =>
    some (0, h4)) fun j2 =>
  if (h1 90 5) < 0 then
    j2 (h1 85 4)
  else
    if (h1 85 5) ≤ (h1 90 5) then
      j2 (h1 85 4)
    else
      if 400 < (h1 90 5) then
        j2 (h1 85 4)
      else
        ck (h1 90 5) 401 <|
        j2 (h1 89 (ix (h1 90 5)))
theorem ctD_refuse (G : GG) (d : Nat) (p1 : Int32) (h0 : PH) (r : Int32 × PH) (hm : mD_refuse p1 h0 = some r) : Kx G tD_refuse d [.ref (gB G + 90), .int p1] h0 (some (.int r.1)) r.2 := by
  refine K_of_V (by decide) (by simp [Value.category]) (by simp [tD_refuse]) ?_
  change Vx G tD_refuse d 0 [some (.ref (gB G + 90)), some (.int p1)] [] h0 (some (.int r.1)) r.2
  unfold mD_refuse at hm
  refine v_ald_0 dD_refuse_0 ?_
  refine v_ild_1 dD_refuse_1 ?_
  refine v_putIl dD_refuse_2 fuD_25 ft_5_2 sh_90 rf_90_2 hm (fun h1 hm => ?_)
  refine v_ald_0 dD_refuse_5 ?_
  refine v_ald_0 dD_refuse_6 ?_
  refine v_getI dD_refuse_7 fuD_51 sh_90 rf_90_5 ?_
  refine v_j1 (fun (x3 : Int32) => Vx G tD_refuse d 59 [none, none] [.int x3, .ref (gB G + 90)] h1 (some (.int r.1)) r.2) hm (fun x3 hm => ?_) (fun j2 kj2 hm => ?_)
  · refine v_putIl dD_refuse_59 fuD_29 ft_5_3 sh_90 rf_90_3 hm (fun h4 hm => ?_)
    refine v_iconst (x := 0) dD_refuse_62 rfl ?_
    cases hm
    exact v_zret0 dD_refuse_63 rfl
  · refine v_if_lt dD_refuse_10 (fun hc => ?_) (fun hc => ?_)
    · replace hm := it hc hm
      refine v_ald_0 dD_refuse_52 ?_
      refine v_getR dD_refuse_53 fuD_32 sh_90 rf_90_4 ?_
      refine v_getI dD_refuse_56 fuD_143 sh_85 rf_85_4 ?_
      exact v_kw (kj2 _ hm) (wk_n (wk_n wk_e))
    · replace hm := ie hc hm
      refine v_ald_0 dD_refuse_13 ?_
      refine v_getI dD_refuse_14 fuD_51 sh_90 rf_90_5 ?_
      refine v_ald_0 dD_refuse_17 ?_
      refine v_getR dD_refuse_18 fuD_32 sh_90 rf_90_4 ?_
      refine v_getI dD_refuse_21 fuD_130 sh_85 rf_85_5 ?_
      refine v_cmp_ge dD_refuse_24 (fun hc => ?_) (fun hc => ?_)
      · replace hm := it hc hm
        refine v_ald_0 dD_refuse_52 ?_
        refine v_getR dD_refuse_53 fuD_32 sh_90 rf_90_4 ?_
        refine v_getI dD_refuse_56 fuD_143 sh_85 rf_85_4 ?_
        exact v_kw (kj2 _ hm) (wk_n (wk_n wk_e))
      · replace hm := ie hc hm
        refine v_ald_0 dD_refuse_27 ?_
        refine v_getI dD_refuse_28 fuD_51 sh_90 rf_90_5 ?_
        refine v_sipush (x := 400) dD_refuse_31 rfl ?_
        refine v_cmp_gt dD_refuse_34 (fun hc => ?_) (fun hc => ?_)
        · replace hm := it hc hm
          refine v_ald_0 dD_refuse_52 ?_
          refine v_getR dD_refuse_53 fuD_32 sh_90 rf_90_4 ?_
          refine v_getI dD_refuse_56 fuD_143 sh_85 rf_85_4 ?_
          exact v_kw (kj2 _ hm) (wk_n (wk_n wk_e))
        · replace hm := ie hc hm
          refine v_ald_0 dD_refuse_37 ?_
          refine v_getR dD_refuse_38 fuD_32 sh_90 rf_90_4 ?_
          refine v_getR dD_refuse_41 fuD_140 sh_85 rf_85_3 ?_
          refine v_ald_0 dD_refuse_44 ?_
          refine v_getI dD_refuse_45 fuD_51 sh_90 rf_90_5 ?_
          obtain ⟨hi, hm⟩ := ck_s hm
          refine v_iald dD_refuse_48 sh_89 hi ?_
          refine v_goto dD_refuse_49 ?_
          exact v_kw (kj2 _ hm) (wk_n (wk_n wk_e))
def mD_unit (h0 : PH) : Option (Int32 × PH) :=
  jn1 (fun (h2 : PH) =>
    bd (mD_advance h2) fun h3 =>
    some (1, h3)) fun j1 =>
  if (h0 90 6) = 2 then
    bd2 (mR_add 93 0 (h0 90 7) 0 0 0 h0) fun r4 h5 =>
    j1 h5
  else
    jn0 (bd2 (mD_refuse 1 h0) fun r7 h8 =>
      some (nb r7, h8)) fun j6 =>
    if (h0 90 6) = 1 then
      if (h0 90 7) < 7 then
        j6
      else
        bd2 (mR_add 93 1 ((h0 90 7) - 7) 0 0 0 h0) fun r9 h10 =>
        j1 h10
    else
      j6
theorem ctD_unit (G : GG) (d : Nat) (h0 : PH) (r : Int32 × PH) (hm : mD_unit h0 = some r) : Kx G tD_unit (d + 1) [.ref (gB G + 90)] h0 (some (.int r.1)) r.2 := by
  refine K_of_V (by decide) (by simp [Value.category]) (by simp [tD_unit]) ?_
  change Vx G tD_unit (d + 1) 0 [some (.ref (gB G + 90))] [] h0 (some (.int r.1)) r.2
  unfold mD_unit at hm
  refine v_ald_0 dD_unit_0 ?_
  refine v_getI dD_unit_1 fuD_57 sh_90 rf_90_6 ?_
  refine v_iconst (x := 2) dD_unit_4 rfl ?_
  refine v_j1 (fun (h2 : PH) => Vx G tD_unit (d + 1) 72 [some (.ref (gB G + 90))] [] h2 (some (.int r.1)) r.2) hm (fun h2 hm => ?_) (fun j1 kj1 hm => ?_)
  · refine v_ald_0 dD_unit_72 ?_
    obtain ⟨h3, he, hm⟩ := bd_s hm
    refine v_cv0v (M' := tD_advance) dD_unit_73 mlD_54 okD_advance sh_90 hc_5 (Nat.le_of_ble_eq_true rfl) (ctD_advance G d _ _ he) ?_
    refine v_iconst (x := 1) dD_unit_76 rfl ?_
    cases hm
    exact v_zret1 dD_unit_77 rfl
  · refine v_cmp_ne dD_unit_5 (fun hc => ?_) (fun hc => ?_)
    · replace hm := it hc hm
      refine v_ald_0 dD_unit_8 ?_
      refine v_getR dD_unit_9 fuD_22 sh_90 rf_90_1 ?_
      refine v_iconst (x := 0) dD_unit_12 rfl ?_
      refine v_ald_0 dD_unit_13 ?_
      refine v_getI dD_unit_14 fuD_60 sh_90 rf_90_7 ?_
      refine v_iconst (x := 0) dD_unit_17 rfl ?_
      refine v_iconst (x := 0) dD_unit_18 rfl ?_
      refine v_iconst (x := 0) dD_unit_19 rfl ?_
      obtain ⟨r4, h5, he, hm⟩ := bd2_s hm
      refine v_cv5i (M' := tR_add) dD_unit_20 mlD_101 okR_add sh_93 hc_6 (Nat.le_of_ble_eq_true rfl) (ctR_add G d _ _ _ _ _ _ sh_93 _ _ he) ?_
      refine v_pop dD_unit_23 rfl ?_
      refine v_goto dD_unit_24 ?_
      exact v_kw (kj1 _ hm) (wk_s wk_e)
    · replace hm := ie hc hm
      refine v_ald_0 dD_unit_27 ?_
      refine v_getI dD_unit_28 fuD_57 sh_90 rf_90_6 ?_
      refine v_iconst (x := 1) dD_unit_31 rfl ?_
      refine v_j0 (Vx G tD_unit (d + 1) 66 [some (.ref (gB G + 90))] [] h0 (some (.int r.1)) r.2) hm (fun hm => ?_) (fun j6 kj6 hm => ?_)
      · refine v_ald_0 dD_unit_66 ?_
        refine v_iconst (x := 1) dD_unit_67 rfl ?_
        obtain ⟨r7, h8, he, hm⟩ := bd2_s hm
        refine v_cv1i (M' := tD_refuse) dD_unit_68 mlD_63 okD_refuse sh_90 hc_5 (Nat.le_of_ble_eq_true rfl) (ctD_refuse G d _ _ _ he) ?_
        cases hm
        exact v_zret dD_unit_71 rfl
      · refine v_cmp_ne dD_unit_32 (fun hc => ?_) (fun hc => ?_)
        · replace hm := it hc hm
          refine v_ald_0 dD_unit_35 ?_
          refine v_getI dD_unit_36 fuD_60 sh_90 rf_90_7 ?_
          refine v_bipush (x := 7) dD_unit_39 rfl ?_
          refine v_cmp_lt dD_unit_41 (fun hc => ?_) (fun hc => ?_)
          · replace hm := it hc hm
            exact v_kw (kj6 hm) (wk_s wk_e)
          · replace hm := ie hc hm
            refine v_ald_0 dD_unit_44 ?_
            refine v_getR dD_unit_45 fuD_22 sh_90 rf_90_1 ?_
            refine v_iconst (x := 1) dD_unit_48 rfl ?_
            refine v_ald_0 dD_unit_49 ?_
            refine v_getI dD_unit_50 fuD_60 sh_90 rf_90_7 ?_
            refine v_bipush (x := 7) dD_unit_53 rfl ?_
            refine v_isub dD_unit_55 ?_
            refine v_iconst (x := 0) dD_unit_56 rfl ?_
            refine v_iconst (x := 0) dD_unit_57 rfl ?_
            refine v_iconst (x := 0) dD_unit_58 rfl ?_
            obtain ⟨r9, h10, he, hm⟩ := bd2_s hm
            refine v_cv5i (M' := tR_add) dD_unit_59 mlD_101 okR_add sh_93 hc_6 (Nat.le_of_ble_eq_true rfl) (ctR_add G d _ _ _ _ _ _ sh_93 _ _ he) ?_
            refine v_pop dD_unit_62 rfl ?_
            refine v_goto dD_unit_63 ?_
            exact v_kw (kj1 _ hm) (wk_s wk_e)
        · replace hm := ie hc hm
          exact v_kw (kj6 hm) (wk_s wk_e)
def mD_isSign (p1 : Int32) (h0 : PH) : Option (Int32) :=
  if (h0 90 6) = 3 then
    if (h0 90 7) = p1 then
      some 1
    else
      some 0
  else
    some 0
theorem ctD_isSign (G : GG) (d : Nat) (p1 : Int32) (h0 : PH) (r : Int32) (hm : mD_isSign p1 h0 = some r) : Kx G tD_isSign d [.ref (gB G + 90), .int p1] h0 (some (.int r)) h0 := by
  refine K_of_V (by decide) (by simp [Value.category]) (by simp [tD_isSign]) ?_
  change Vx G tD_isSign d 0 [some (.ref (gB G + 90)), some (.int p1)] [] h0 (some (.int r)) h0
  unfold mD_isSign at hm
  refine v_ald_0 dD_isSign_0 ?_
  refine v_getI dD_isSign_1 fuD_57 sh_90 rf_90_6 ?_
  refine v_iconst (x := 3) dD_isSign_4 rfl ?_
  refine v_cmp_ne dD_isSign_5 (fun hc => ?_) (fun hc => ?_)
  · replace hm := it hc hm
    refine v_ald_0 dD_isSign_8 ?_
    refine v_getI dD_isSign_9 fuD_60 sh_90 rf_90_7 ?_
    refine v_ild_1 dD_isSign_12 ?_
    refine v_cmp_ne dD_isSign_13 (fun hc => ?_) (fun hc => ?_)
    · replace hm := it hc hm
      refine v_iconst (x := 1) dD_isSign_16 rfl ?_
      refine v_goto dD_isSign_17 ?_
      cases hm
      exact v_zret1 dD_isSign_21 rfl
    · replace hm := ie hc hm
      refine v_iconst (x := 0) dD_isSign_20 rfl ?_
      cases hm
      exact v_zret0 dD_isSign_21 rfl
  · replace hm := ie hc hm
    refine v_iconst (x := 0) dD_isSign_20 rfl ?_
    cases hm
    exact v_zret0 dD_isSign_21 rfl
def mD_takesNumber (p1 : Int32) (p2 : Int32) (h0 : PH) : Option (Int32 × PH) :=
  if (h0 90 6) = 2 then
    bd (mX_within (h0 90 7) p1 p2 h0) fun r1 =>
    if r1 = 0 then
      bd2 (mD_refuse 2 h0) fun r2 h3 =>
      some (nb r2, h3)
    else
      lt (up h0 90 9 (h0 90 7)) fun h4 =>
      bd (mD_advance h4) fun h5 =>
      some (1, h5)
  else
    bd2 (mD_refuse 1 h0) fun r6 h7 =>
    some (nb r6, h7)
theorem ctD_takesNumber (G : GG) (d : Nat) (p1 : Int32) (p2 : Int32) (h0 : PH) (r : Int32 × PH) (hm : mD_takesNumber p1 p2 h0 = some r) : Kx G tD_takesNumber (d + 1) [.ref (gB G + 90), .int p1, .int p2] h0 (some (.int r.1)) r.2 := by
  refine K_of_V (by decide) (by simp [Value.category]) (by simp [tD_takesNumber]) ?_
  change Vx G tD_takesNumber (d + 1) 0 [some (.ref (gB G + 90)), some (.int p1), some (.int p2)] [] h0 (some (.int r.1)) r.2
  unfold mD_takesNumber at hm
  refine v_ald_0 dD_takesNumber_0 ?_
  refine v_getI dD_takesNumber_1 fuD_57 sh_90 rf_90_6 ?_
  refine v_iconst (x := 2) dD_takesNumber_4 rfl ?_
  refine v_cmp_eq dD_takesNumber_5 (fun hc => ?_) (fun hc => ?_)
  · replace hm := it hc hm
    refine v_ald_0 dD_takesNumber_14 ?_
    refine v_getI dD_takesNumber_15 fuD_60 sh_90 rf_90_7 ?_
    refine v_ild_1 dD_takesNumber_18 ?_
    refine v_ild_2 dD_takesNumber_19 ?_
    obtain ⟨r1, he, hm⟩ := bd_s hm
    refine v_cn3i (M' := tX_within) dD_takesNumber_20 mlD_112 okX_within (Nat.le_of_ble_eq_true rfl) (ctX_within G d _ _ _ _ _ he) ?_
    refine v_if_ne dD_takesNumber_23 (fun hc => ?_) (fun hc => ?_)
    · replace hm := it hc hm
      refine v_ald_0 dD_takesNumber_26 ?_
      refine v_iconst (x := 2) dD_takesNumber_27 rfl ?_
      obtain ⟨r2, h3, he, hm⟩ := bd2_s hm
      refine v_cv1i (M' := tD_refuse) dD_takesNumber_28 mlD_63 okD_refuse sh_90 hc_5 (Nat.le_of_ble_eq_true rfl) (ctD_refuse G d _ _ _ he) ?_
      cases hm
      exact v_zret dD_takesNumber_31 rfl
    · replace hm := ie hc hm
      refine v_ald_0 dD_takesNumber_32 ?_
      refine v_ald_0 dD_takesNumber_33 ?_
      refine v_getI dD_takesNumber_34 fuD_60 sh_90 rf_90_7 ?_
      refine v_putIl dD_takesNumber_37 fuD_109 ft_5_9 sh_90 rf_90_9 hm (fun h4 hm => ?_)
      refine v_ald_0 dD_takesNumber_40 ?_
      obtain ⟨h5, he, hm⟩ := bd_s hm
      refine v_cv0v (M' := tD_advance) dD_takesNumber_41 mlD_54 okD_advance sh_90 hc_5 (Nat.le_of_ble_eq_true rfl) (ctD_advance G d _ _ he) ?_
      refine v_iconst (x := 1) dD_takesNumber_44 rfl ?_
      cases hm
      exact v_zret1 dD_takesNumber_45 rfl
  · replace hm := ie hc hm
    refine v_ald_0 dD_takesNumber_8 ?_
    refine v_iconst (x := 1) dD_takesNumber_9 rfl ?_
    obtain ⟨r6, h7, he, hm⟩ := bd2_s hm
    refine v_cv1i (M' := tD_refuse) dD_takesNumber_10 mlD_63 okD_refuse sh_90 hc_5 (Nat.le_of_ble_eq_true rfl) (ctD_refuse G d _ _ _ he) ?_
    cases hm
    exact v_zret dD_takesNumber_13 rfl
def mD_emit (p1 : Int32) (p2 : Int32) (h0 : PH) : Option (Int32 × PH) :=
  bd2 (mR_add 93 p1 p2 0 0 0 h0) fun r1 h2 =>
  some (nb r1, h2)
theorem ctD_emit (G : GG) (d : Nat) (p1 : Int32) (p2 : Int32) (h0 : PH) (r : Int32 × PH) (hm : mD_emit p1 p2 h0 = some r) : Kx G tD_emit (d + 1) [.ref (gB G + 90), .int p1, .int p2] h0 (some (.int r.1)) r.2 := by
  refine K_of_V (by decide) (by simp [Value.category]) (by simp [tD_emit]) ?_
  change Vx G tD_emit (d + 1) 0 [some (.ref (gB G + 90)), some (.int p1), some (.int p2)] [] h0 (some (.int r.1)) r.2
  unfold mD_emit at hm
  refine v_ald_0 dD_emit_0 ?_
  refine v_getR dD_emit_1 fuD_22 sh_90 rf_90_1 ?_
  refine v_ild_1 dD_emit_4 ?_
  refine v_ild_2 dD_emit_5 ?_
  refine v_iconst (x := 0) dD_emit_6 rfl ?_
  refine v_iconst (x := 0) dD_emit_7 rfl ?_
  refine v_iconst (x := 0) dD_emit_8 rfl ?_
  obtain ⟨r1, h2, he, hm⟩ := bd2_s hm
  refine v_cv5i (M' := tR_add) dD_emit_9 mlD_101 okR_add sh_93 hc_6 (Nat.le_of_ble_eq_true rfl) (ctR_add G d _ _ _ _ _ _ sh_93 _ _ he) ?_
  cases hm
  exact v_zret dD_emit_12 rfl
def mD_expression_L13 (k0 : Int32 → PH → Option (Int32 × PH)) : Nat → Int32 → Int32 → PH → Option (Int32 × PH)
  | 0, _, _, _ => none
  | n + 1, v1, v2, hv =>
    if 400 ≤ v2 then
      k0 v1 hv
    else
      bd (mD_isSign 43 hv) fun r3 =>
      jn0 (lt (hv 90 7) fun x5 =>
        bd (mD_advance hv) fun h6 =>
        if x5 = 47 then
          bd2 (mD_takesNumber 1 9999 h6) fun r7 h8 =>
          if r7 = 0 then
            some (0, h8)
          else
            bd2 (mD_emit 5 (h8 90 9) h8) fun r9 h10 =>
            mD_expression_L13 k0 n v1 (v2 + 1) h10
        else
          jn2 (fun (x12 : Int32) (h13 : PH) =>
            bd2 (mD_unit h13) fun r14 h15 =>
            if r14 = 0 then
              some (0, h15)
            else
              if x5 = 42 then
                bd2 (mD_emit 4 0 h15) fun r16 h17 =>
                mD_expression_L13 k0 n x12 (v2 + 1) h17
              else
                mD_expression_L13 k0 n x12 (v2 + 1) h15) fun j11 =>
          if x5 = 42 then
            j11 v1 h6
          else
            jn1 (fun (h19 : PH) =>
              if x5 = 43 then
                j11 2 h19
              else
                j11 3 h19) fun j18 =>
            if v1 = (-1) then
              j18 h6
            else
              bd2 (mD_emit v1 0 h6) fun r20 h21 =>
              j18 h21) fun j4 =>
      if r3 = 0 then
        bd (mD_isSign 45 hv) fun r22 =>
        if r22 = 0 then
          bd (mD_isSign 42 hv) fun r23 =>
          if r23 = 0 then
            bd (mD_isSign 47 hv) fun r24 =>
            if r24 = 0 then
              k0 v1 hv
            else
              j4
          else
            j4
        else
          j4
      else
        j4
def mD_expression (h0 : PH) : Option (Int32 × PH) :=
  bd2 (mD_unit h0) fun r1 h2 =>
  if r1 = 0 then
    some (0, h2)
  else
    mD_expression_L13 (fun (x25 : Int32) (h26 : PH) =>
      if x25 = (-1) then
        some (1, h26)
      else
        bd2 (mD_emit x25 0 h26) fun r27 h28 =>
        if r27 = 0 then
          some (0, h28)
        else
          some (1, h28)) FU (-1) 0 h2
theorem wD_expression_L13 (G : GG) (d : Nat) (k0 : Int32 → PH → Option (Int32 × PH)) (r : Int32 × PH) (kk0 : ∀ (y1 : Int32) (hy : PH), k0 y1 hy = some r → Vx G tD_expression (d + 2) 155 [some (.ref (gB G + 90)), some (.int y1), none, none] [] hy (some (.int r.1)) r.2) : ∀ (n : Nat) (v1 : Int32) (v2 : Int32) (hv : PH), mD_expression_L13 k0 n v1 v2 hv = some r → Vx G tD_expression (d + 2) 13 [some (.ref (gB G + 90)), some (.int v1), some (.int v2), none] [] hv (some (.int r.1)) r.2 := by
  intro n
  induction n with
  | zero => intro v1 v2 hv hm; cases hm
  | succ n ih =>
    intro v1 v2 hv hm
    unfold mD_expression_L13 at hm
    refine v_ild_2 dD_expression_13 ?_
    refine v_sipush (x := 400) dD_expression_14 rfl ?_
    refine v_cmp_ge dD_expression_17 (fun hc => ?_) (fun hc => ?_)
    · replace hm := it hc hm
      exact v_kw (kk0 _ _ hm) (wk_s (wk_s (wk_n (wk_n wk_e))))
    · replace hm := ie hc hm
      refine v_ald_0 dD_expression_20 ?_
      refine v_bipush (x := 43) dD_expression_21 rfl ?_
      obtain ⟨r3, he, hm⟩ := bd_s hm
      refine v_cv1i (M' := tD_isSign) dD_expression_23 mlD_119 okD_isSign sh_90 hc_5 (Nat.le_of_ble_eq_true rfl) (ctD_isSign G (d + 1) _ _ _ he) ?_
      refine v_j0 (Vx G tD_expression (d + 2) 56 [some (.ref (gB G + 90)), some (.int v1), some (.int v2), none] [] hv (some (.int r.1)) r.2) hm (fun hm => ?_) (fun j4 kj4 hm => ?_)
      · refine v_ald_0 dD_expression_56 ?_
        refine v_getI dD_expression_57 fuD_60 sh_90 rf_90_7 ?_
        refine v_top hm (fun x5 hm => ?_)
        refine v_ist_3 dD_expression_60 (by decide) rfl ?_
        refine v_ald_0 dD_expression_61 ?_
        obtain ⟨h6, he, hm⟩ := bd_s hm
        refine v_cv0v (M' := tD_advance) dD_expression_62 mlD_54 okD_advance sh_90 hc_5 (Nat.le_of_ble_eq_true rfl) (ctD_advance G (d + 1) _ _ he) ?_
        refine v_ild_3 dD_expression_65 ?_
        refine v_bipush (x := 47) dD_expression_66 rfl ?_
        refine v_cmp_ne dD_expression_68 (fun hc => ?_) (fun hc => ?_)
        · replace hm := it hc hm
          refine v_ald_0 dD_expression_71 ?_
          refine v_iconst (x := 1) dD_expression_72 rfl ?_
          refine v_sipush (x := 9999) dD_expression_73 rfl ?_
          obtain ⟨r7, h8, he, hm⟩ := bd2_s hm
          refine v_cv2i (M' := tD_takesNumber) dD_expression_76 mlD_105 okD_takesNumber sh_90 hc_5 (Nat.le_of_ble_eq_true rfl) (ctD_takesNumber G d _ _ _ _ he) ?_
          refine v_if_ne dD_expression_79 (fun hc => ?_) (fun hc => ?_)
          · replace hm := it hc hm
            refine v_iconst (x := 0) dD_expression_82 rfl ?_
            cases hm
            exact v_zret0 dD_expression_83 rfl
          · replace hm := ie hc hm
            refine v_ald_0 dD_expression_84 ?_
            refine v_iconst (x := 5) dD_expression_85 rfl ?_
            refine v_ald_0 dD_expression_86 ?_
            refine v_getI dD_expression_87 fuD_109 sh_90 rf_90_9 ?_
            obtain ⟨r9, h10, he, hm⟩ := bd2_s hm
            refine v_cv2i (M' := tD_emit) dD_expression_90 mlD_124 okD_emit sh_90 hc_5 (Nat.le_of_ble_eq_true rfl) (ctD_emit G d _ _ _ _ he) ?_
            refine v_pop dD_expression_93 rfl ?_
            refine v_goto dD_expression_94 ?_
            refine v_inc_2 1 dD_expression_149 rfl (by decide) rfl ?_
            refine v_goto dD_expression_152 ?_
            exact v_kw (ih _ _ _ hm) (wk_s (wk_s (wk_s (wk_n wk_e))))
        · replace hm := ie hc hm
          refine v_ild_3 dD_expression_97 ?_
          refine v_bipush (x := 42) dD_expression_98 rfl ?_
          refine v_j2 (fun (x12 : Int32) (h13 : PH) => Vx G tD_expression (d + 2) 127 [some (.ref (gB G + 90)), some (.int x12), some (.int v2), some (.int x5)] [] h13 (some (.int r.1)) r.2) hm (fun x12 h13 hm => ?_) (fun j11 kj11 hm => ?_)
          · refine v_ald_0 dD_expression_127 ?_
            obtain ⟨r14, h15, he, hm⟩ := bd2_s hm
            refine v_cv0i (M' := tD_unit) dD_expression_128 mlD_116 okD_unit sh_90 hc_5 (Nat.le_of_ble_eq_true rfl) (ctD_unit G d _ _ he) ?_
            refine v_if_ne dD_expression_131 (fun hc => ?_) (fun hc => ?_)
            · replace hm := it hc hm
              refine v_iconst (x := 0) dD_expression_134 rfl ?_
              cases hm
              exact v_zret0 dD_expression_135 rfl
            · replace hm := ie hc hm
              refine v_ild_3 dD_expression_136 ?_
              refine v_bipush (x := 42) dD_expression_137 rfl ?_
              refine v_cmp_ne dD_expression_139 (fun hc => ?_) (fun hc => ?_)
              · replace hm := it hc hm
                refine v_ald_0 dD_expression_142 ?_
                refine v_iconst (x := 4) dD_expression_143 rfl ?_
                refine v_iconst (x := 0) dD_expression_144 rfl ?_
                obtain ⟨r16, h17, he, hm⟩ := bd2_s hm
                refine v_cv2i (M' := tD_emit) dD_expression_145 mlD_124 okD_emit sh_90 hc_5 (Nat.le_of_ble_eq_true rfl) (ctD_emit G d _ _ _ _ he) ?_
                refine v_pop dD_expression_148 rfl ?_
                refine v_inc_2 1 dD_expression_149 rfl (by decide) rfl ?_
                refine v_goto dD_expression_152 ?_
                exact v_kw (ih _ _ _ hm) (wk_s (wk_s (wk_s (wk_n wk_e))))
              · replace hm := ie hc hm
                refine v_inc_2 1 dD_expression_149 rfl (by decide) rfl ?_
                refine v_goto dD_expression_152 ?_
                exact v_kw (ih _ _ _ hm) (wk_s (wk_s (wk_s (wk_n wk_e))))
          · refine v_cmp_eq dD_expression_100 (fun hc => ?_) (fun hc => ?_)
            · replace hm := it hc hm
              exact v_kw (kj11 _ _ hm) (wk_s (wk_s (wk_s (wk_s wk_e))))
            · replace hm := ie hc hm
              refine v_ild_1 dD_expression_103 ?_
              refine v_iconst (x := (-1)) dD_expression_104 rfl ?_
              refine v_j1 (fun (h19 : PH) => Vx G tD_expression (d + 2) 115 [some (.ref (gB G + 90)), none, some (.int v2), some (.int x5)] [] h19 (some (.int r.1)) r.2) hm (fun h19 hm => ?_) (fun j18 kj18 hm => ?_)
              · refine v_ild_3 dD_expression_115 ?_
                refine v_bipush (x := 43) dD_expression_116 rfl ?_
                refine v_cmp_ne dD_expression_118 (fun hc => ?_) (fun hc => ?_)
                · replace hm := it hc hm
                  refine v_iconst (x := 2) dD_expression_121 rfl ?_
                  refine v_goto dD_expression_122 ?_
                  refine v_ist_1 dD_expression_126 (by decide) rfl ?_
                  exact v_kw (kj11 _ _ hm) (wk_s (wk_s (wk_s (wk_s wk_e))))
                · replace hm := ie hc hm
                  refine v_iconst (x := 3) dD_expression_125 rfl ?_
                  refine v_ist_1 dD_expression_126 (by decide) rfl ?_
                  exact v_kw (kj11 _ _ hm) (wk_s (wk_s (wk_s (wk_s wk_e))))
              · refine v_cmp_eq dD_expression_105 (fun hc => ?_) (fun hc => ?_)
                · replace hm := it hc hm
                  exact v_kw (kj18 _ hm) (wk_s (wk_n (wk_s (wk_s wk_e))))
                · replace hm := ie hc hm
                  refine v_ald_0 dD_expression_108 ?_
                  refine v_ild_1 dD_expression_109 ?_
                  refine v_iconst (x := 0) dD_expression_110 rfl ?_
                  obtain ⟨r20, h21, he, hm⟩ := bd2_s hm
                  refine v_cv2i (M' := tD_emit) dD_expression_111 mlD_124 okD_emit sh_90 hc_5 (Nat.le_of_ble_eq_true rfl) (ctD_emit G d _ _ _ _ he) ?_
                  refine v_pop dD_expression_114 rfl ?_
                  exact v_kw (kj18 _ hm) (wk_s (wk_n (wk_s (wk_s wk_e))))
      · refine v_if_ne dD_expression_26 (fun hc => ?_) (fun hc => ?_)
        · replace hm := it hc hm
          refine v_ald_0 dD_expression_29 ?_
          refine v_bipush (x := 45) dD_expression_30 rfl ?_
          obtain ⟨r22, he, hm⟩ := bd_s hm
          refine v_cv1i (M' := tD_isSign) dD_expression_32 mlD_119 okD_isSign sh_90 hc_5 (Nat.le_of_ble_eq_true rfl) (ctD_isSign G (d + 1) _ _ _ he) ?_
          refine v_if_ne dD_expression_35 (fun hc => ?_) (fun hc => ?_)
          · replace hm := it hc hm
            refine v_ald_0 dD_expression_38 ?_
            refine v_bipush (x := 42) dD_expression_39 rfl ?_
            obtain ⟨r23, he, hm⟩ := bd_s hm
            refine v_cv1i (M' := tD_isSign) dD_expression_41 mlD_119 okD_isSign sh_90 hc_5 (Nat.le_of_ble_eq_true rfl) (ctD_isSign G (d + 1) _ _ _ he) ?_
            refine v_if_ne dD_expression_44 (fun hc => ?_) (fun hc => ?_)
            · replace hm := it hc hm
              refine v_ald_0 dD_expression_47 ?_
              refine v_bipush (x := 47) dD_expression_48 rfl ?_
              obtain ⟨r24, he, hm⟩ := bd_s hm
              refine v_cv1i (M' := tD_isSign) dD_expression_50 mlD_119 okD_isSign sh_90 hc_5 (Nat.le_of_ble_eq_true rfl) (ctD_isSign G (d + 1) _ _ _ he) ?_
              refine v_if_eq dD_expression_53 (fun hc => ?_) (fun hc => ?_)
              · replace hm := it hc hm
                exact v_kw (kk0 _ _ hm) (wk_s (wk_s (wk_n (wk_n wk_e))))
              · replace hm := ie hc hm
                exact v_kw (kj4 hm) (wk_s (wk_s (wk_s (wk_n wk_e))))
            · replace hm := ie hc hm
              exact v_kw (kj4 hm) (wk_s (wk_s (wk_s (wk_n wk_e))))
          · replace hm := ie hc hm
            exact v_kw (kj4 hm) (wk_s (wk_s (wk_s (wk_n wk_e))))
        · replace hm := ie hc hm
          exact v_kw (kj4 hm) (wk_s (wk_s (wk_s (wk_n wk_e))))
theorem ctD_expression (G : GG) (d : Nat) (h0 : PH) (r : Int32 × PH) (hm : mD_expression h0 = some r) : Kx G tD_expression (d + 2) [.ref (gB G + 90)] h0 (some (.int r.1)) r.2 := by
  refine K_of_V (by decide) (by simp [Value.category]) (by simp [tD_expression]) ?_
  change Vx G tD_expression (d + 2) 0 [some (.ref (gB G + 90)), none, none, none] [] h0 (some (.int r.1)) r.2
  unfold mD_expression at hm
  refine v_iconst (x := (-1)) dD_expression_0 rfl ?_
  refine v_ist_1 dD_expression_1 (by decide) rfl ?_
  refine v_ald_0 dD_expression_2 ?_
  obtain ⟨r1, h2, he, hm⟩ := bd2_s hm
  refine v_cv0i (M' := tD_unit) dD_expression_3 mlD_116 okD_unit sh_90 hc_5 (Nat.le_of_ble_eq_true rfl) (ctD_unit G d _ _ he) ?_
  refine v_if_ne dD_expression_6 (fun hc => ?_) (fun hc => ?_)
  · replace hm := it hc hm
    refine v_iconst (x := 0) dD_expression_9 rfl ?_
    cases hm
    exact v_zret0 dD_expression_10 rfl
  · replace hm := ie hc hm
    refine v_iconst (x := 0) dD_expression_11 rfl ?_
    refine v_ist_2 dD_expression_12 (by decide) rfl ?_
    refine v_kw (wD_expression_L13 G d _ _ (fun x25 h26 hm => ?_) FU _ _ _ hm) (wk_s (wk_s (wk_s (wk_n wk_e))))
    refine v_ild_1 dD_expression_155 ?_
    refine v_iconst (x := (-1)) dD_expression_156 rfl ?_
    refine v_cmp_eq dD_expression_157 (fun hc => ?_) (fun hc => ?_)
    · replace hm := it hc hm
      refine v_iconst (x := 1) dD_expression_169 rfl ?_
      refine v_goto dD_expression_170 ?_
      cases hm
      exact v_zret1 dD_expression_174 rfl
    · replace hm := ie hc hm
      refine v_ald_0 dD_expression_160 ?_
      refine v_ild_1 dD_expression_161 ?_
      refine v_iconst (x := 0) dD_expression_162 rfl ?_
      obtain ⟨r27, h28, he, hm⟩ := bd2_s hm
      refine v_cv2i (M' := tD_emit) dD_expression_163 mlD_124 okD_emit sh_90 hc_5 (Nat.le_of_ble_eq_true rfl) (ctD_emit G d _ _ _ _ he) ?_
      refine v_if_eq dD_expression_166 (fun hc => ?_) (fun hc => ?_)
      · replace hm := it hc hm
        refine v_iconst (x := 0) dD_expression_173 rfl ?_
        cases hm
        exact v_zret0 dD_expression_174 rfl
      · replace hm := ie hc hm
        refine v_iconst (x := 1) dD_expression_169 rfl ?_
        refine v_goto dD_expression_170 ?_
        cases hm
        exact v_zret1 dD_expression_174 rfl
def mD_isWord (p1 : Int32) (h0 : PH) : Option (Int32) :=
  if (h0 90 6) = 1 then
    if (h0 90 7) = p1 then
      some 1
    else
      some 0
  else
    some 0
theorem ctD_isWord (G : GG) (d : Nat) (p1 : Int32) (h0 : PH) (r : Int32) (hm : mD_isWord p1 h0 = some r) : Kx G tD_isWord d [.ref (gB G + 90), .int p1] h0 (some (.int r)) h0 := by
  refine K_of_V (by decide) (by simp [Value.category]) (by simp [tD_isWord]) ?_
  change Vx G tD_isWord d 0 [some (.ref (gB G + 90)), some (.int p1)] [] h0 (some (.int r)) h0
  unfold mD_isWord at hm
  refine v_ald_0 dD_isWord_0 ?_
  refine v_getI dD_isWord_1 fuD_57 sh_90 rf_90_6 ?_
  refine v_iconst (x := 1) dD_isWord_4 rfl ?_
  refine v_cmp_ne dD_isWord_5 (fun hc => ?_) (fun hc => ?_)
  · replace hm := it hc hm
    refine v_ald_0 dD_isWord_8 ?_
    refine v_getI dD_isWord_9 fuD_60 sh_90 rf_90_7 ?_
    refine v_ild_1 dD_isWord_12 ?_
    refine v_cmp_ne dD_isWord_13 (fun hc => ?_) (fun hc => ?_)
    · replace hm := it hc hm
      refine v_iconst (x := 1) dD_isWord_16 rfl ?_
      refine v_goto dD_isWord_17 ?_
      cases hm
      exact v_zret1 dD_isWord_21 rfl
    · replace hm := ie hc hm
      refine v_iconst (x := 0) dD_isWord_20 rfl ?_
      cases hm
      exact v_zret0 dD_isWord_21 rfl
  · replace hm := ie hc hm
    refine v_iconst (x := 0) dD_isWord_20 rfl ?_
    cases hm
    exact v_zret0 dD_isWord_21 rfl
def mD_takesSign (p1 : Int32) (h0 : PH) : Option (Int32 × PH) :=
  bd (mD_isSign p1 h0) fun r1 =>
  if r1 = 0 then
    bd2 (mD_refuse 1 h0) fun r2 h3 =>
    some (nb r2, h3)
  else
    bd (mD_advance h0) fun h4 =>
    some (1, h4)
theorem ctD_takesSign (G : GG) (d : Nat) (p1 : Int32) (h0 : PH) (r : Int32 × PH) (hm : mD_takesSign p1 h0 = some r) : Kx G tD_takesSign (d + 1) [.ref (gB G + 90), .int p1] h0 (some (.int r.1)) r.2 := by
  refine K_of_V (by decide) (by simp [Value.category]) (by simp [tD_takesSign]) ?_
  change Vx G tD_takesSign (d + 1) 0 [some (.ref (gB G + 90)), some (.int p1)] [] h0 (some (.int r.1)) r.2
  unfold mD_takesSign at hm
  refine v_ald_0 dD_takesSign_0 ?_
  refine v_ild_1 dD_takesSign_1 ?_
  obtain ⟨r1, he, hm⟩ := bd_s hm
  refine v_cv1i (M' := tD_isSign) dD_takesSign_2 mlD_119 okD_isSign sh_90 hc_5 (Nat.le_of_ble_eq_true rfl) (ctD_isSign G d _ _ _ he) ?_
  refine v_if_ne dD_takesSign_5 (fun hc => ?_) (fun hc => ?_)
  · replace hm := it hc hm
    refine v_ald_0 dD_takesSign_8 ?_
    refine v_iconst (x := 1) dD_takesSign_9 rfl ?_
    obtain ⟨r2, h3, he, hm⟩ := bd2_s hm
    refine v_cv1i (M' := tD_refuse) dD_takesSign_10 mlD_63 okD_refuse sh_90 hc_5 (Nat.le_of_ble_eq_true rfl) (ctD_refuse G d _ _ _ he) ?_
    cases hm
    exact v_zret dD_takesSign_13 rfl
  · replace hm := ie hc hm
    refine v_ald_0 dD_takesSign_14 ?_
    obtain ⟨h4, he, hm⟩ := bd_s hm
    refine v_cv0v (M' := tD_advance) dD_takesSign_15 mlD_54 okD_advance sh_90 hc_5 (Nat.le_of_ble_eq_true rfl) (ctD_advance G d _ _ he) ?_
    refine v_iconst (x := 1) dD_takesSign_18 rfl ?_
    cases hm
    exact v_zret1 dD_takesSign_19 rfl
def mD_skyLine (h0 : PH) : Option (Int32 × PH) :=
  bd (mD_advance h0) fun h1 =>
  bd2 (mD_takesNumber 0 999 h1) fun r2 h3 =>
  if r2 = 0 then
    some (0, h3)
  else
    lt (h3 90 9) fun x4 =>
    jn0 (bd2 (mD_refuse 1 h3) fun r6 h7 =>
      some (nb r6, h7)) fun j5 =>
    if (h3 90 6) = 1 then
      bd (mX_within (h3 90 7) 1 3 h3) fun r8 =>
      if r8 = 0 then
        j5
      else
        lt (h3 90 7) fun x9 =>
        bd (mD_advance h3) fun h10 =>
        jn2 (fun (x12 : Int32) (h13 : PH) =>
          bd2 (mD_takesSign 59 h13) fun r14 h15 =>
          if r14 = 0 then
            some (0, h15)
          else
            bd2 (mR_add 91 x4 x9 x12 0 0 h15) fun r16 h17 =>
            if r16 = 0 then
              some (0, h17)
            else
              some (1, h17)) fun j11 =>
        if x9 = 1 then
          bd2 (mD_takesNumber 0 9 h10) fun r18 h19 =>
          if r18 = 0 then
            some (0, h19)
          else
            lt (h19 90 9) fun x20 =>
            j11 x20 h19
        else
          j11 0 h10
    else
      j5
theorem ctD_skyLine (G : GG) (d : Nat) (h0 : PH) (r : Int32 × PH) (hm : mD_skyLine h0 = some r) : Kx G tD_skyLine (d + 2) [.ref (gB G + 90)] h0 (some (.int r.1)) r.2 := by
  refine K_of_V (by decide) (by simp [Value.category]) (by simp [tD_skyLine]) ?_
  change Vx G tD_skyLine (d + 2) 0 [some (.ref (gB G + 90)), none, none, none] [] h0 (some (.int r.1)) r.2
  unfold mD_skyLine at hm
  refine v_ald_0 dD_skyLine_0 ?_
  obtain ⟨h1, he, hm⟩ := bd_s hm
  refine v_cv0v (M' := tD_advance) dD_skyLine_1 mlD_54 okD_advance sh_90 hc_5 (Nat.le_of_ble_eq_true rfl) (ctD_advance G (d + 1) _ _ he) ?_
  refine v_ald_0 dD_skyLine_4 ?_
  refine v_iconst (x := 0) dD_skyLine_5 rfl ?_
  refine v_sipush (x := 999) dD_skyLine_6 rfl ?_
  obtain ⟨r2, h3, he, hm⟩ := bd2_s hm
  refine v_cv2i (M' := tD_takesNumber) dD_skyLine_9 mlD_105 okD_takesNumber sh_90 hc_5 (Nat.le_of_ble_eq_true rfl) (ctD_takesNumber G d _ _ _ _ he) ?_
  refine v_if_ne dD_skyLine_12 (fun hc => ?_) (fun hc => ?_)
  · replace hm := it hc hm
    refine v_iconst (x := 0) dD_skyLine_15 rfl ?_
    cases hm
    exact v_zret0 dD_skyLine_16 rfl
  · replace hm := ie hc hm
    refine v_ald_0 dD_skyLine_17 ?_
    refine v_getI dD_skyLine_18 fuD_109 sh_90 rf_90_9 ?_
    refine v_top hm (fun x4 hm => ?_)
    refine v_ist_1 dD_skyLine_21 (by decide) rfl ?_
    refine v_ald_0 dD_skyLine_22 ?_
    refine v_getI dD_skyLine_23 fuD_57 sh_90 rf_90_6 ?_
    refine v_iconst (x := 1) dD_skyLine_26 rfl ?_
    refine v_j0 (Vx G tD_skyLine (d + 2) 42 [some (.ref (gB G + 90)), none, none, none] [] h3 (some (.int r.1)) r.2) hm (fun hm => ?_) (fun j5 kj5 hm => ?_)
    · refine v_ald_0 dD_skyLine_42 ?_
      refine v_iconst (x := 1) dD_skyLine_43 rfl ?_
      obtain ⟨r6, h7, he, hm⟩ := bd2_s hm
      refine v_cv1i (M' := tD_refuse) dD_skyLine_44 mlD_63 okD_refuse sh_90 hc_5 (Nat.le_of_ble_eq_true rfl) (ctD_refuse G (d + 1) _ _ _ he) ?_
      cases hm
      exact v_zret dD_skyLine_47 rfl
    · refine v_cmp_ne dD_skyLine_27 (fun hc => ?_) (fun hc => ?_)
      · replace hm := it hc hm
        refine v_ald_0 dD_skyLine_30 ?_
        refine v_getI dD_skyLine_31 fuD_60 sh_90 rf_90_7 ?_
        refine v_iconst (x := 1) dD_skyLine_34 rfl ?_
        refine v_iconst (x := 3) dD_skyLine_35 rfl ?_
        obtain ⟨r8, he, hm⟩ := bd_s hm
        refine v_cn3i (M' := tX_within) dD_skyLine_36 mlD_112 okX_within (Nat.le_of_ble_eq_true rfl) (ctX_within G (d + 1) _ _ _ _ _ he) ?_
        refine v_if_ne dD_skyLine_39 (fun hc => ?_) (fun hc => ?_)
        · replace hm := it hc hm
          exact v_kw (kj5 hm) (wk_s (wk_n (wk_n (wk_n wk_e))))
        · replace hm := ie hc hm
          refine v_ald_0 dD_skyLine_48 ?_
          refine v_getI dD_skyLine_49 fuD_60 sh_90 rf_90_7 ?_
          refine v_top hm (fun x9 hm => ?_)
          refine v_ist_2 dD_skyLine_52 (by decide) rfl ?_
          refine v_ald_0 dD_skyLine_53 ?_
          obtain ⟨h10, he, hm⟩ := bd_s hm
          refine v_cv0v (M' := tD_advance) dD_skyLine_54 mlD_54 okD_advance sh_90 hc_5 (Nat.le_of_ble_eq_true rfl) (ctD_advance G (d + 1) _ _ he) ?_
          refine v_iconst (x := 0) dD_skyLine_57 rfl ?_
          refine v_ist_3 dD_skyLine_58 (by decide) rfl ?_
          refine v_ild_2 dD_skyLine_59 ?_
          refine v_iconst (x := 1) dD_skyLine_60 rfl ?_
          refine v_j2 (fun (x12 : Int32) (h13 : PH) => Vx G tD_skyLine (d + 2) 81 [some (.ref (gB G + 90)), some (.int x4), some (.int x9), some (.int x12)] [] h13 (some (.int r.1)) r.2) hm (fun x12 h13 hm => ?_) (fun j11 kj11 hm => ?_)
          · refine v_ald_0 dD_skyLine_81 ?_
            refine v_bipush (x := 59) dD_skyLine_82 rfl ?_
            obtain ⟨r14, h15, he, hm⟩ := bd2_s hm
            refine v_cv1i (M' := tD_takesSign) dD_skyLine_84 mlD_97 okD_takesSign sh_90 hc_5 (Nat.le_of_ble_eq_true rfl) (ctD_takesSign G d _ _ _ he) ?_
            refine v_if_eq dD_skyLine_87 (fun hc => ?_) (fun hc => ?_)
            · replace hm := it hc hm
              refine v_iconst (x := 0) dD_skyLine_109 rfl ?_
              cases hm
              exact v_zret0 dD_skyLine_110 rfl
            · replace hm := ie hc hm
              refine v_ald_0 dD_skyLine_90 ?_
              refine v_getR dD_skyLine_91 fuD_14 sh_90 rf_90_0 ?_
              refine v_ild_1 dD_skyLine_94 ?_
              refine v_ild_2 dD_skyLine_95 ?_
              refine v_ild_3 dD_skyLine_96 ?_
              refine v_iconst (x := 0) dD_skyLine_97 rfl ?_
              refine v_iconst (x := 0) dD_skyLine_98 rfl ?_
              obtain ⟨r16, h17, he, hm⟩ := bd2_s hm
              refine v_cv5i (M' := tR_add) dD_skyLine_99 mlD_101 okR_add sh_91 hc_6 (Nat.le_of_ble_eq_true rfl) (ctR_add G (d + 1) _ _ _ _ _ _ sh_91 _ _ he) ?_
              refine v_if_eq dD_skyLine_102 (fun hc => ?_) (fun hc => ?_)
              · replace hm := it hc hm
                refine v_iconst (x := 0) dD_skyLine_109 rfl ?_
                cases hm
                exact v_zret0 dD_skyLine_110 rfl
              · replace hm := ie hc hm
                refine v_iconst (x := 1) dD_skyLine_105 rfl ?_
                refine v_goto dD_skyLine_106 ?_
                cases hm
                exact v_zret1 dD_skyLine_110 rfl
          · refine v_cmp_ne dD_skyLine_61 (fun hc => ?_) (fun hc => ?_)
            · replace hm := it hc hm
              refine v_ald_0 dD_skyLine_64 ?_
              refine v_iconst (x := 0) dD_skyLine_65 rfl ?_
              refine v_bipush (x := 9) dD_skyLine_66 rfl ?_
              obtain ⟨r18, h19, he, hm⟩ := bd2_s hm
              refine v_cv2i (M' := tD_takesNumber) dD_skyLine_68 mlD_105 okD_takesNumber sh_90 hc_5 (Nat.le_of_ble_eq_true rfl) (ctD_takesNumber G d _ _ _ _ he) ?_
              refine v_if_ne dD_skyLine_71 (fun hc => ?_) (fun hc => ?_)
              · replace hm := it hc hm
                refine v_iconst (x := 0) dD_skyLine_74 rfl ?_
                cases hm
                exact v_zret0 dD_skyLine_75 rfl
              · replace hm := ie hc hm
                refine v_ald_0 dD_skyLine_76 ?_
                refine v_getI dD_skyLine_77 fuD_109 sh_90 rf_90_9 ?_
                refine v_top hm (fun x20 hm => ?_)
                refine v_ist_3 dD_skyLine_80 (by decide) rfl ?_
                exact v_kw (kj11 _ _ hm) (wk_s (wk_s (wk_s (wk_s wk_e))))
            · replace hm := ie hc hm
              exact v_kw (kj11 _ _ hm) (wk_s (wk_s (wk_s (wk_s wk_e))))
      · replace hm := ie hc hm
        exact v_kw (kj5 hm) (wk_s (wk_n (wk_n (wk_n wk_e))))
def mD_officeLine (h0 : PH) : Option (Int32 × PH) :=
  bd (mD_advance h0) fun h1 =>
  bd2 (mD_takesNumber 0 999 h1) fun r2 h3 =>
  if r2 = 0 then
    some (0, h3)
  else
    lt (h3 90 9) fun x4 =>
    jn0 (bd2 (mD_refuse 1 h3) fun r6 h7 =>
      some (nb r6, h7)) fun j5 =>
    if (h3 90 6) = 1 then
      bd (mX_within (h3 90 7) 1 4 h3) fun r8 =>
      if r8 = 0 then
        j5
      else
        lt (h3 90 7) fun x9 =>
        bd (mD_advance h3) fun h10 =>
        bd2 (mD_takesNumber 0 ((h10 90 8) - 1) h10) fun r11 h12 =>
        if r11 = 0 then
          some (0, h12)
        else
          lt (h12 90 9) fun x13 =>
          jn2 (fun (x15 : Int32) (h16 : PH) =>
            jn2 (fun (x18 : Int32) (h19 : PH) =>
              bd2 (mD_takesSign 59 h19) fun r20 h21 =>
              if r20 = 0 then
                some (0, h21)
              else
                bd2 (mR_add 91 x4 x9 x13 x15 x18 h21) fun r22 h23 =>
                if r22 = 0 then
                  some (0, h23)
                else
                  some (1, h23)) fun j17 =>
            jn0 (bd2 (mD_takesNumber 1 99 h16) fun r25 h26 =>
              if r25 = 0 then
                some (0, h26)
              else
                lt (h26 90 9) fun x27 =>
                j17 x27 h26) fun j24 =>
            if x9 = 1 then
              j24
            else
              if x9 = 2 then
                j24
              else
                j17 0 h16) fun j14 =>
          if x9 = 2 then
            bd2 (mD_takesNumber 0 3 h12) fun r28 h29 =>
            if r28 = 0 then
              some (0, h29)
            else
              lt (h29 90 9) fun x30 =>
              j14 x30 h29
          else
            j14 0 h12
    else
      j5
theorem ctD_officeLine (G : GG) (d : Nat) (h0 : PH) (r : Int32 × PH) (hm : mD_officeLine h0 = some r) : Kx G tD_officeLine (d + 2) [.ref (gB G + 90)] h0 (some (.int r.1)) r.2 := by
  refine K_of_V (by decide) (by simp [Value.category]) (by simp [tD_officeLine]) ?_
  change Vx G tD_officeLine (d + 2) 0 [some (.ref (gB G + 90)), none, none, none, none, none] [] h0 (some (.int r.1)) r.2
  unfold mD_officeLine at hm
  refine v_ald_0 dD_officeLine_0 ?_
  obtain ⟨h1, he, hm⟩ := bd_s hm
  refine v_cv0v (M' := tD_advance) dD_officeLine_1 mlD_54 okD_advance sh_90 hc_5 (Nat.le_of_ble_eq_true rfl) (ctD_advance G (d + 1) _ _ he) ?_
  refine v_ald_0 dD_officeLine_4 ?_
  refine v_iconst (x := 0) dD_officeLine_5 rfl ?_
  refine v_sipush (x := 999) dD_officeLine_6 rfl ?_
  obtain ⟨r2, h3, he, hm⟩ := bd2_s hm
  refine v_cv2i (M' := tD_takesNumber) dD_officeLine_9 mlD_105 okD_takesNumber sh_90 hc_5 (Nat.le_of_ble_eq_true rfl) (ctD_takesNumber G d _ _ _ _ he) ?_
  refine v_if_ne dD_officeLine_12 (fun hc => ?_) (fun hc => ?_)
  · replace hm := it hc hm
    refine v_iconst (x := 0) dD_officeLine_15 rfl ?_
    cases hm
    exact v_zret0 dD_officeLine_16 rfl
  · replace hm := ie hc hm
    refine v_ald_0 dD_officeLine_17 ?_
    refine v_getI dD_officeLine_18 fuD_109 sh_90 rf_90_9 ?_
    refine v_top hm (fun x4 hm => ?_)
    refine v_ist_1 dD_officeLine_21 (by decide) rfl ?_
    refine v_ald_0 dD_officeLine_22 ?_
    refine v_getI dD_officeLine_23 fuD_57 sh_90 rf_90_6 ?_
    refine v_iconst (x := 1) dD_officeLine_26 rfl ?_
    refine v_j0 (Vx G tD_officeLine (d + 2) 42 [some (.ref (gB G + 90)), none, none, none, none, none] [] h3 (some (.int r.1)) r.2) hm (fun hm => ?_) (fun j5 kj5 hm => ?_)
    · refine v_ald_0 dD_officeLine_42 ?_
      refine v_iconst (x := 1) dD_officeLine_43 rfl ?_
      obtain ⟨r6, h7, he, hm⟩ := bd2_s hm
      refine v_cv1i (M' := tD_refuse) dD_officeLine_44 mlD_63 okD_refuse sh_90 hc_5 (Nat.le_of_ble_eq_true rfl) (ctD_refuse G (d + 1) _ _ _ he) ?_
      cases hm
      exact v_zret dD_officeLine_47 rfl
    · refine v_cmp_ne dD_officeLine_27 (fun hc => ?_) (fun hc => ?_)
      · replace hm := it hc hm
        refine v_ald_0 dD_officeLine_30 ?_
        refine v_getI dD_officeLine_31 fuD_60 sh_90 rf_90_7 ?_
        refine v_iconst (x := 1) dD_officeLine_34 rfl ?_
        refine v_iconst (x := 4) dD_officeLine_35 rfl ?_
        obtain ⟨r8, he, hm⟩ := bd_s hm
        refine v_cn3i (M' := tX_within) dD_officeLine_36 mlD_112 okX_within (Nat.le_of_ble_eq_true rfl) (ctX_within G (d + 1) _ _ _ _ _ he) ?_
        refine v_if_ne dD_officeLine_39 (fun hc => ?_) (fun hc => ?_)
        · replace hm := it hc hm
          exact v_kw (kj5 hm) (wk_s (wk_n (wk_n (wk_n (wk_n (wk_n wk_e))))))
        · replace hm := ie hc hm
          refine v_ald_0 dD_officeLine_48 ?_
          refine v_getI dD_officeLine_49 fuD_60 sh_90 rf_90_7 ?_
          refine v_top hm (fun x9 hm => ?_)
          refine v_ist_2 dD_officeLine_52 (by decide) rfl ?_
          refine v_ald_0 dD_officeLine_53 ?_
          obtain ⟨h10, he, hm⟩ := bd_s hm
          refine v_cv0v (M' := tD_advance) dD_officeLine_54 mlD_54 okD_advance sh_90 hc_5 (Nat.le_of_ble_eq_true rfl) (ctD_advance G (d + 1) _ _ he) ?_
          refine v_ald_0 dD_officeLine_57 ?_
          refine v_iconst (x := 0) dD_officeLine_58 rfl ?_
          refine v_ald_0 dD_officeLine_59 ?_
          refine v_getI dD_officeLine_60 fuD_46 sh_90 rf_90_8 ?_
          refine v_iconst (x := 1) dD_officeLine_63 rfl ?_
          refine v_isub dD_officeLine_64 ?_
          obtain ⟨r11, h12, he, hm⟩ := bd2_s hm
          refine v_cv2i (M' := tD_takesNumber) dD_officeLine_65 mlD_105 okD_takesNumber sh_90 hc_5 (Nat.le_of_ble_eq_true rfl) (ctD_takesNumber G d _ _ _ _ he) ?_
          refine v_if_ne dD_officeLine_68 (fun hc => ?_) (fun hc => ?_)
          · replace hm := it hc hm
            refine v_iconst (x := 0) dD_officeLine_71 rfl ?_
            cases hm
            exact v_zret0 dD_officeLine_72 rfl
          · replace hm := ie hc hm
            refine v_ald_0 dD_officeLine_73 ?_
            refine v_getI dD_officeLine_74 fuD_109 sh_90 rf_90_9 ?_
            refine v_top hm (fun x13 hm => ?_)
            refine v_ist_3 dD_officeLine_77 (by decide) rfl ?_
            refine v_iconst (x := 0) dD_officeLine_78 rfl ?_
            refine v_ist_4 dD_officeLine_79 (by decide) rfl ?_
            refine v_ild_2 dD_officeLine_81 ?_
            refine v_iconst (x := 2) dD_officeLine_82 rfl ?_
            refine v_j2 (fun (x15 : Int32) (h16 : PH) => Vx G tD_officeLine (d + 2) 103 [some (.ref (gB G + 90)), some (.int x4), some (.int x9), some (.int x13), some (.int x15), none] [] h16 (some (.int r.1)) r.2) hm (fun x15 h16 hm => ?_) (fun j14 kj14 hm => ?_)
            · refine v_iconst (x := 0) dD_officeLine_103 rfl ?_
              refine v_ist_5 dD_officeLine_104 (by decide) rfl ?_
              refine v_ild_2 dD_officeLine_106 ?_
              refine v_iconst (x := 1) dD_officeLine_107 rfl ?_
              refine v_j2 (fun (x18 : Int32) (h19 : PH) => Vx G tD_officeLine (d + 2) 134 [some (.ref (gB G + 90)), some (.int x4), some (.int x9), some (.int x13), some (.int x15), some (.int x18)] [] h19 (some (.int r.1)) r.2) hm (fun x18 h19 hm => ?_) (fun j17 kj17 hm => ?_)
              · refine v_ald_0 dD_officeLine_134 ?_
                refine v_bipush (x := 59) dD_officeLine_135 rfl ?_
                obtain ⟨r20, h21, he, hm⟩ := bd2_s hm
                refine v_cv1i (M' := tD_takesSign) dD_officeLine_137 mlD_97 okD_takesSign sh_90 hc_5 (Nat.le_of_ble_eq_true rfl) (ctD_takesSign G d _ _ _ he) ?_
                refine v_if_eq dD_officeLine_140 (fun hc => ?_) (fun hc => ?_)
                · replace hm := it hc hm
                  refine v_iconst (x := 0) dD_officeLine_164 rfl ?_
                  cases hm
                  exact v_zret0 dD_officeLine_165 rfl
                · replace hm := ie hc hm
                  refine v_ald_0 dD_officeLine_143 ?_
                  refine v_getR dD_officeLine_144 fuD_14 sh_90 rf_90_0 ?_
                  refine v_ild_1 dD_officeLine_147 ?_
                  refine v_ild_2 dD_officeLine_148 ?_
                  refine v_ild_3 dD_officeLine_149 ?_
                  refine v_ild_4 dD_officeLine_150 ?_
                  refine v_ild_5 dD_officeLine_152 ?_
                  obtain ⟨r22, h23, he, hm⟩ := bd2_s hm
                  refine v_cv5i (M' := tR_add) dD_officeLine_154 mlD_101 okR_add sh_91 hc_6 (Nat.le_of_ble_eq_true rfl) (ctR_add G (d + 1) _ _ _ _ _ _ sh_91 _ _ he) ?_
                  refine v_if_eq dD_officeLine_157 (fun hc => ?_) (fun hc => ?_)
                  · replace hm := it hc hm
                    refine v_iconst (x := 0) dD_officeLine_164 rfl ?_
                    cases hm
                    exact v_zret0 dD_officeLine_165 rfl
                  · replace hm := ie hc hm
                    refine v_iconst (x := 1) dD_officeLine_160 rfl ?_
                    refine v_goto dD_officeLine_161 ?_
                    cases hm
                    exact v_zret1 dD_officeLine_165 rfl
              · refine v_j0 (Vx G tD_officeLine (d + 2) 116 [some (.ref (gB G + 90)), some (.int x4), some (.int x9), some (.int x13), some (.int x15), none] [] h16 (some (.int r.1)) r.2) hm (fun hm => ?_) (fun j24 kj24 hm => ?_)
                · refine v_ald_0 dD_officeLine_116 ?_
                  refine v_iconst (x := 1) dD_officeLine_117 rfl ?_
                  refine v_bipush (x := 99) dD_officeLine_118 rfl ?_
                  obtain ⟨r25, h26, he, hm⟩ := bd2_s hm
                  refine v_cv2i (M' := tD_takesNumber) dD_officeLine_120 mlD_105 okD_takesNumber sh_90 hc_5 (Nat.le_of_ble_eq_true rfl) (ctD_takesNumber G d _ _ _ _ he) ?_
                  refine v_if_ne dD_officeLine_123 (fun hc => ?_) (fun hc => ?_)
                  · replace hm := it hc hm
                    refine v_iconst (x := 0) dD_officeLine_126 rfl ?_
                    cases hm
                    exact v_zret0 dD_officeLine_127 rfl
                  · replace hm := ie hc hm
                    refine v_ald_0 dD_officeLine_128 ?_
                    refine v_getI dD_officeLine_129 fuD_109 sh_90 rf_90_9 ?_
                    refine v_top hm (fun x27 hm => ?_)
                    refine v_ist_5 dD_officeLine_132 (by decide) rfl ?_
                    exact v_kw (kj17 _ _ hm) (wk_s (wk_s (wk_s (wk_s (wk_s (wk_s wk_e))))))
                · refine v_cmp_eq dD_officeLine_108 (fun hc => ?_) (fun hc => ?_)
                  · replace hm := it hc hm
                    exact v_kw (kj24 hm) (wk_s (wk_s (wk_s (wk_s (wk_s (wk_n wk_e))))))
                  · replace hm := ie hc hm
                    refine v_ild_2 dD_officeLine_111 ?_
                    refine v_iconst (x := 2) dD_officeLine_112 rfl ?_
                    refine v_cmp_ne dD_officeLine_113 (fun hc => ?_) (fun hc => ?_)
                    · replace hm := it hc hm
                      exact v_kw (kj24 hm) (wk_s (wk_s (wk_s (wk_s (wk_s (wk_n wk_e))))))
                    · replace hm := ie hc hm
                      exact v_kw (kj17 _ _ hm) (wk_s (wk_s (wk_s (wk_s (wk_s (wk_s wk_e))))))
            · refine v_cmp_ne dD_officeLine_83 (fun hc => ?_) (fun hc => ?_)
              · replace hm := it hc hm
                refine v_ald_0 dD_officeLine_86 ?_
                refine v_iconst (x := 0) dD_officeLine_87 rfl ?_
                refine v_iconst (x := 3) dD_officeLine_88 rfl ?_
                obtain ⟨r28, h29, he, hm⟩ := bd2_s hm
                refine v_cv2i (M' := tD_takesNumber) dD_officeLine_89 mlD_105 okD_takesNumber sh_90 hc_5 (Nat.le_of_ble_eq_true rfl) (ctD_takesNumber G d _ _ _ _ he) ?_
                refine v_if_ne dD_officeLine_92 (fun hc => ?_) (fun hc => ?_)
                · replace hm := it hc hm
                  refine v_iconst (x := 0) dD_officeLine_95 rfl ?_
                  cases hm
                  exact v_zret0 dD_officeLine_96 rfl
                · replace hm := ie hc hm
                  refine v_ald_0 dD_officeLine_97 ?_
                  refine v_getI dD_officeLine_98 fuD_109 sh_90 rf_90_9 ?_
                  refine v_top hm (fun x30 hm => ?_)
                  refine v_ist_4 dD_officeLine_101 (by decide) rfl ?_
                  exact v_kw (kj14 _ _ hm) (wk_s (wk_s (wk_s (wk_s (wk_s (wk_n wk_e))))))
              · replace hm := ie hc hm
                exact v_kw (kj14 _ _ hm) (wk_s (wk_s (wk_s (wk_s (wk_s (wk_n wk_e))))))
      · replace hm := ie hc hm
        exact v_kw (kj5 hm) (wk_s (wk_n (wk_n (wk_n (wk_n (wk_n wk_e))))))
def mD_nextLine (h0 : PH) : Option (Int32 × PH) :=
  bd (mD_advance h0) fun h1 =>
  bd2 (mD_takesNumber 0 ((h1 90 8) - 1) h1) fun r2 h3 =>
  if r2 = 0 then
    some (0, h3)
  else
    lt (h3 90 9) fun x4 =>
    bd (mD_isWord 1 h3) fun r5 =>
    if r5 = 0 then
      bd2 (mD_refuse 1 h3) fun r6 h7 =>
      some (nb r6, h7)
    else
      bd (mD_advance h3) fun h8 =>
      jn0 (bd2 (mD_takesNumber 0 ((h8 90 8) - 1) h8) fun r10 h11 =>
        if r10 = 0 then
          some (0, h11)
        else
          bd2 (mD_takesSign 59 h11) fun r12 h13 =>
          if r12 = 0 then
            some (0, h13)
          else
            bd2 (mR_add 91 x4 (h13 90 9) 0 0 0 h13) fun r14 h15 =>
            if r14 = 0 then
              some (0, h15)
            else
              some (1, h15)) fun j9 =>
      if (h8 90 6) = 2 then
        if (h8 90 7) = x4 then
          bd2 (mD_refuse 2 h8) fun r16 h17 =>
          some (nb r16, h17)
        else
          j9
      else
        j9
theorem ctD_nextLine (G : GG) (d : Nat) (h0 : PH) (r : Int32 × PH) (hm : mD_nextLine h0 = some r) : Kx G tD_nextLine (d + 2) [.ref (gB G + 90)] h0 (some (.int r.1)) r.2 := by
  refine K_of_V (by decide) (by simp [Value.category]) (by simp [tD_nextLine]) ?_
  change Vx G tD_nextLine (d + 2) 0 [some (.ref (gB G + 90)), none] [] h0 (some (.int r.1)) r.2
  unfold mD_nextLine at hm
  refine v_ald_0 dD_nextLine_0 ?_
  obtain ⟨h1, he, hm⟩ := bd_s hm
  refine v_cv0v (M' := tD_advance) dD_nextLine_1 mlD_54 okD_advance sh_90 hc_5 (Nat.le_of_ble_eq_true rfl) (ctD_advance G (d + 1) _ _ he) ?_
  refine v_ald_0 dD_nextLine_4 ?_
  refine v_iconst (x := 0) dD_nextLine_5 rfl ?_
  refine v_ald_0 dD_nextLine_6 ?_
  refine v_getI dD_nextLine_7 fuD_46 sh_90 rf_90_8 ?_
  refine v_iconst (x := 1) dD_nextLine_10 rfl ?_
  refine v_isub dD_nextLine_11 ?_
  obtain ⟨r2, h3, he, hm⟩ := bd2_s hm
  refine v_cv2i (M' := tD_takesNumber) dD_nextLine_12 mlD_105 okD_takesNumber sh_90 hc_5 (Nat.le_of_ble_eq_true rfl) (ctD_takesNumber G d _ _ _ _ he) ?_
  refine v_if_ne dD_nextLine_15 (fun hc => ?_) (fun hc => ?_)
  · replace hm := it hc hm
    refine v_iconst (x := 0) dD_nextLine_18 rfl ?_
    cases hm
    exact v_zret0 dD_nextLine_19 rfl
  · replace hm := ie hc hm
    refine v_ald_0 dD_nextLine_20 ?_
    refine v_getI dD_nextLine_21 fuD_109 sh_90 rf_90_9 ?_
    refine v_top hm (fun x4 hm => ?_)
    refine v_ist_1 dD_nextLine_24 (by decide) rfl ?_
    refine v_ald_0 dD_nextLine_25 ?_
    refine v_iconst (x := 1) dD_nextLine_26 rfl ?_
    obtain ⟨r5, he, hm⟩ := bd_s hm
    refine v_cv1i (M' := tD_isWord) dD_nextLine_27 mlD_91 okD_isWord sh_90 hc_5 (Nat.le_of_ble_eq_true rfl) (ctD_isWord G (d + 1) _ _ _ he) ?_
    refine v_if_ne dD_nextLine_30 (fun hc => ?_) (fun hc => ?_)
    · replace hm := it hc hm
      refine v_ald_0 dD_nextLine_33 ?_
      refine v_iconst (x := 1) dD_nextLine_34 rfl ?_
      obtain ⟨r6, h7, he, hm⟩ := bd2_s hm
      refine v_cv1i (M' := tD_refuse) dD_nextLine_35 mlD_63 okD_refuse sh_90 hc_5 (Nat.le_of_ble_eq_true rfl) (ctD_refuse G (d + 1) _ _ _ he) ?_
      cases hm
      exact v_zret dD_nextLine_38 rfl
    · replace hm := ie hc hm
      refine v_ald_0 dD_nextLine_39 ?_
      obtain ⟨h8, he, hm⟩ := bd_s hm
      refine v_cv0v (M' := tD_advance) dD_nextLine_40 mlD_54 okD_advance sh_90 hc_5 (Nat.le_of_ble_eq_true rfl) (ctD_advance G (d + 1) _ _ he) ?_
      refine v_ald_0 dD_nextLine_43 ?_
      refine v_getI dD_nextLine_44 fuD_57 sh_90 rf_90_6 ?_
      refine v_iconst (x := 2) dD_nextLine_47 rfl ?_
      refine v_j0 (Vx G tD_nextLine (d + 2) 65 [some (.ref (gB G + 90)), some (.int x4)] [] h8 (some (.int r.1)) r.2) hm (fun hm => ?_) (fun j9 kj9 hm => ?_)
      · refine v_ald_0 dD_nextLine_65 ?_
        refine v_iconst (x := 0) dD_nextLine_66 rfl ?_
        refine v_ald_0 dD_nextLine_67 ?_
        refine v_getI dD_nextLine_68 fuD_46 sh_90 rf_90_8 ?_
        refine v_iconst (x := 1) dD_nextLine_71 rfl ?_
        refine v_isub dD_nextLine_72 ?_
        obtain ⟨r10, h11, he, hm⟩ := bd2_s hm
        refine v_cv2i (M' := tD_takesNumber) dD_nextLine_73 mlD_105 okD_takesNumber sh_90 hc_5 (Nat.le_of_ble_eq_true rfl) (ctD_takesNumber G d _ _ _ _ he) ?_
        refine v_if_eq dD_nextLine_76 (fun hc => ?_) (fun hc => ?_)
        · replace hm := it hc hm
          refine v_iconst (x := 0) dD_nextLine_110 rfl ?_
          cases hm
          exact v_zret0 dD_nextLine_111 rfl
        · replace hm := ie hc hm
          refine v_ald_0 dD_nextLine_79 ?_
          refine v_bipush (x := 59) dD_nextLine_80 rfl ?_
          obtain ⟨r12, h13, he, hm⟩ := bd2_s hm
          refine v_cv1i (M' := tD_takesSign) dD_nextLine_82 mlD_97 okD_takesSign sh_90 hc_5 (Nat.le_of_ble_eq_true rfl) (ctD_takesSign G d _ _ _ he) ?_
          refine v_if_eq dD_nextLine_85 (fun hc => ?_) (fun hc => ?_)
          · replace hm := it hc hm
            refine v_iconst (x := 0) dD_nextLine_110 rfl ?_
            cases hm
            exact v_zret0 dD_nextLine_111 rfl
          · replace hm := ie hc hm
            refine v_ald_0 dD_nextLine_88 ?_
            refine v_getR dD_nextLine_89 fuD_14 sh_90 rf_90_0 ?_
            refine v_ild_1 dD_nextLine_92 ?_
            refine v_ald_0 dD_nextLine_93 ?_
            refine v_getI dD_nextLine_94 fuD_109 sh_90 rf_90_9 ?_
            refine v_iconst (x := 0) dD_nextLine_97 rfl ?_
            refine v_iconst (x := 0) dD_nextLine_98 rfl ?_
            refine v_iconst (x := 0) dD_nextLine_99 rfl ?_
            obtain ⟨r14, h15, he, hm⟩ := bd2_s hm
            refine v_cv5i (M' := tR_add) dD_nextLine_100 mlD_101 okR_add sh_91 hc_6 (Nat.le_of_ble_eq_true rfl) (ctR_add G (d + 1) _ _ _ _ _ _ sh_91 _ _ he) ?_
            refine v_if_eq dD_nextLine_103 (fun hc => ?_) (fun hc => ?_)
            · replace hm := it hc hm
              refine v_iconst (x := 0) dD_nextLine_110 rfl ?_
              cases hm
              exact v_zret0 dD_nextLine_111 rfl
            · replace hm := ie hc hm
              refine v_iconst (x := 1) dD_nextLine_106 rfl ?_
              refine v_goto dD_nextLine_107 ?_
              cases hm
              exact v_zret1 dD_nextLine_111 rfl
      · refine v_cmp_ne dD_nextLine_48 (fun hc => ?_) (fun hc => ?_)
        · replace hm := it hc hm
          refine v_ald_0 dD_nextLine_51 ?_
          refine v_getI dD_nextLine_52 fuD_60 sh_90 rf_90_7 ?_
          refine v_ild_1 dD_nextLine_55 ?_
          refine v_cmp_ne dD_nextLine_56 (fun hc => ?_) (fun hc => ?_)
          · replace hm := it hc hm
            refine v_ald_0 dD_nextLine_59 ?_
            refine v_iconst (x := 2) dD_nextLine_60 rfl ?_
            obtain ⟨r16, h17, he, hm⟩ := bd2_s hm
            refine v_cv1i (M' := tD_refuse) dD_nextLine_61 mlD_63 okD_refuse sh_90 hc_5 (Nat.le_of_ble_eq_true rfl) (ctD_refuse G (d + 1) _ _ _ he) ?_
            cases hm
            exact v_zret dD_nextLine_64 rfl
          · replace hm := ie hc hm
            exact v_kw (kj9 hm) (wk_s (wk_s wk_e))
        · replace hm := ie hc hm
          exact v_kw (kj9 hm) (wk_s (wk_s wk_e))
def mX_state (p1 : Int32) (h0 : PH) : Option (Int32 × PH) :=
  lt (h0 1 7) fun x1 =>
  lt (up h0 1 7 p1) fun h2 =>
  bd (mP_forget h2) fun h3 =>
  some (x1, h3)
theorem ctX_state (G : GG) (d : Nat) (p1 : Int32) (h0 : PH) (r : Int32 × PH) (hm : mX_state p1 h0 = some r) : Kx G tX_state (d + 1) [.ref (gB G + 0), .int p1] h0 (some (.int r.1)) r.2 := by
  refine K_of_V (by decide) (by simp [Value.category]) (by simp [tX_state]) ?_
  change Vx G tX_state (d + 1) 0 [some (.ref (gB G + 0)), some (.int p1), none] [] h0 (some (.int r.1)) r.2
  unfold mX_state at hm
  refine v_ald_0 dX_state_0 ?_
  refine v_getR dX_state_1 fuX_25 sh_0 rf_0_0 ?_
  refine v_getI dX_state_4 fuX_104 sh_1 rf_1_7 ?_
  refine v_top hm (fun x1 hm => ?_)
  refine v_ist_2 dX_state_7 (by decide) rfl ?_
  refine v_ald_0 dX_state_8 ?_
  refine v_getR dX_state_9 fuX_25 sh_0 rf_0_0 ?_
  refine v_ild_1 dX_state_12 ?_
  refine v_putIl dX_state_13 fuX_104 ft_1_7 sh_1 rf_1_7 hm (fun h2 hm => ?_)
  refine v_ald_0 dX_state_16 ?_
  refine v_getR dX_state_17 fuX_59 sh_0 rf_0_7 ?_
  obtain ⟨h3, he, hm⟩ := bd_s hm
  refine v_cv0v (M' := tP_forget) dX_state_20 mlX_108 okP_forget sh_70 hc_4 (Nat.le_of_ble_eq_true rfl) (ctP_forget G d _ _ he) ?_
  refine v_ild_2 dX_state_23 ?_
  cases hm
  exact v_iret dX_state_24 rfl
def mX_within (p0 : Int32) (p1 : Int32) (p2 : Int32) (h0 : PH) : Option (Int32) :=
  if p0 < p1 then
    some 0
  else
    if p2 < p0 then
      some 0
    else
      some 1
theorem ctX_within (G : GG) (d : Nat) (p0 : Int32) (p1 : Int32) (p2 : Int32) (h0 : PH) (r : Int32) (hm : mX_within p0 p1 p2 h0 = some r) : Kx G tX_within d [.int p0, .int p1, .int p2] h0 (some (.int r)) h0 := by
  refine K_of_V (by decide) (by simp [Value.category]) (by simp [tX_within]) ?_
  change Vx G tX_within d 0 [some (.int p0), some (.int p1), some (.int p2)] [] h0 (some (.int r)) h0
  unfold mX_within at hm
  refine v_ild_0 dX_within_0 ?_
  refine v_ild_1 dX_within_1 ?_
  refine v_cmp_lt dX_within_2 (fun hc => ?_) (fun hc => ?_)
  · replace hm := it hc hm
    refine v_iconst (x := 0) dX_within_14 rfl ?_
    cases hm
    exact v_zret0 dX_within_15 rfl
  · replace hm := ie hc hm
    refine v_ild_0 dX_within_5 ?_
    refine v_ild_2 dX_within_6 ?_
    refine v_cmp_gt dX_within_7 (fun hc => ?_) (fun hc => ?_)
    · replace hm := it hc hm
      refine v_iconst (x := 0) dX_within_14 rfl ?_
      cases hm
      exact v_zret0 dX_within_15 rfl
    · replace hm := ie hc hm
      refine v_iconst (x := 1) dX_within_10 rfl ?_
      refine v_goto dX_within_11 ?_
      cases hm
      exact v_zret1 dX_within_15 rfl
def mX_house (p1 : Int32) (p2 : Int32) (p3 : Int32) (h0 : PH) : Option (Int32 × PH) :=
  bd (mX_within p1 0 99 h0) fun r1 =>
  jn1 (fun (x3 : Int32) =>
    if x3 = 0 then
      some ((-1), h0)
    else
      if (h0 1 1) < 12 then
        bd (mP_forget h0) fun h4 =>
        bd2 (mB_build 1 p1 p2 p3 h4) fun r5 h6 =>
        some (r5, h6)
      else
        some ((-1), h0)) fun j2 =>
  if r1 = 0 then
    j2 0
  else
    bd (mX_within p2 0 9 h0) fun r7 =>
    if r7 = 0 then
      j2 0
    else
      bd (mX_within p3 0 9 h0) fun r8 =>
      if r8 = 0 then
        j2 0
      else
        j2 1
theorem ctX_house (G : GG) (d : Nat) (p1 : Int32) (p2 : Int32) (p3 : Int32) (h0 : PH) (r : Int32 × PH) (hm : mX_house p1 p2 p3 h0 = some r) : Kx G tX_house (d + 2) [.ref (gB G + 0), .int p1, .int p2, .int p3] h0 (some (.int r.1)) r.2 := by
  refine K_of_V (by decide) (by simp [Value.category]) (by simp [tX_house]) ?_
  change Vx G tX_house (d + 2) 0 [some (.ref (gB G + 0)), some (.int p1), some (.int p2), some (.int p3), none] [] h0 (some (.int r.1)) r.2
  unfold mX_house at hm
  refine v_ild_1 dX_house_0 ?_
  refine v_iconst (x := 0) dX_house_1 rfl ?_
  refine v_bipush (x := 99) dX_house_2 rfl ?_
  obtain ⟨r1, he, hm⟩ := bd_s hm
  refine v_cs3i (M' := tX_within) dX_house_4 mlX_111 okX_within (Nat.le_of_ble_eq_true rfl) (ctX_within G (d + 1) _ _ _ _ _ he) ?_
  refine v_j1 (fun (x3 : Int32) => Vx G tX_house (d + 2) 35 [some (.ref (gB G + 0)), some (.int p1), some (.int p2), some (.int p3), none] [.int x3] h0 (some (.int r.1)) r.2) hm (fun x3 hm => ?_) (fun j2 kj2 hm => ?_)
  · refine v_ist_4 dX_house_35 (by decide) rfl ?_
    refine v_ild_4 dX_house_37 ?_
    refine v_if_eq dX_house_39 (fun hc => ?_) (fun hc => ?_)
    · replace hm := it hc hm
      refine v_iconst (x := (-1)) dX_house_54 rfl ?_
      cases hm
      exact v_iret dX_house_55 rfl
    · replace hm := ie hc hm
      refine v_ald_0 dX_house_42 ?_
      refine v_getR dX_house_43 fuX_25 sh_0 rf_0_0 ?_
      refine v_getI dX_house_46 fuX_115 sh_1 rf_1_1 ?_
      refine v_bipush (x := 12) dX_house_49 rfl ?_
      refine v_cmp_lt dX_house_51 (fun hc => ?_) (fun hc => ?_)
      · replace hm := it hc hm
        refine v_ald_0 dX_house_56 ?_
        refine v_getR dX_house_57 fuX_59 sh_0 rf_0_7 ?_
        obtain ⟨h4, he, hm⟩ := bd_s hm
        refine v_cv0v (M' := tP_forget) dX_house_60 mlX_108 okP_forget sh_70 hc_4 (Nat.le_of_ble_eq_true rfl) (ctP_forget G (d + 1) _ _ he) ?_
        refine v_ald_0 dX_house_63 ?_
        refine v_getR dX_house_64 fuX_25 sh_0 rf_0_0 ?_
        refine v_ild_1 dX_house_67 ?_
        refine v_ild_2 dX_house_68 ?_
        refine v_ild_3 dX_house_69 ?_
        obtain ⟨r5, h6, he, hm⟩ := bd2_s hm
        refine v_cv3i (M' := tB_build) dX_house_70 mlX_118 okB_build sh_1 hc_1 (Nat.le_of_ble_eq_true rfl) (ctB_build G d _ _ _ _ sh_1 _ _ he) ?_
        cases hm
        exact v_iret dX_house_73 rfl
      · replace hm := ie hc hm
        refine v_iconst (x := (-1)) dX_house_54 rfl ?_
        cases hm
        exact v_iret dX_house_55 rfl
  · refine v_if_eq dX_house_7 (fun hc => ?_) (fun hc => ?_)
    · replace hm := it hc hm
      refine v_iconst (x := 0) dX_house_34 rfl ?_
      exact v_kw (kj2 _ hm) (wk_s (wk_s (wk_s (wk_s (wk_n wk_e)))))
    · replace hm := ie hc hm
      refine v_ild_2 dX_house_10 ?_
      refine v_iconst (x := 0) dX_house_11 rfl ?_
      refine v_bipush (x := 9) dX_house_12 rfl ?_
      obtain ⟨r7, he, hm⟩ := bd_s hm
      refine v_cs3i (M' := tX_within) dX_house_14 mlX_111 okX_within (Nat.le_of_ble_eq_true rfl) (ctX_within G (d + 1) _ _ _ _ _ he) ?_
      refine v_if_eq dX_house_17 (fun hc => ?_) (fun hc => ?_)
      · replace hm := it hc hm
        refine v_iconst (x := 0) dX_house_34 rfl ?_
        exact v_kw (kj2 _ hm) (wk_s (wk_s (wk_s (wk_s (wk_n wk_e)))))
      · replace hm := ie hc hm
        refine v_ild_3 dX_house_20 ?_
        refine v_iconst (x := 0) dX_house_21 rfl ?_
        refine v_bipush (x := 9) dX_house_22 rfl ?_
        obtain ⟨r8, he, hm⟩ := bd_s hm
        refine v_cs3i (M' := tX_within) dX_house_24 mlX_111 okX_within (Nat.le_of_ble_eq_true rfl) (ctX_within G (d + 1) _ _ _ _ _ he) ?_
        refine v_if_eq dX_house_27 (fun hc => ?_) (fun hc => ?_)
        · replace hm := it hc hm
          refine v_iconst (x := 0) dX_house_34 rfl ?_
          exact v_kw (kj2 _ hm) (wk_s (wk_s (wk_s (wk_s (wk_n wk_e)))))
        · replace hm := ie hc hm
          refine v_iconst (x := 1) dX_house_30 rfl ?_
          refine v_goto dX_house_31 ?_
          exact v_kw (kj2 _ hm) (wk_s (wk_s (wk_s (wk_s (wk_n wk_e)))))
def mX_mostToSet (p0 : Int32) (h0 : PH) : Option (Int32) :=
  if p0 < 4 then
    some 99
  else
    if p0 = 7 then
      some 99
    else
      some 9
theorem ctX_mostToSet (G : GG) (d : Nat) (p0 : Int32) (h0 : PH) (r : Int32) (hm : mX_mostToSet p0 h0 = some r) : Kx G tX_mostToSet d [.int p0] h0 (some (.int r)) h0 := by
  refine K_of_V (by decide) (by simp [Value.category]) (by simp [tX_mostToSet]) ?_
  change Vx G tX_mostToSet d 0 [some (.int p0)] [] h0 (some (.int r)) h0
  unfold mX_mostToSet at hm
  refine v_ild_0 dX_mostToSet_0 ?_
  refine v_iconst (x := 4) dX_mostToSet_1 rfl ?_
  refine v_cmp_lt dX_mostToSet_2 (fun hc => ?_) (fun hc => ?_)
  · replace hm := it hc hm
    refine v_bipush (x := 99) dX_mostToSet_11 rfl ?_
    refine v_goto dX_mostToSet_13 ?_
    cases hm
    exact v_iret dX_mostToSet_18 rfl
  · replace hm := ie hc hm
    refine v_ild_0 dX_mostToSet_5 ?_
    refine v_bipush (x := 7) dX_mostToSet_6 rfl ?_
    refine v_cmp_ne dX_mostToSet_8 (fun hc => ?_) (fun hc => ?_)
    · replace hm := it hc hm
      refine v_bipush (x := 99) dX_mostToSet_11 rfl ?_
      refine v_goto dX_mostToSet_13 ?_
      cases hm
      exact v_iret dX_mostToSet_18 rfl
    · replace hm := ie hc hm
      refine v_bipush (x := 9) dX_mostToSet_16 rfl ?_
      cases hm
      exact v_iret dX_mostToSet_18 rfl
def mX_set (p1 : Int32) (p2 : Int32) (p3 : Int32) (h0 : PH) : Option (Int32 × PH) :=
  jn1 (fun (h2 : PH) =>
    bd (mP_forget h2) fun h3 =>
    some (1, h3)) fun j1 =>
  if p1 = 8 then
    bd (mX_within p3 0 9 h0) fun r4 =>
    if r4 = 0 then
      some (0, h0)
    else
      lt (up h0 1 2 p3) fun h5 =>
      j1 h5
  else
    bd (mX_within p1 0 7 h0) fun r6 =>
    if r6 = 0 then
      some (0, h0)
    else
      bd (mB_has 1 p2 h0) fun r7 =>
      if r7 = 0 then
        some (0, h0)
      else
        bd (mX_mostToSet p1 h0) fun r8 =>
        bd (mX_within p3 0 r8 h0) fun r9 =>
        if r9 = 0 then
          some (0, h0)
        else
          bd (mB_write 1 p2 p1 p3 h0) fun h10 =>
          j1 h10
theorem ctX_set (G : GG) (d : Nat) (p1 : Int32) (p2 : Int32) (p3 : Int32) (h0 : PH) (r : Int32 × PH) (hm : mX_set p1 p2 p3 h0 = some r) : Kx G tX_set (d + 1) [.ref (gB G + 0), .int p1, .int p2, .int p3] h0 (some (.int r.1)) r.2 := by
  refine K_of_V (by decide) (by simp [Value.category]) (by simp [tX_set]) ?_
  change Vx G tX_set (d + 1) 0 [some (.ref (gB G + 0)), some (.int p1), some (.int p2), some (.int p3)] [] h0 (some (.int r.1)) r.2
  unfold mX_set at hm
  refine v_ild_1 dX_set_0 ?_
  refine v_bipush (x := 8) dX_set_1 rfl ?_
  refine v_j1 (fun (h2 : PH) => Vx G tX_set (d + 1) 74 [some (.ref (gB G + 0)), none, none, none] [] h2 (some (.int r.1)) r.2) hm (fun h2 hm => ?_) (fun j1 kj1 hm => ?_)
  · refine v_ald_0 dX_set_74 ?_
    refine v_getR dX_set_75 fuX_59 sh_0 rf_0_7 ?_
    obtain ⟨h3, he, hm⟩ := bd_s hm
    refine v_cv0v (M' := tP_forget) dX_set_78 mlX_108 okP_forget sh_70 hc_4 (Nat.le_of_ble_eq_true rfl) (ctP_forget G d _ _ he) ?_
    refine v_iconst (x := 1) dX_set_81 rfl ?_
    cases hm
    exact v_zret1 dX_set_82 rfl
  · refine v_cmp_ne dX_set_3 (fun hc => ?_) (fun hc => ?_)
    · replace hm := it hc hm
      refine v_ild_3 dX_set_6 ?_
      refine v_iconst (x := 0) dX_set_7 rfl ?_
      refine v_bipush (x := 9) dX_set_8 rfl ?_
      obtain ⟨r4, he, hm⟩ := bd_s hm
      refine v_cs3i (M' := tX_within) dX_set_10 mlX_111 okX_within (Nat.le_of_ble_eq_true rfl) (ctX_within G d _ _ _ _ _ he) ?_
      refine v_if_ne dX_set_13 (fun hc => ?_) (fun hc => ?_)
      · replace hm := it hc hm
        refine v_iconst (x := 0) dX_set_16 rfl ?_
        cases hm
        exact v_zret0 dX_set_17 rfl
      · replace hm := ie hc hm
        refine v_ald_0 dX_set_18 ?_
        refine v_getR dX_set_19 fuX_25 sh_0 rf_0_0 ?_
        refine v_ild_3 dX_set_22 ?_
        refine v_putIl dX_set_23 fuX_122 ft_1_2 sh_1 rf_1_2 hm (fun h5 hm => ?_)
        refine v_goto dX_set_26 ?_
        exact v_kw (kj1 _ hm) (wk_s (wk_n (wk_n (wk_n wk_e))))
    · replace hm := ie hc hm
      refine v_ild_1 dX_set_29 ?_
      refine v_iconst (x := 0) dX_set_30 rfl ?_
      refine v_bipush (x := 7) dX_set_31 rfl ?_
      obtain ⟨r6, he, hm⟩ := bd_s hm
      refine v_cs3i (M' := tX_within) dX_set_33 mlX_111 okX_within (Nat.le_of_ble_eq_true rfl) (ctX_within G d _ _ _ _ _ he) ?_
      refine v_if_eq dX_set_36 (fun hc => ?_) (fun hc => ?_)
      · replace hm := it hc hm
        refine v_iconst (x := 0) dX_set_62 rfl ?_
        cases hm
        exact v_zret0 dX_set_63 rfl
      · replace hm := ie hc hm
        refine v_ald_0 dX_set_39 ?_
        refine v_getR dX_set_40 fuX_25 sh_0 rf_0_0 ?_
        refine v_ild_2 dX_set_43 ?_
        obtain ⟨r7, he, hm⟩ := bd_s hm
        refine v_cv1i (M' := tB_has) dX_set_44 mlX_125 okB_has sh_1 hc_1 (Nat.le_of_ble_eq_true rfl) (ctB_has G d _ _ sh_1 _ _ he) ?_
        refine v_if_eq dX_set_47 (fun hc => ?_) (fun hc => ?_)
        · replace hm := it hc hm
          refine v_iconst (x := 0) dX_set_62 rfl ?_
          cases hm
          exact v_zret0 dX_set_63 rfl
        · replace hm := ie hc hm
          refine v_ild_3 dX_set_50 ?_
          refine v_iconst (x := 0) dX_set_51 rfl ?_
          refine v_ild_1 dX_set_52 ?_
          obtain ⟨r8, he, hm⟩ := bd_s hm
          refine v_cs1i (M' := tX_mostToSet) dX_set_53 mlX_129 okX_mostToSet (Nat.le_of_ble_eq_true rfl) (ctX_mostToSet G d _ _ _ he) ?_
          obtain ⟨r9, he, hm⟩ := bd_s hm
          refine v_cs3i (M' := tX_within) dX_set_56 mlX_111 okX_within (Nat.le_of_ble_eq_true rfl) (ctX_within G d _ _ _ _ _ he) ?_
          refine v_if_ne dX_set_59 (fun hc => ?_) (fun hc => ?_)
          · replace hm := it hc hm
            refine v_iconst (x := 0) dX_set_62 rfl ?_
            cases hm
            exact v_zret0 dX_set_63 rfl
          · replace hm := ie hc hm
            refine v_ald_0 dX_set_64 ?_
            refine v_getR dX_set_65 fuX_25 sh_0 rf_0_0 ?_
            refine v_ild_2 dX_set_68 ?_
            refine v_ild_1 dX_set_69 ?_
            refine v_ild_3 dX_set_70 ?_
            obtain ⟨h10, he, hm⟩ := bd_s hm
            refine v_cv3v (M' := tB_write) dX_set_71 mlX_133 okB_write sh_1 hc_1 (Nat.le_of_ble_eq_true rfl) (ctB_write G d _ _ _ _ sh_1 _ _ he) ?_
            exact v_kw (kj1 _ hm) (wk_s (wk_n (wk_n (wk_n wk_e))))
def mX_act (p1 : Int32) (p2 : Int32) (p3 : Int32) (h0 : PH) : Option (Int32 × PH) :=
  bd (mS_mayAct 68 p1 p2 p3 h0) fun r1 =>
  if r1 = 0 then
    some (0, h0)
  else
    bd (mP_keep 1 (h0 16 3) h0) fun h2 =>
    bd (mS_actByHand 68 p1 p2 p3 h2) fun h3 =>
    some (1, h3)
theorem ctX_act (G : GG) (d : Nat) (p1 : Int32) (p2 : Int32) (p3 : Int32) (h0 : PH) (r : Int32 × PH) (hm : mX_act p1 p2 p3 h0 = some r) : Kx G tX_act (d + 6) [.ref (gB G + 0), .int p1, .int p2, .int p3] h0 (some (.int r.1)) r.2 := by
  refine K_of_V (by decide) (by simp [Value.category]) (by simp [tX_act]) ?_
  change Vx G tX_act (d + 6) 0 [some (.ref (gB G + 0)), some (.int p1), some (.int p2), some (.int p3)] [] h0 (some (.int r.1)) r.2
  unfold mX_act at hm
  refine v_ald_0 dX_act_0 ?_
  refine v_getR dX_act_1 fuX_49 sh_0 rf_0_5 ?_
  refine v_ild_1 dX_act_4 ?_
  refine v_ild_2 dX_act_5 ?_
  refine v_ild_3 dX_act_6 ?_
  obtain ⟨r1, he, hm⟩ := bd_s hm
  refine v_cv3i (M' := tS_mayAct) dX_act_7 mlX_137 okS_mayAct sh_68 hc_7 (Nat.le_of_ble_eq_true rfl) (ctS_mayAct G (d + 2) _ _ _ _ sh_68 _ _ he) ?_
  refine v_if_ne dX_act_10 (fun hc => ?_) (fun hc => ?_)
  · replace hm := it hc hm
    refine v_iconst (x := 0) dX_act_13 rfl ?_
    cases hm
    exact v_zret0 dX_act_14 rfl
  · replace hm := ie hc hm
    refine v_ald_0 dX_act_15 ?_
    refine v_getR dX_act_16 fuX_59 sh_0 rf_0_7 ?_
    refine v_ald_0 dX_act_19 ?_
    refine v_getR dX_act_20 fuX_25 sh_0 rf_0_0 ?_
    refine v_ald_0 dX_act_23 ?_
    refine v_getR dX_act_24 fuX_34 sh_0 rf_0_3 ?_
    refine v_getR dX_act_27 fuX_140 sh_5 rf_5_5 ?_
    refine v_getI dX_act_30 fuX_143 sh_16 rf_16_3 ?_
    obtain ⟨h2, he, hm⟩ := bd_s hm
    refine v_cv2v (M' := tP_keep) dX_act_33 mlX_148 okP_keep sh_70 hc_4 (Nat.le_of_ble_eq_true rfl) (ctP_keep G (d + 4) _ _ sh_1 _ _ he) ?_
    refine v_ald_0 dX_act_36 ?_
    refine v_getR dX_act_37 fuX_49 sh_0 rf_0_5 ?_
    refine v_ild_1 dX_act_40 ?_
    refine v_ild_2 dX_act_41 ?_
    refine v_ild_3 dX_act_42 ?_
    obtain ⟨h3, he, hm⟩ := bd_s hm
    refine v_cv3v (M' := tS_actByHand) dX_act_43 mlX_152 okS_actByHand sh_68 hc_7 (Nat.le_of_ble_eq_true rfl) (ctS_actByHand G d _ _ _ _ sh_68 _ _ he) ?_
    refine v_iconst (x := 1) dX_act_46 rfl ?_
    cases hm
    exact v_zret1 dX_act_47 rfl
def mX_quarters_L31 (p1 : Int32) : Nat → Int32 → Int32 → PH → Option (Int32 × PH)
  | 0, _, _, _ => none
  | n + 1, v2, v3, hv =>
    if p1 ≤ v3 then
      some (v2, hv)
    else
      bd (mP_keep 1 (hv 16 3) hv) fun h2 =>
      bd2 (mS_pass 68 h2) fun r3 h4 =>
      lt (v2 + r3) fun x5 =>
      mX_quarters_L31 p1 n x5 (v3 + 1) h4
def mX_quarters (p1 : Int32) (h0 : PH) : Option (Int32 × PH) :=
  bd (mX_within p1 1 60 h0) fun r1 =>
  if r1 = 0 then
    some ((-1), h0)
  else
    if ((h0 1 6) + p1) ≤ 9999 then
      mX_quarters_L31 p1 FU 0 0 h0
    else
      some ((-1), h0)
theorem wX_quarters_L31 (G : GG) (d : Nat) (p1 : Int32) (r : Int32 × PH) : ∀ (n : Nat) (v2 : Int32) (v3 : Int32) (hv : PH), mX_quarters_L31 p1 n v2 v3 hv = some r → Vx G tX_quarters (d + 7) 31 [some (.ref (gB G + 0)), some (.int p1), some (.int v2), some (.int v3)] [] hv (some (.int r.1)) r.2 := by
  intro n
  induction n with
  | zero => intro v2 v3 hv hm; cases hm
  | succ n ih =>
    intro v2 v3 hv hm
    unfold mX_quarters_L31 at hm
    refine v_ild_3 dX_quarters_31 ?_
    refine v_ild_1 dX_quarters_32 ?_
    refine v_cmp_ge dX_quarters_33 (fun hc => ?_) (fun hc => ?_)
    · replace hm := it hc hm
      refine v_ild_2 dX_quarters_73 ?_
      cases hm
      exact v_iret dX_quarters_74 rfl
    · replace hm := ie hc hm
      refine v_ald_0 dX_quarters_36 ?_
      refine v_getR dX_quarters_37 fuX_59 sh_0 rf_0_7 ?_
      refine v_ald_0 dX_quarters_40 ?_
      refine v_getR dX_quarters_41 fuX_25 sh_0 rf_0_0 ?_
      refine v_ald_0 dX_quarters_44 ?_
      refine v_getR dX_quarters_45 fuX_34 sh_0 rf_0_3 ?_
      refine v_getR dX_quarters_48 fuX_140 sh_5 rf_5_5 ?_
      refine v_getI dX_quarters_51 fuX_143 sh_16 rf_16_3 ?_
      obtain ⟨h2, he, hm⟩ := bd_s hm
      refine v_cv2v (M' := tP_keep) dX_quarters_54 mlX_148 okP_keep sh_70 hc_4 (Nat.le_of_ble_eq_true rfl) (ctP_keep G (d + 5) _ _ sh_1 _ _ he) ?_
      refine v_ild_2 dX_quarters_57 ?_
      refine v_ald_0 dX_quarters_58 ?_
      refine v_getR dX_quarters_59 fuX_49 sh_0 rf_0_5 ?_
      obtain ⟨r3, h4, he, hm⟩ := bd2_s hm
      refine v_cv0i (M' := tS_pass) dX_quarters_62 mlX_158 okS_pass sh_68 hc_7 (Nat.le_of_ble_eq_true rfl) (ctS_pass G d _ sh_68 _ _ he) ?_
      refine v_iadd dX_quarters_65 ?_
      refine v_top hm (fun x5 hm => ?_)
      refine v_ist_2 dX_quarters_66 (by decide) rfl ?_
      refine v_inc_3 1 dX_quarters_67 rfl (by decide) rfl ?_
      refine v_goto dX_quarters_70 ?_
      exact v_kw (ih _ _ _ hm) (wk_s (wk_s (wk_s (wk_s wk_e))))
theorem ctX_quarters (G : GG) (d : Nat) (p1 : Int32) (h0 : PH) (r : Int32 × PH) (hm : mX_quarters p1 h0 = some r) : Kx G tX_quarters (d + 7) [.ref (gB G + 0), .int p1] h0 (some (.int r.1)) r.2 := by
  refine K_of_V (by decide) (by simp [Value.category]) (by simp [tX_quarters]) ?_
  change Vx G tX_quarters (d + 7) 0 [some (.ref (gB G + 0)), some (.int p1), none, none] [] h0 (some (.int r.1)) r.2
  unfold mX_quarters at hm
  refine v_ild_1 dX_quarters_0 ?_
  refine v_iconst (x := 1) dX_quarters_1 rfl ?_
  refine v_bipush (x := 60) dX_quarters_2 rfl ?_
  obtain ⟨r1, he, hm⟩ := bd_s hm
  refine v_cs3i (M' := tX_within) dX_quarters_4 mlX_111 okX_within (Nat.le_of_ble_eq_true rfl) (ctX_within G (d + 6) _ _ _ _ _ he) ?_
  refine v_if_eq dX_quarters_7 (fun hc => ?_) (fun hc => ?_)
  · replace hm := it hc hm
    refine v_iconst (x := (-1)) dX_quarters_25 rfl ?_
    cases hm
    exact v_iret dX_quarters_26 rfl
  · replace hm := ie hc hm
    refine v_ald_0 dX_quarters_10 ?_
    refine v_getR dX_quarters_11 fuX_25 sh_0 rf_0_0 ?_
    refine v_getI dX_quarters_14 fuX_155 sh_1 rf_1_6 ?_
    refine v_ild_1 dX_quarters_17 ?_
    refine v_iadd dX_quarters_18 ?_
    refine v_sipush (x := 9999) dX_quarters_19 rfl ?_
    refine v_cmp_le dX_quarters_22 (fun hc => ?_) (fun hc => ?_)
    · replace hm := it hc hm
      refine v_iconst (x := 0) dX_quarters_27 rfl ?_
      refine v_ist_2 dX_quarters_28 (by decide) rfl ?_
      refine v_iconst (x := 0) dX_quarters_29 rfl ?_
      refine v_ist_3 dX_quarters_30 (by decide) rfl ?_
      exact v_kw (wX_quarters_L31 G d _ _ FU _ _ _ hm) (wk_s (wk_s (wk_s (wk_s wk_e))))
    · replace hm := ie hc hm
      refine v_iconst (x := (-1)) dX_quarters_25 rfl ?_
      cases hm
      exact v_iret dX_quarters_26 rfl
def mX_feed (p1 : Int32) (p2 : Int32) (p3 : Int32) (p4 : Int32) (p5 : Int32) (h0 : PH) : Option (Int32 × PH) :=
  if ((h0 85 4) + 20) ≤ 400 then
    bd (mA_take p1 h0) fun h1 =>
    bd (mA_take p2 h1) fun h2 =>
    bd (mA_take p3 h2) fun h3 =>
    bd (mA_take p4 h3) fun h4 =>
    bd (mA_take p5 h4) fun h5 =>
    some (h5 85 4, h5)
  else
    some ((-1), h0)
theorem ctX_feed (G : GG) (d : Nat) (p1 : Int32) (p2 : Int32) (p3 : Int32) (p4 : Int32) (p5 : Int32) (h0 : PH) (r : Int32 × PH) (hm : mX_feed p1 p2 p3 p4 p5 h0 = some r) : Kx G tX_feed (d + 1) [.ref (gB G + 0), .int p1, .int p2, .int p3, .int p4, .int p5] h0 (some (.int r.1)) r.2 := by
  refine K_of_V (by decide) (by simp [Value.category]) (by simp [tX_feed]) ?_
  change Vx G tX_feed (d + 1) 0 [some (.ref (gB G + 0)), some (.int p1), some (.int p2), some (.int p3), some (.int p4), some (.int p5)] [] h0 (some (.int r.1)) r.2
  unfold mX_feed at hm
  refine v_ald_0 dX_feed_0 ?_
  refine v_getR dX_feed_1 fuX_66 sh_0 rf_0_8 ?_
  refine v_getI dX_feed_4 fuX_162 sh_85 rf_85_4 ?_
  refine v_bipush (x := 20) dX_feed_7 rfl ?_
  refine v_iadd dX_feed_9 ?_
  refine v_sipush (x := 400) dX_feed_10 rfl ?_
  refine v_cmp_le dX_feed_13 (fun hc => ?_) (fun hc => ?_)
  · replace hm := it hc hm
    refine v_ald_0 dX_feed_18 ?_
    refine v_getR dX_feed_19 fuX_66 sh_0 rf_0_8 ?_
    refine v_ild_1 dX_feed_22 ?_
    obtain ⟨h1, he, hm⟩ := bd_s hm
    refine v_cv1v (M' := tA_take) dX_feed_23 mlX_165 okA_take sh_85 hc_10 (Nat.le_of_ble_eq_true rfl) (ctA_take G d _ _ _ he) ?_
    refine v_ald_0 dX_feed_26 ?_
    refine v_getR dX_feed_27 fuX_66 sh_0 rf_0_8 ?_
    refine v_ild_2 dX_feed_30 ?_
    obtain ⟨h2, he, hm⟩ := bd_s hm
    refine v_cv1v (M' := tA_take) dX_feed_31 mlX_165 okA_take sh_85 hc_10 (Nat.le_of_ble_eq_true rfl) (ctA_take G d _ _ _ he) ?_
    refine v_ald_0 dX_feed_34 ?_
    refine v_getR dX_feed_35 fuX_66 sh_0 rf_0_8 ?_
    refine v_ild_3 dX_feed_38 ?_
    obtain ⟨h3, he, hm⟩ := bd_s hm
    refine v_cv1v (M' := tA_take) dX_feed_39 mlX_165 okA_take sh_85 hc_10 (Nat.le_of_ble_eq_true rfl) (ctA_take G d _ _ _ he) ?_
    refine v_ald_0 dX_feed_42 ?_
    refine v_getR dX_feed_43 fuX_66 sh_0 rf_0_8 ?_
    refine v_ild_4 dX_feed_46 ?_
    obtain ⟨h4, he, hm⟩ := bd_s hm
    refine v_cv1v (M' := tA_take) dX_feed_48 mlX_165 okA_take sh_85 hc_10 (Nat.le_of_ble_eq_true rfl) (ctA_take G d _ _ _ he) ?_
    refine v_ald_0 dX_feed_51 ?_
    refine v_getR dX_feed_52 fuX_66 sh_0 rf_0_8 ?_
    refine v_ild_5 dX_feed_55 ?_
    obtain ⟨h5, he, hm⟩ := bd_s hm
    refine v_cv1v (M' := tA_take) dX_feed_57 mlX_165 okA_take sh_85 hc_10 (Nat.le_of_ble_eq_true rfl) (ctA_take G d _ _ _ he) ?_
    refine v_ald_0 dX_feed_60 ?_
    refine v_getR dX_feed_61 fuX_66 sh_0 rf_0_8 ?_
    refine v_getI dX_feed_64 fuX_162 sh_85 rf_85_4 ?_
    cases hm
    exact v_iret dX_feed_67 rfl
  · replace hm := ie hc hm
    refine v_iconst (x := (-1)) dX_feed_16 rfl ?_
    cases hm
    exact v_iret dX_feed_17 rfl
def mX_end (p1 : Int32) (h0 : PH) : Option (Int32 × PH) :=
  if p1 < 0 then
    some (0, h0)
  else
    if p1 ≤ (h0 85 4) then
      lt (up h0 85 4 p1) fun h1 =>
      some (1, h1)
    else
      some (0, h0)
theorem ctX_end (G : GG) (d : Nat) (p1 : Int32) (h0 : PH) (r : Int32 × PH) (hm : mX_end p1 h0 = some r) : Kx G tX_end d [.ref (gB G + 0), .int p1] h0 (some (.int r.1)) r.2 := by
  refine K_of_V (by decide) (by simp [Value.category]) (by simp [tX_end]) ?_
  change Vx G tX_end d 0 [some (.ref (gB G + 0)), some (.int p1)] [] h0 (some (.int r.1)) r.2
  unfold mX_end at hm
  refine v_ild_1 dX_end_0 ?_
  refine v_if_lt dX_end_1 (fun hc => ?_) (fun hc => ?_)
  · replace hm := it hc hm
    refine v_iconst (x := 0) dX_end_15 rfl ?_
    cases hm
    exact v_zret0 dX_end_16 rfl
  · replace hm := ie hc hm
    refine v_ild_1 dX_end_4 ?_
    refine v_ald_0 dX_end_5 ?_
    refine v_getR dX_end_6 fuX_66 sh_0 rf_0_8 ?_
    refine v_getI dX_end_9 fuX_162 sh_85 rf_85_4 ?_
    refine v_cmp_le dX_end_12 (fun hc => ?_) (fun hc => ?_)
    · replace hm := it hc hm
      refine v_ald_0 dX_end_17 ?_
      refine v_getR dX_end_18 fuX_66 sh_0 rf_0_8 ?_
      refine v_ild_1 dX_end_21 ?_
      refine v_putIl dX_end_22 fuX_162 ft_10_4 sh_85 rf_85_4 hm (fun h1 hm => ?_)
      refine v_iconst (x := 1) dX_end_25 rfl ?_
      cases hm
      exact v_zret1 dX_end_26 rfl
    · replace hm := ie hc hm
      refine v_iconst (x := 0) dX_end_15 rfl ?_
      cases hm
      exact v_zret0 dX_end_16 rfl
def mX_keepText (p1 : Int32) (h0 : PH) : Option (Int32 × PH) :=
  if p1 = 0 then
    bd (mR_copyFrom 6 91 h0) fun h1 =>
    bd (mR_copyFrom 8 93 h1) fun h2 =>
    some (h2 91 3, h2)
  else
    if p1 = 1 then
      bd (mR_copyFrom 10 91 h0) fun h3 =>
      bd (mP_forget h3) fun h4 =>
      some (h4 91 3, h4)
    else
      if p1 = 2 then
        bd (mR_copyFrom 12 91 h0) fun h5 =>
        bd (mP_forget h5) fun h6 =>
        some (h6 91 3, h6)
      else
        bd (mR_copyFrom 14 91 h0) fun h7 =>
        some (h7 91 3, h7)
theorem ctX_keepText (G : GG) (d : Nat) (p1 : Int32) (h0 : PH) (r : Int32 × PH) (hm : mX_keepText p1 h0 = some r) : Kx G tX_keepText (d + 1) [.ref (gB G + 0), .int p1] h0 (some (.int r.1)) r.2 := by
  refine K_of_V (by decide) (by simp [Value.category]) (by simp [tX_keepText]) ?_
  change Vx G tX_keepText (d + 1) 0 [some (.ref (gB G + 0)), some (.int p1), none] [] h0 (some (.int r.1)) r.2
  unfold mX_keepText at hm
  refine v_ald_0 dX_keepText_0 ?_
  refine v_getR dX_keepText_1 fuX_75 sh_0 rf_0_9 ?_
  refine v_getR dX_keepText_4 fuX_361 sh_90 rf_90_0 ?_
  refine v_ast_2 dX_keepText_7 (by decide) rfl ?_
  refine v_ild_1 dX_keepText_8 ?_
  refine v_sw dX_keepText_9 ?_
  refine v_selc (fun hc => ?_) (fun hc => ?_)
  · replace hm := it hc hm
    refine v_ald_0 dX_keepText_36 ?_
    refine v_getR dX_keepText_37 fuX_34 sh_0 rf_0_3 ?_
    refine v_getR dX_keepText_40 fuX_15 sh_5 rf_5_0 ?_
    refine v_ald_2 dX_keepText_43 ?_
    obtain ⟨h1, he, hm⟩ := bd_s hm
    refine v_cv1v (M' := tR_copyFrom) dX_keepText_44 mlX_363 okR_copyFrom sh_6 hc_6 (Nat.le_of_ble_eq_true rfl) (ctR_copyFrom G d _ _ sh_6 sh_91 _ _ he) ?_
    refine v_ald_0 dX_keepText_47 ?_
    refine v_getR dX_keepText_48 fuX_34 sh_0 rf_0_3 ?_
    refine v_getR dX_keepText_51 fuX_19 sh_5 rf_5_1 ?_
    refine v_ald_0 dX_keepText_54 ?_
    refine v_getR dX_keepText_55 fuX_75 sh_0 rf_0_9 ?_
    refine v_getR dX_keepText_58 fuX_366 sh_90 rf_90_1 ?_
    obtain ⟨h2, he, hm⟩ := bd_s hm
    refine v_cv1v (M' := tR_copyFrom) dX_keepText_61 mlX_363 okR_copyFrom sh_8 hc_6 (Nat.le_of_ble_eq_true rfl) (ctR_copyFrom G d _ _ sh_8 sh_93 _ _ he) ?_
    refine v_goto dX_keepText_64 ?_
    refine v_ald_2 dX_keepText_120 ?_
    refine v_getI dX_keepText_121 fuX_143 sh_91 rf_91_3 ?_
    cases hm
    exact v_iret dX_keepText_124 rfl
  · replace hm := ie hc hm
    refine v_selc (fun hc => ?_) (fun hc => ?_)
    · replace hm := it hc hm
      refine v_ald_0 dX_keepText_67 ?_
      refine v_getR dX_keepText_68 fuX_34 sh_0 rf_0_3 ?_
      refine v_getR dX_keepText_71 fuX_351 sh_5 rf_5_2 ?_
      refine v_ald_2 dX_keepText_74 ?_
      obtain ⟨h3, he, hm⟩ := bd_s hm
      refine v_cv1v (M' := tR_copyFrom) dX_keepText_75 mlX_363 okR_copyFrom sh_10 hc_6 (Nat.le_of_ble_eq_true rfl) (ctR_copyFrom G d _ _ sh_10 sh_91 _ _ he) ?_
      refine v_ald_0 dX_keepText_78 ?_
      refine v_getR dX_keepText_79 fuX_59 sh_0 rf_0_7 ?_
      obtain ⟨h4, he, hm⟩ := bd_s hm
      refine v_cv0v (M' := tP_forget) dX_keepText_82 mlX_108 okP_forget sh_70 hc_4 (Nat.le_of_ble_eq_true rfl) (ctP_forget G d _ _ he) ?_
      refine v_goto dX_keepText_85 ?_
      refine v_ald_2 dX_keepText_120 ?_
      refine v_getI dX_keepText_121 fuX_143 sh_91 rf_91_3 ?_
      cases hm
      exact v_iret dX_keepText_124 rfl
    · replace hm := ie hc hm
      refine v_selc (fun hc => ?_) (fun hc => ?_)
      · replace hm := it hc hm
        refine v_ald_0 dX_keepText_88 ?_
        refine v_getR dX_keepText_89 fuX_34 sh_0 rf_0_3 ?_
        refine v_getR dX_keepText_92 fuX_354 sh_5 rf_5_3 ?_
        refine v_ald_2 dX_keepText_95 ?_
        obtain ⟨h5, he, hm⟩ := bd_s hm
        refine v_cv1v (M' := tR_copyFrom) dX_keepText_96 mlX_363 okR_copyFrom sh_12 hc_6 (Nat.le_of_ble_eq_true rfl) (ctR_copyFrom G d _ _ sh_12 sh_91 _ _ he) ?_
        refine v_ald_0 dX_keepText_99 ?_
        refine v_getR dX_keepText_100 fuX_59 sh_0 rf_0_7 ?_
        obtain ⟨h6, he, hm⟩ := bd_s hm
        refine v_cv0v (M' := tP_forget) dX_keepText_103 mlX_108 okP_forget sh_70 hc_4 (Nat.le_of_ble_eq_true rfl) (ctP_forget G d _ _ he) ?_
        refine v_goto dX_keepText_106 ?_
        refine v_ald_2 dX_keepText_120 ?_
        refine v_getI dX_keepText_121 fuX_143 sh_91 rf_91_3 ?_
        cases hm
        exact v_iret dX_keepText_124 rfl
      · replace hm := ie hc hm
        refine v_seln ?_
        refine v_ald_0 dX_keepText_109 ?_
        refine v_getR dX_keepText_110 fuX_34 sh_0 rf_0_3 ?_
        refine v_getR dX_keepText_113 fuX_225 sh_5 rf_5_4 ?_
        refine v_ald_2 dX_keepText_116 ?_
        obtain ⟨h7, he, hm⟩ := bd_s hm
        refine v_cv1v (M' := tR_copyFrom) dX_keepText_117 mlX_363 okR_copyFrom sh_14 hc_6 (Nat.le_of_ble_eq_true rfl) (ctR_copyFrom G d _ _ sh_14 sh_91 _ _ he) ?_
        refine v_ald_2 dX_keepText_120 ?_
        refine v_getI dX_keepText_121 fuX_143 sh_91 rf_91_3 ?_
        cases hm
        exact v_iret dX_keepText_124 rfl
def mX_fault (p1 : Int32) (h0 : PH) : Option (Int32) :=
  if p1 = 0 then
    some (h0 90 2)
  else
    if p1 = 1 then
      some (h0 90 3)
    else
      some (-1)
theorem ctX_fault (G : GG) (d : Nat) (p1 : Int32) (h0 : PH) (r : Int32) (hm : mX_fault p1 h0 = some r) : Kx G tX_fault d [.ref (gB G + 0), .int p1] h0 (some (.int r)) h0 := by
  refine K_of_V (by decide) (by simp [Value.category]) (by simp [tX_fault]) ?_
  change Vx G tX_fault d 0 [some (.ref (gB G + 0)), some (.int p1)] [] h0 (some (.int r)) h0
  unfold mX_fault at hm
  refine v_ild_1 dX_fault_0 ?_
  refine v_sw dX_fault_1 ?_
  refine v_selc (fun hc => ?_) (fun hc => ?_)
  · replace hm := it hc hm
    refine v_ald_0 dX_fault_28 ?_
    refine v_getR dX_fault_29 fuX_75 sh_0 rf_0_9 ?_
    refine v_getI dX_fault_32 fuX_179 sh_90 rf_90_2 ?_
    cases hm
    exact v_iret dX_fault_35 rfl
  · replace hm := ie hc hm
    refine v_selc (fun hc => ?_) (fun hc => ?_)
    · replace hm := it hc hm
      refine v_ald_0 dX_fault_36 ?_
      refine v_getR dX_fault_37 fuX_75 sh_0 rf_0_9 ?_
      refine v_getI dX_fault_40 fuX_182 sh_90 rf_90_3 ?_
      cases hm
      exact v_iret dX_fault_43 rfl
    · replace hm := ie hc hm
      refine v_seln ?_
      refine v_iconst (x := (-1)) dX_fault_44 rfl ?_
      cases hm
      exact v_iret dX_fault_45 rfl
def mX_of (p1 : Int32) (p2 : Int32) (h0 : PH) : Option (Int32 × PH) :=
  bd (mB_has 1 p1 h0) fun r1 =>
  if r1 = 0 then
    some ((-1), h0)
  else
    bd (mX_within p2 0 10 h0) fun r2 =>
    if r2 = 0 then
      if p2 = 11 then
        bd (mB_thickest 1 p1 h0) fun r3 =>
        bd2 (mW_tells 1 p1 r3 0 h0) fun r4 h5 =>
        some (r4, h5)
      else
        if p2 = 12 then
          bd (mO_nextTo 5 p1 h0) fun r6 =>
          some (r6, h0)
        else
          bd (mX_within p2 20 23 h0) fun r7 =>
          if r7 = 0 then
            bd (mX_within p2 30 33 h0) fun r8 =>
            if r8 = 0 then
              some ((-1), h0)
            else
              bd2 (mW_tells 1 p1 (p2 - 30) 2 h0) fun r9 h10 =>
              some (r9, h10)
          else
            bd2 (mW_tells 1 p1 (p2 - 20) 1 h0) fun r11 h12 =>
            some (r11, h12)
    else
      bd (mB_read 1 p1 p2 h0) fun r13 =>
      some (r13, h0)
theorem ctX_of (G : GG) (d : Nat) (p1 : Int32) (p2 : Int32) (h0 : PH) (r : Int32 × PH) (hm : mX_of p1 p2 h0 = some r) : Kx G tX_of (d + 5) [.ref (gB G + 0), .int p1, .int p2] h0 (some (.int r.1)) r.2 := by
  refine K_of_V (by decide) (by simp [Value.category]) (by simp [tX_of]) ?_
  change Vx G tX_of (d + 5) 0 [some (.ref (gB G + 0)), some (.int p1), some (.int p2)] [] h0 (some (.int r.1)) r.2
  unfold mX_of at hm
  refine v_ald_0 dX_of_0 ?_
  refine v_getR dX_of_1 fuX_25 sh_0 rf_0_0 ?_
  refine v_ild_1 dX_of_4 ?_
  obtain ⟨r1, he, hm⟩ := bd_s hm
  refine v_cv1i (M' := tB_has) dX_of_5 mlX_125 okB_has sh_1 hc_1 (Nat.le_of_ble_eq_true rfl) (ctB_has G (d + 4) _ _ sh_1 _ _ he) ?_
  refine v_if_ne dX_of_8 (fun hc => ?_) (fun hc => ?_)
  · replace hm := it hc hm
    refine v_iconst (x := (-1)) dX_of_11 rfl ?_
    cases hm
    exact v_iret dX_of_12 rfl
  · replace hm := ie hc hm
    refine v_ild_2 dX_of_13 ?_
    refine v_iconst (x := 0) dX_of_14 rfl ?_
    refine v_bipush (x := 10) dX_of_15 rfl ?_
    obtain ⟨r2, he, hm⟩ := bd_s hm
    refine v_cs3i (M' := tX_within) dX_of_17 mlX_111 okX_within (Nat.le_of_ble_eq_true rfl) (ctX_within G (d + 4) _ _ _ _ _ he) ?_
    refine v_if_eq dX_of_20 (fun hc => ?_) (fun hc => ?_)
    · replace hm := it hc hm
      refine v_ild_2 dX_of_33 ?_
      refine v_bipush (x := 11) dX_of_34 rfl ?_
      refine v_cmp_ne dX_of_36 (fun hc => ?_) (fun hc => ?_)
      · replace hm := it hc hm
        refine v_ald_0 dX_of_39 ?_
        refine v_getR dX_of_40 fuX_49 sh_0 rf_0_5 ?_
        refine v_getR dX_of_43 fuX_189 sh_68 rf_68_2 ?_
        refine v_ald_0 dX_of_46 ?_
        refine v_getR dX_of_47 fuX_25 sh_0 rf_0_0 ?_
        refine v_ild_1 dX_of_50 ?_
        refine v_ald_0 dX_of_51 ?_
        refine v_getR dX_of_52 fuX_25 sh_0 rf_0_0 ?_
        refine v_ild_1 dX_of_55 ?_
        obtain ⟨r3, he, hm⟩ := bd_s hm
        refine v_cv1i (M' := tB_thickest) dX_of_56 mlX_192 okB_thickest sh_1 hc_1 (Nat.le_of_ble_eq_true rfl) (ctB_thickest G (d + 3) _ _ sh_1 _ _ he) ?_
        refine v_iconst (x := 0) dX_of_59 rfl ?_
        obtain ⟨r4, h5, he, hm⟩ := bd2_s hm
        refine v_cv4i (M' := tW_tells) dX_of_60 mlX_195 okW_tells sh_34 hc_3 (Nat.le_of_ble_eq_true rfl) (ctW_tells G d _ _ _ _ sh_1 _ _ he) ?_
        cases hm
        exact v_iret dX_of_63 rfl
      · replace hm := ie hc hm
        refine v_ild_2 dX_of_64 ?_
        refine v_bipush (x := 12) dX_of_65 rfl ?_
        refine v_cmp_ne dX_of_67 (fun hc => ?_) (fun hc => ?_)
        · replace hm := it hc hm
          refine v_ald_0 dX_of_70 ?_
          refine v_getR dX_of_71 fuX_34 sh_0 rf_0_3 ?_
          refine v_ild_1 dX_of_74 ?_
          obtain ⟨r6, he, hm⟩ := bd_s hm
          refine v_cv1i (M' := tO_nextTo) dX_of_75 mlX_199 okO_nextTo sh_5 hc_11 (Nat.le_of_ble_eq_true rfl) (ctO_nextTo G (d + 3) _ _ sh_5 _ _ he) ?_
          cases hm
          exact v_iret dX_of_78 rfl
        · replace hm := ie hc hm
          refine v_ild_2 dX_of_79 ?_
          refine v_bipush (x := 20) dX_of_80 rfl ?_
          refine v_bipush (x := 23) dX_of_82 rfl ?_
          obtain ⟨r7, he, hm⟩ := bd_s hm
          refine v_cs3i (M' := tX_within) dX_of_84 mlX_111 okX_within (Nat.le_of_ble_eq_true rfl) (ctX_within G (d + 4) _ _ _ _ _ he) ?_
          refine v_if_eq dX_of_87 (fun hc => ?_) (fun hc => ?_)
          · replace hm := it hc hm
            refine v_ild_2 dX_of_111 ?_
            refine v_bipush (x := 30) dX_of_112 rfl ?_
            refine v_bipush (x := 33) dX_of_114 rfl ?_
            obtain ⟨r8, he, hm⟩ := bd_s hm
            refine v_cs3i (M' := tX_within) dX_of_116 mlX_111 okX_within (Nat.le_of_ble_eq_true rfl) (ctX_within G (d + 4) _ _ _ _ _ he) ?_
            refine v_if_eq dX_of_119 (fun hc => ?_) (fun hc => ?_)
            · replace hm := it hc hm
              refine v_iconst (x := (-1)) dX_of_143 rfl ?_
              cases hm
              exact v_iret dX_of_144 rfl
            · replace hm := ie hc hm
              refine v_ald_0 dX_of_122 ?_
              refine v_getR dX_of_123 fuX_49 sh_0 rf_0_5 ?_
              refine v_getR dX_of_126 fuX_189 sh_68 rf_68_2 ?_
              refine v_ald_0 dX_of_129 ?_
              refine v_getR dX_of_130 fuX_25 sh_0 rf_0_0 ?_
              refine v_ild_1 dX_of_133 ?_
              refine v_ild_2 dX_of_134 ?_
              refine v_bipush (x := 30) dX_of_135 rfl ?_
              refine v_isub dX_of_137 ?_
              refine v_iconst (x := 2) dX_of_138 rfl ?_
              obtain ⟨r9, h10, he, hm⟩ := bd2_s hm
              refine v_cv4i (M' := tW_tells) dX_of_139 mlX_195 okW_tells sh_34 hc_3 (Nat.le_of_ble_eq_true rfl) (ctW_tells G d _ _ _ _ sh_1 _ _ he) ?_
              cases hm
              exact v_iret dX_of_142 rfl
          · replace hm := ie hc hm
            refine v_ald_0 dX_of_90 ?_
            refine v_getR dX_of_91 fuX_49 sh_0 rf_0_5 ?_
            refine v_getR dX_of_94 fuX_189 sh_68 rf_68_2 ?_
            refine v_ald_0 dX_of_97 ?_
            refine v_getR dX_of_98 fuX_25 sh_0 rf_0_0 ?_
            refine v_ild_1 dX_of_101 ?_
            refine v_ild_2 dX_of_102 ?_
            refine v_bipush (x := 20) dX_of_103 rfl ?_
            refine v_isub dX_of_105 ?_
            refine v_iconst (x := 1) dX_of_106 rfl ?_
            obtain ⟨r11, h12, he, hm⟩ := bd2_s hm
            refine v_cv4i (M' := tW_tells) dX_of_107 mlX_195 okW_tells sh_34 hc_3 (Nat.le_of_ble_eq_true rfl) (ctW_tells G d _ _ _ _ sh_1 _ _ he) ?_
            cases hm
            exact v_iret dX_of_110 rfl
    · replace hm := ie hc hm
      refine v_ald_0 dX_of_23 ?_
      refine v_getR dX_of_24 fuX_25 sh_0 rf_0_0 ?_
      refine v_ild_1 dX_of_27 ?_
      refine v_ild_2 dX_of_28 ?_
      obtain ⟨r13, he, hm⟩ := bd_s hm
      refine v_cv2i (M' := tB_read) dX_of_29 mlX_185 okB_read sh_1 hc_1 (Nat.le_of_ble_eq_true rfl) (ctB_read G (d + 4) _ _ _ sh_1 _ _ he) ?_
      cases hm
      exact v_iret dX_of_32 rfl
def mX_book (p1 : Int32) (p2 : Int32) (h0 : PH) : Option (Int32) :=
  if p1 < 0 then
    some (-2)
  else
    if (h0 16 3) ≤ p1 then
      some (-2)
    else
      bd (mX_within p2 0 3 h0) fun r1 =>
      if r1 = 0 then
        some (-2)
      else
        bd (mR_at 16 p1 p2 h0) fun r2 =>
        some r2
theorem ctX_book (G : GG) (d : Nat) (p1 : Int32) (p2 : Int32) (h0 : PH) (r : Int32) (hm : mX_book p1 p2 h0 = some r) : Kx G tX_book (d + 1) [.ref (gB G + 0), .int p1, .int p2] h0 (some (.int r)) h0 := by
  refine K_of_V (by decide) (by simp [Value.category]) (by simp [tX_book]) ?_
  change Vx G tX_book (d + 1) 0 [some (.ref (gB G + 0)), some (.int p1), some (.int p2)] [] h0 (some (.int r)) h0
  unfold mX_book at hm
  refine v_ild_1 dX_book_0 ?_
  refine v_if_lt dX_book_1 (fun hc => ?_) (fun hc => ?_)
  · replace hm := it hc hm
    refine v_bipush (x := (-2)) dX_book_27 rfl ?_
    cases hm
    exact v_iret dX_book_29 rfl
  · replace hm := ie hc hm
    refine v_ild_1 dX_book_4 ?_
    refine v_ald_0 dX_book_5 ?_
    refine v_getR dX_book_6 fuX_34 sh_0 rf_0_3 ?_
    refine v_getR dX_book_9 fuX_140 sh_5 rf_5_5 ?_
    refine v_getI dX_book_12 fuX_143 sh_16 rf_16_3 ?_
    refine v_cmp_ge dX_book_15 (fun hc => ?_) (fun hc => ?_)
    · replace hm := it hc hm
      refine v_bipush (x := (-2)) dX_book_27 rfl ?_
      cases hm
      exact v_iret dX_book_29 rfl
    · replace hm := ie hc hm
      refine v_ild_2 dX_book_18 ?_
      refine v_iconst (x := 0) dX_book_19 rfl ?_
      refine v_iconst (x := 3) dX_book_20 rfl ?_
      obtain ⟨r1, he, hm⟩ := bd_s hm
      refine v_cs3i (M' := tX_within) dX_book_21 mlX_111 okX_within (Nat.le_of_ble_eq_true rfl) (ctX_within G d _ _ _ _ _ he) ?_
      refine v_if_ne dX_book_24 (fun hc => ?_) (fun hc => ?_)
      · replace hm := it hc hm
        refine v_bipush (x := (-2)) dX_book_27 rfl ?_
        cases hm
        exact v_iret dX_book_29 rfl
      · replace hm := ie hc hm
        refine v_ald_0 dX_book_30 ?_
        refine v_getR dX_book_31 fuX_34 sh_0 rf_0_3 ?_
        refine v_getR dX_book_34 fuX_140 sh_5 rf_5_5 ?_
        refine v_ild_1 dX_book_37 ?_
        refine v_ild_2 dX_book_38 ?_
        obtain ⟨r2, he, hm⟩ := bd_s hm
        refine v_cv2i (M' := tR_at) dX_book_39 mlX_202 okR_at sh_16 hc_6 (Nat.le_of_ble_eq_true rfl) (ctR_at G d _ _ _ sh_16 _ _ he) ?_
        cases hm
        exact v_iret dX_book_42 rfl
def mX_goes_L34 (p1 : Int32) (p2 : Int32) (k0 : PH → Option (Int32 × PH)) : Nat → Int32 → PH → Option (Int32 × PH)
  | 0, _, _ => none
  | n + 1, v3, hv =>
    if p1 ≤ v3 then
      k0 hv
    else
      bd2 (mS_pass 69 hv) fun r4 h5 =>
      mX_goes_L34 p1 p2 k0 n (v3 + 1) h5
def mX_goes (p1 : Int32) (p2 : Int32) (h0 : PH) : Option (Int32 × PH) :=
  bd (mX_within p1 1 60 h0) fun r1 =>
  if r1 = 0 then
    some ((-1), h0)
  else
    bd (mX_within p2 0 3 h0) fun r2 =>
    if r2 = 0 then
      some ((-1), h0)
    else
      bd (mB_copyFrom 3 1 h0) fun h3 =>
      mX_goes_L34 p1 p2 (fun (h6 : PH) =>
        if p2 = 0 then
          some (h6 3 4, h6)
        else
          if p2 = 1 then
            bd (mB_countUp 3 h6) fun r7 =>
            some (r7, h6)
          else
            if p2 = 2 then
              bd (mB_total 3 8 h6) fun r8 =>
              some (r8, h6)
            else
              bd (mB_total 3 7 h6) fun r9 =>
              some (r9, h6)) FU 0 h3
theorem wX_goes_L34 (G : GG) (d : Nat) (p1 : Int32) (p2 : Int32) (k0 : PH → Option (Int32 × PH)) (r : Int32 × PH) (kk0 : ∀ (hy : PH), k0 hy = some r → Vx G tX_goes (d + 7) 53 [some (.ref (gB G + 0)), none, some (.int p2), none] [] hy (some (.int r.1)) r.2) : ∀ (n : Nat) (v3 : Int32) (hv : PH), mX_goes_L34 p1 p2 k0 n v3 hv = some r → Vx G tX_goes (d + 7) 34 [some (.ref (gB G + 0)), some (.int p1), some (.int p2), some (.int v3)] [] hv (some (.int r.1)) r.2 := by
  intro n
  induction n with
  | zero => intro v3 hv hm; cases hm
  | succ n ih =>
    intro v3 hv hm
    unfold mX_goes_L34 at hm
    refine v_ild_3 dX_goes_34 ?_
    refine v_ild_1 dX_goes_35 ?_
    refine v_cmp_ge dX_goes_36 (fun hc => ?_) (fun hc => ?_)
    · replace hm := it hc hm
      exact v_kw (kk0 _ hm) (wk_s (wk_n (wk_s (wk_n wk_e))))
    · replace hm := ie hc hm
      refine v_ald_0 dX_goes_39 ?_
      refine v_getR dX_goes_40 fuX_53 sh_0 rf_0_6 ?_
      obtain ⟨r4, h5, he, hm⟩ := bd2_s hm
      refine v_cv0i (M' := tS_pass) dX_goes_43 mlX_158 okS_pass sh_69 hc_7 (Nat.le_of_ble_eq_true rfl) (ctS_pass G d _ sh_69 _ _ he) ?_
      refine v_pop dX_goes_46 rfl ?_
      refine v_inc_3 1 dX_goes_47 rfl (by decide) rfl ?_
      refine v_goto dX_goes_50 ?_
      exact v_kw (ih _ _ hm) (wk_s (wk_s (wk_s (wk_s wk_e))))
theorem ctX_goes (G : GG) (d : Nat) (p1 : Int32) (p2 : Int32) (h0 : PH) (r : Int32 × PH) (hm : mX_goes p1 p2 h0 = some r) : Kx G tX_goes (d + 7) [.ref (gB G + 0), .int p1, .int p2] h0 (some (.int r.1)) r.2 := by
  refine K_of_V (by decide) (by simp [Value.category]) (by simp [tX_goes]) ?_
  change Vx G tX_goes (d + 7) 0 [some (.ref (gB G + 0)), some (.int p1), some (.int p2), none] [] h0 (some (.int r.1)) r.2
  unfold mX_goes at hm
  refine v_ild_1 dX_goes_0 ?_
  refine v_iconst (x := 1) dX_goes_1 rfl ?_
  refine v_bipush (x := 60) dX_goes_2 rfl ?_
  obtain ⟨r1, he, hm⟩ := bd_s hm
  refine v_cs3i (M' := tX_within) dX_goes_4 mlX_111 okX_within (Nat.le_of_ble_eq_true rfl) (ctX_within G (d + 6) _ _ _ _ _ he) ?_
  refine v_if_eq dX_goes_7 (fun hc => ?_) (fun hc => ?_)
  · replace hm := it hc hm
    refine v_iconst (x := (-1)) dX_goes_19 rfl ?_
    cases hm
    exact v_iret dX_goes_20 rfl
  · replace hm := ie hc hm
    refine v_ild_2 dX_goes_10 ?_
    refine v_iconst (x := 0) dX_goes_11 rfl ?_
    refine v_iconst (x := 3) dX_goes_12 rfl ?_
    obtain ⟨r2, he, hm⟩ := bd_s hm
    refine v_cs3i (M' := tX_within) dX_goes_13 mlX_111 okX_within (Nat.le_of_ble_eq_true rfl) (ctX_within G (d + 6) _ _ _ _ _ he) ?_
    refine v_if_ne dX_goes_16 (fun hc => ?_) (fun hc => ?_)
    · replace hm := it hc hm
      refine v_iconst (x := (-1)) dX_goes_19 rfl ?_
      cases hm
      exact v_iret dX_goes_20 rfl
    · replace hm := ie hc hm
      refine v_ald_0 dX_goes_21 ?_
      refine v_getR dX_goes_22 fuX_31 sh_0 rf_0_2 ?_
      refine v_ald_0 dX_goes_25 ?_
      refine v_getR dX_goes_26 fuX_25 sh_0 rf_0_0 ?_
      obtain ⟨h3, he, hm⟩ := bd_s hm
      refine v_cv1v (M' := tB_copyFrom) dX_goes_29 mlX_205 okB_copyFrom sh_3 hc_1 (Nat.le_of_ble_eq_true rfl) (ctB_copyFrom G (d + 6) _ _ sh_3 sh_1 _ _ he) ?_
      refine v_iconst (x := 0) dX_goes_32 rfl ?_
      refine v_ist_3 dX_goes_33 (by decide) rfl ?_
      refine v_kw (wX_goes_L34 G d _ _ _ _ (fun h6 hm => ?_) FU _ _ hm) (wk_s (wk_s (wk_s (wk_s wk_e))))
      refine v_ild_2 dX_goes_53 ?_
      refine v_sw dX_goes_54 ?_
      refine v_selc (fun hc => ?_) (fun hc => ?_)
      · replace hm := it hc hm
        refine v_ald_0 dX_goes_80 ?_
        refine v_getR dX_goes_81 fuX_31 sh_0 rf_0_2 ?_
        refine v_getI dX_goes_84 fuX_209 sh_3 rf_3_4 ?_
        cases hm
        exact v_iret dX_goes_87 rfl
      · replace hm := ie hc hm
        refine v_selc (fun hc => ?_) (fun hc => ?_)
        · replace hm := it hc hm
          refine v_ald_0 dX_goes_88 ?_
          refine v_getR dX_goes_89 fuX_31 sh_0 rf_0_2 ?_
          obtain ⟨r7, he, hm⟩ := bd_s hm
          refine v_cv0i (M' := tB_countUp) dX_goes_92 mlX_212 okB_countUp sh_3 hc_1 (Nat.le_of_ble_eq_true rfl) (ctB_countUp G (d + 3) _ sh_3 _ _ he) ?_
          cases hm
          exact v_iret dX_goes_95 rfl
        · replace hm := ie hc hm
          refine v_selc (fun hc => ?_) (fun hc => ?_)
          · replace hm := it hc hm
            refine v_ald_0 dX_goes_96 ?_
            refine v_getR dX_goes_97 fuX_31 sh_0 rf_0_2 ?_
            refine v_bipush (x := 8) dX_goes_100 rfl ?_
            obtain ⟨r8, he, hm⟩ := bd_s hm
            refine v_cv1i (M' := tB_total) dX_goes_102 mlX_215 okB_total sh_3 hc_1 (Nat.le_of_ble_eq_true rfl) (ctB_total G (d + 5) _ _ sh_3 _ _ he) ?_
            cases hm
            exact v_iret dX_goes_105 rfl
          · replace hm := ie hc hm
            refine v_seln ?_
            refine v_ald_0 dX_goes_106 ?_
            refine v_getR dX_goes_107 fuX_31 sh_0 rf_0_2 ?_
            refine v_bipush (x := 7) dX_goes_110 rfl ?_
            obtain ⟨r9, he, hm⟩ := bd_s hm
            refine v_cv1i (M' := tB_total) dX_goes_112 mlX_215 okB_total sh_3 hc_1 (Nat.le_of_ble_eq_true rfl) (ctB_total G (d + 5) _ _ sh_3 _ _ he) ?_
            cases hm
            exact v_iret dX_goes_115 rfl
def mX_stands_L40 (p1 : Int32) : Nat → Int32 → PH → Option (Int32 × PH)
  | 0, _, _ => none
  | n + 1, v2, hv =>
    if 200 < v2 then
      some ((-1), hv)
    else
      bd2 (mS_pass 69 hv) fun r4 h5 =>
      bd (mB_isUp 3 p1 h5) fun r6 =>
      if r6 = 0 then
        some (v2, h5)
      else
        mX_stands_L40 p1 n (v2 + 1) h5
def mX_stands (p1 : Int32) (h0 : PH) : Option (Int32 × PH) :=
  bd (mB_has 1 p1 h0) fun r1 =>
  if r1 = 0 then
    some ((-2), h0)
  else
    bd (mB_isUp 1 p1 h0) fun r2 =>
    if r2 = 0 then
      some (0, h0)
    else
      bd (mB_copyFrom 3 1 h0) fun h3 =>
      mX_stands_L40 p1 FU 1 h3
theorem wX_stands_L40 (G : GG) (d : Nat) (p1 : Int32) (r : Int32 × PH) : ∀ (n : Nat) (v2 : Int32) (hv : PH), mX_stands_L40 p1 n v2 hv = some r → Vx G tX_stands (d + 7) 40 [some (.ref (gB G + 0)), some (.int p1), some (.int v2)] [] hv (some (.int r.1)) r.2 := by
  intro n
  induction n with
  | zero => intro v2 hv hm; cases hm
  | succ n ih =>
    intro v2 hv hm
    unfold mX_stands_L40 at hm
    refine v_ild_2 dX_stands_40 ?_
    refine v_sipush (x := 200) dX_stands_41 rfl ?_
    refine v_cmp_gt dX_stands_44 (fun hc => ?_) (fun hc => ?_)
    · replace hm := it hc hm
      refine v_iconst (x := (-1)) dX_stands_74 rfl ?_
      cases hm
      exact v_iret dX_stands_75 rfl
    · replace hm := ie hc hm
      refine v_ald_0 dX_stands_47 ?_
      refine v_getR dX_stands_48 fuX_53 sh_0 rf_0_6 ?_
      obtain ⟨r4, h5, he, hm⟩ := bd2_s hm
      refine v_cv0i (M' := tS_pass) dX_stands_51 mlX_158 okS_pass sh_69 hc_7 (Nat.le_of_ble_eq_true rfl) (ctS_pass G d _ sh_69 _ _ he) ?_
      refine v_pop dX_stands_54 rfl ?_
      refine v_ald_0 dX_stands_55 ?_
      refine v_getR dX_stands_56 fuX_31 sh_0 rf_0_2 ?_
      refine v_ild_1 dX_stands_59 ?_
      obtain ⟨r6, he, hm⟩ := bd_s hm
      refine v_cv1i (M' := tB_isUp) dX_stands_60 mlX_218 okB_isUp sh_3 hc_1 (Nat.le_of_ble_eq_true rfl) (ctB_isUp G (d + 5) _ _ sh_3 _ _ he) ?_
      refine v_if_ne dX_stands_63 (fun hc => ?_) (fun hc => ?_)
      · replace hm := it hc hm
        refine v_ild_2 dX_stands_66 ?_
        cases hm
        exact v_iret dX_stands_67 rfl
      · replace hm := ie hc hm
        refine v_inc_2 1 dX_stands_68 rfl (by decide) rfl ?_
        refine v_goto dX_stands_71 ?_
        exact v_kw (ih _ _ hm) (wk_s (wk_s (wk_s wk_e)))
theorem ctX_stands (G : GG) (d : Nat) (p1 : Int32) (h0 : PH) (r : Int32 × PH) (hm : mX_stands p1 h0 = some r) : Kx G tX_stands (d + 7) [.ref (gB G + 0), .int p1] h0 (some (.int r.1)) r.2 := by
  refine K_of_V (by decide) (by simp [Value.category]) (by simp [tX_stands]) ?_
  change Vx G tX_stands (d + 7) 0 [some (.ref (gB G + 0)), some (.int p1), none] [] h0 (some (.int r.1)) r.2
  unfold mX_stands at hm
  refine v_ald_0 dX_stands_0 ?_
  refine v_getR dX_stands_1 fuX_25 sh_0 rf_0_0 ?_
  refine v_ild_1 dX_stands_4 ?_
  obtain ⟨r1, he, hm⟩ := bd_s hm
  refine v_cv1i (M' := tB_has) dX_stands_5 mlX_125 okB_has sh_1 hc_1 (Nat.le_of_ble_eq_true rfl) (ctB_has G (d + 6) _ _ sh_1 _ _ he) ?_
  refine v_if_ne dX_stands_8 (fun hc => ?_) (fun hc => ?_)
  · replace hm := it hc hm
    refine v_bipush (x := (-2)) dX_stands_11 rfl ?_
    cases hm
    exact v_iret dX_stands_13 rfl
  · replace hm := ie hc hm
    refine v_ald_0 dX_stands_14 ?_
    refine v_getR dX_stands_15 fuX_25 sh_0 rf_0_0 ?_
    refine v_ild_1 dX_stands_18 ?_
    obtain ⟨r2, he, hm⟩ := bd_s hm
    refine v_cv1i (M' := tB_isUp) dX_stands_19 mlX_218 okB_isUp sh_1 hc_1 (Nat.le_of_ble_eq_true rfl) (ctB_isUp G (d + 5) _ _ sh_1 _ _ he) ?_
    refine v_if_ne dX_stands_22 (fun hc => ?_) (fun hc => ?_)
    · replace hm := it hc hm
      refine v_iconst (x := 0) dX_stands_25 rfl ?_
      cases hm
      exact v_iret dX_stands_26 rfl
    · replace hm := ie hc hm
      refine v_ald_0 dX_stands_27 ?_
      refine v_getR dX_stands_28 fuX_31 sh_0 rf_0_2 ?_
      refine v_ald_0 dX_stands_31 ?_
      refine v_getR dX_stands_32 fuX_25 sh_0 rf_0_0 ?_
      obtain ⟨h3, he, hm⟩ := bd_s hm
      refine v_cv1v (M' := tB_copyFrom) dX_stands_35 mlX_205 okB_copyFrom sh_3 hc_1 (Nat.le_of_ble_eq_true rfl) (ctB_copyFrom G (d + 6) _ _ sh_3 sh_1 _ _ he) ?_
      refine v_iconst (x := 1) dX_stands_38 rfl ?_
      refine v_ist_2 dX_stands_39 (by decide) rfl ?_
      exact v_kw (wX_stands_L40 G d _ _ FU _ _ hm) (wk_s (wk_s (wk_s wk_e)))
def mX_cheapestWay (p1 : Int32) (p2 : Int32) (p3 : Int32) (h0 : PH) : Option (Int32 × PH) :=
  bd (mB_has 1 p1 h0) fun r1 =>
  if r1 = 0 then
    some ((-1), h0)
  else
    bd (mB_has 1 p2 h0) fun r2 =>
    if r2 = 0 then
      some ((-1), h0)
    else
      bd (mT_spread 1 14 p1 p3 h0) fun h3 =>
      bd (mT_costTo p2 h3) fun r4 =>
      some (r4, h3)
theorem ctX_cheapestWay (G : GG) (d : Nat) (p1 : Int32) (p2 : Int32) (p3 : Int32) (h0 : PH) (r : Int32 × PH) (hm : mX_cheapestWay p1 p2 p3 h0 = some r) : Kx G tX_cheapestWay (d + 2) [.ref (gB G + 0), .int p1, .int p2, .int p3] h0 (some (.int r.1)) r.2 := by
  refine K_of_V (by decide) (by simp [Value.category]) (by simp [tX_cheapestWay]) ?_
  change Vx G tX_cheapestWay (d + 2) 0 [some (.ref (gB G + 0)), some (.int p1), some (.int p2), some (.int p3)] [] h0 (some (.int r.1)) r.2
  unfold mX_cheapestWay at hm
  refine v_ald_0 dX_cheapestWay_0 ?_
  refine v_getR dX_cheapestWay_1 fuX_25 sh_0 rf_0_0 ?_
  refine v_ild_1 dX_cheapestWay_4 ?_
  obtain ⟨r1, he, hm⟩ := bd_s hm
  refine v_cv1i (M' := tB_has) dX_cheapestWay_5 mlX_125 okB_has sh_1 hc_1 (Nat.le_of_ble_eq_true rfl) (ctB_has G (d + 1) _ _ sh_1 _ _ he) ?_
  refine v_if_eq dX_cheapestWay_8 (fun hc => ?_) (fun hc => ?_)
  · replace hm := it hc hm
    refine v_iconst (x := (-1)) dX_cheapestWay_22 rfl ?_
    cases hm
    exact v_iret dX_cheapestWay_23 rfl
  · replace hm := ie hc hm
    refine v_ald_0 dX_cheapestWay_11 ?_
    refine v_getR dX_cheapestWay_12 fuX_25 sh_0 rf_0_0 ?_
    refine v_ild_2 dX_cheapestWay_15 ?_
    obtain ⟨r2, he, hm⟩ := bd_s hm
    refine v_cv1i (M' := tB_has) dX_cheapestWay_16 mlX_125 okB_has sh_1 hc_1 (Nat.le_of_ble_eq_true rfl) (ctB_has G (d + 1) _ _ sh_1 _ _ he) ?_
    refine v_if_ne dX_cheapestWay_19 (fun hc => ?_) (fun hc => ?_)
    · replace hm := it hc hm
      refine v_iconst (x := (-1)) dX_cheapestWay_22 rfl ?_
      cases hm
      exact v_iret dX_cheapestWay_23 rfl
    · replace hm := ie hc hm
      refine v_ald_0 dX_cheapestWay_24 ?_
      refine v_getR dX_cheapestWay_25 fuX_82 sh_0 rf_0_10 ?_
      refine v_ald_0 dX_cheapestWay_28 ?_
      refine v_getR dX_cheapestWay_29 fuX_25 sh_0 rf_0_0 ?_
      refine v_ald_0 dX_cheapestWay_32 ?_
      refine v_getR dX_cheapestWay_33 fuX_34 sh_0 rf_0_3 ?_
      refine v_getR dX_cheapestWay_36 fuX_225 sh_5 rf_5_4 ?_
      refine v_ild_1 dX_cheapestWay_39 ?_
      refine v_ild_3 dX_cheapestWay_40 ?_
      obtain ⟨h3, he, hm⟩ := bd_s hm
      refine v_cv4v (M' := tT_spread) dX_cheapestWay_41 mlX_228 okT_spread sh_95 hc_9 (Nat.le_of_ble_eq_true rfl) (ctT_spread G d _ _ _ _ sh_1 sh_14 _ _ he) ?_
      refine v_ald_0 dX_cheapestWay_44 ?_
      refine v_getR dX_cheapestWay_45 fuX_82 sh_0 rf_0_10 ?_
      refine v_ild_2 dX_cheapestWay_48 ?_
      obtain ⟨r4, he, hm⟩ := bd_s hm
      refine v_cv1i (M' := tT_costTo) dX_cheapestWay_49 mlX_367 okT_costTo sh_95 hc_9 (Nat.le_of_ble_eq_true rfl) (ctT_costTo G (d + 1) _ _ _ he) ?_
      cases hm
      exact v_iret dX_cheapestWay_52 rfl
def mX_hears (p1 : Int32) (p2 : Int32) (h0 : PH) : Option (Int32 × PH) :=
  bd2 (mX_cheapestWay p1 p2 1 h0) fun r1 h2 =>
  some (r1, h2)
theorem ctX_hears (G : GG) (d : Nat) (p1 : Int32) (p2 : Int32) (h0 : PH) (r : Int32 × PH) (hm : mX_hears p1 p2 h0 = some r) : Kx G tX_hears (d + 3) [.ref (gB G + 0), .int p1, .int p2] h0 (some (.int r.1)) r.2 := by
  refine K_of_V (by decide) (by simp [Value.category]) (by simp [tX_hears]) ?_
  change Vx G tX_hears (d + 3) 0 [some (.ref (gB G + 0)), some (.int p1), some (.int p2)] [] h0 (some (.int r.1)) r.2
  unfold mX_hears at hm
  refine v_ald_0 dX_hears_0 ?_
  refine v_ild_1 dX_hears_1 ?_
  refine v_ild_2 dX_hears_2 ?_
  refine v_iconst (x := 1) dX_hears_3 rfl ?_
  obtain ⟨r1, h2, he, hm⟩ := bd2_s hm
  refine v_cv3i (M' := tX_cheapestWay) dX_hears_4 mlX_221 okX_cheapestWay sh_0 hc_0 (Nat.le_of_ble_eq_true rfl) (ctX_cheapestWay G d _ _ _ _ _ he) ?_
  cases hm
  exact v_iret dX_hears_7 rfl
def mX_heard (p1 : Int32) (p2 : Int32) (h0 : PH) : Option (Int32 × PH) :=
  bd (mB_has 1 p1 h0) fun r1 =>
  if r1 = 0 then
    some ((-1), h0)
  else
    bd (mX_within p2 0 800 h0) fun r2 =>
    if r2 = 0 then
      some ((-1), h0)
    else
      bd (mT_spread 1 14 p1 1 h0) fun h3 =>
      bd (mT_countWithin (h3 1 1) p1 p2 h3) fun r4 =>
      some (r4, h3)
theorem ctX_heard (G : GG) (d : Nat) (p1 : Int32) (p2 : Int32) (h0 : PH) (r : Int32 × PH) (hm : mX_heard p1 p2 h0 = some r) : Kx G tX_heard (d + 2) [.ref (gB G + 0), .int p1, .int p2] h0 (some (.int r.1)) r.2 := by
  refine K_of_V (by decide) (by simp [Value.category]) (by simp [tX_heard]) ?_
  change Vx G tX_heard (d + 2) 0 [some (.ref (gB G + 0)), some (.int p1), some (.int p2)] [] h0 (some (.int r.1)) r.2
  unfold mX_heard at hm
  refine v_ald_0 dX_heard_0 ?_
  refine v_getR dX_heard_1 fuX_25 sh_0 rf_0_0 ?_
  refine v_ild_1 dX_heard_4 ?_
  obtain ⟨r1, he, hm⟩ := bd_s hm
  refine v_cv1i (M' := tB_has) dX_heard_5 mlX_125 okB_has sh_1 hc_1 (Nat.le_of_ble_eq_true rfl) (ctB_has G (d + 1) _ _ sh_1 _ _ he) ?_
  refine v_if_eq dX_heard_8 (fun hc => ?_) (fun hc => ?_)
  · replace hm := it hc hm
    refine v_iconst (x := (-1)) dX_heard_22 rfl ?_
    cases hm
    exact v_iret dX_heard_23 rfl
  · replace hm := ie hc hm
    refine v_ild_2 dX_heard_11 ?_
    refine v_iconst (x := 0) dX_heard_12 rfl ?_
    refine v_sipush (x := 800) dX_heard_13 rfl ?_
    obtain ⟨r2, he, hm⟩ := bd_s hm
    refine v_cs3i (M' := tX_within) dX_heard_16 mlX_111 okX_within (Nat.le_of_ble_eq_true rfl) (ctX_within G (d + 1) _ _ _ _ _ he) ?_
    refine v_if_ne dX_heard_19 (fun hc => ?_) (fun hc => ?_)
    · replace hm := it hc hm
      refine v_iconst (x := (-1)) dX_heard_22 rfl ?_
      cases hm
      exact v_iret dX_heard_23 rfl
    · replace hm := ie hc hm
      refine v_ald_0 dX_heard_24 ?_
      refine v_getR dX_heard_25 fuX_82 sh_0 rf_0_10 ?_
      refine v_ald_0 dX_heard_28 ?_
      refine v_getR dX_heard_29 fuX_25 sh_0 rf_0_0 ?_
      refine v_ald_0 dX_heard_32 ?_
      refine v_getR dX_heard_33 fuX_34 sh_0 rf_0_3 ?_
      refine v_getR dX_heard_36 fuX_225 sh_5 rf_5_4 ?_
      refine v_ild_1 dX_heard_39 ?_
      refine v_iconst (x := 1) dX_heard_40 rfl ?_
      obtain ⟨h3, he, hm⟩ := bd_s hm
      refine v_cv4v (M' := tT_spread) dX_heard_41 mlX_228 okT_spread sh_95 hc_9 (Nat.le_of_ble_eq_true rfl) (ctT_spread G d _ _ _ _ sh_1 sh_14 _ _ he) ?_
      refine v_ald_0 dX_heard_44 ?_
      refine v_getR dX_heard_45 fuX_82 sh_0 rf_0_10 ?_
      refine v_ald_0 dX_heard_48 ?_
      refine v_getR dX_heard_49 fuX_25 sh_0 rf_0_0 ?_
      refine v_getI dX_heard_52 fuX_115 sh_1 rf_1_1 ?_
      refine v_ild_1 dX_heard_55 ?_
      refine v_ild_2 dX_heard_56 ?_
      obtain ⟨r4, he, hm⟩ := bd_s hm
      refine v_cv3i (M' := tT_countWithin) dX_heard_57 mlX_232 okT_countWithin sh_95 hc_9 (Nat.le_of_ble_eq_true rfl) (ctT_countWithin G (d + 1) _ _ _ _ _ he) ?_
      cases hm
      exact v_iret dX_heard_60 rfl
def mX_ants (p1 : Int32) (p2 : Int32) (h0 : PH) : Option (Int32 × PH) :=
  bd2 (mX_cheapestWay p1 p2 0 h0) fun r1 h2 =>
  some (r1, h2)
theorem ctX_ants (G : GG) (d : Nat) (p1 : Int32) (p2 : Int32) (h0 : PH) (r : Int32 × PH) (hm : mX_ants p1 p2 h0 = some r) : Kx G tX_ants (d + 3) [.ref (gB G + 0), .int p1, .int p2] h0 (some (.int r.1)) r.2 := by
  refine K_of_V (by decide) (by simp [Value.category]) (by simp [tX_ants]) ?_
  change Vx G tX_ants (d + 3) 0 [some (.ref (gB G + 0)), some (.int p1), some (.int p2)] [] h0 (some (.int r.1)) r.2
  unfold mX_ants at hm
  refine v_ald_0 dX_ants_0 ?_
  refine v_ild_1 dX_ants_1 ?_
  refine v_ild_2 dX_ants_2 ?_
  refine v_iconst (x := 0) dX_ants_3 rfl ?_
  obtain ⟨r1, h2, he, hm⟩ := bd2_s hm
  refine v_cv3i (M' := tX_cheapestWay) dX_ants_4 mlX_221 okX_cheapestWay sh_0 hc_0 (Nat.le_of_ble_eq_true rfl) (ctX_cheapestWay G d _ _ _ _ _ he) ?_
  cases hm
  exact v_iret dX_ants_7 rfl
def mX_tell (a0 : Nat) (p1 : Int32) (p2 : Int32) (p3 : Int32) (p4 : Int32) (h0 : PH) : Option (Int32 × PH) :=
  if p1 = 0 then
    if p2 = 0 then
      some ((-1), h0)
    else
      bd2 (mR_add a0 p3 p4 0 0 0 h0) fun r1 h2 =>
      if r1 = 0 then
        some ((-1), h2)
      else
        some (h2 a0 3, h2)
  else
    lt (up h0 a0 3 0) fun h3 =>
    some (0, h3)
theorem ctX_tell (G : GG) (d : Nat) (a0 : Nat) (p1 : Int32) (p2 : Int32) (p3 : Int32) (p4 : Int32) (q0 : shL[a0]? = some (6, 4)) (h0 : PH) (r : Int32 × PH) (hm : mX_tell a0 p1 p2 p3 p4 h0 = some r) : Kx G tX_tell (d + 1) [.ref (gB G + a0), .int p1, .int p2, .int p3, .int p4] h0 (some (.int r.1)) r.2 := by
  refine K_of_V (by decide) (by simp [Value.category]) (by simp [tX_tell]) ?_
  change Vx G tX_tell (d + 1) 0 [some (.ref (gB G + a0)), some (.int p1), some (.int p2), some (.int p3), some (.int p4)] [] h0 (some (.int r.1)) r.2
  unfold mX_tell at hm
  refine v_ild_1 dX_tell_0 ?_
  refine v_if_eq dX_tell_1 (fun hc => ?_) (fun hc => ?_)
  · replace hm := it hc hm
    refine v_ild_2 dX_tell_11 ?_
    refine v_if_eq dX_tell_12 (fun hc => ?_) (fun hc => ?_)
    · replace hm := it hc hm
      refine v_iconst (x := (-1)) dX_tell_28 rfl ?_
      cases hm
      exact v_iret dX_tell_29 rfl
    · replace hm := ie hc hm
      refine v_ald_0 dX_tell_15 ?_
      refine v_ild_3 dX_tell_16 ?_
      refine v_ild_4 dX_tell_17 ?_
      refine v_iconst (x := 0) dX_tell_19 rfl ?_
      refine v_iconst (x := 0) dX_tell_20 rfl ?_
      refine v_iconst (x := 0) dX_tell_21 rfl ?_
      obtain ⟨r1, h2, he, hm⟩ := bd2_s hm
      refine v_cv5i (M' := tR_add) dX_tell_22 mlX_357 okR_add q0 hc_6 (Nat.le_of_ble_eq_true rfl) (ctR_add G d _ _ _ _ _ _ q0 _ _ he) ?_
      refine v_if_ne dX_tell_25 (fun hc => ?_) (fun hc => ?_)
      · replace hm := it hc hm
        refine v_iconst (x := (-1)) dX_tell_28 rfl ?_
        cases hm
        exact v_iret dX_tell_29 rfl
      · replace hm := ie hc hm
        refine v_ald_0 dX_tell_30 ?_
        refine v_getI dX_tell_31 fuX_143 q0 (rf_rows_3 q0) ?_
        cases hm
        exact v_iret dX_tell_34 rfl
  · replace hm := ie hc hm
    refine v_ald_0 dX_tell_4 ?_
    refine v_iconst (x := 0) dX_tell_5 rfl ?_
    refine v_putIl dX_tell_6 fuX_143 ft_6_3 q0 (rf_rows_3 q0) hm (fun h3 hm => ?_)
    refine v_iconst (x := 0) dX_tell_9 rfl ?_
    cases hm
    exact v_iret dX_tell_10 rfl
def mX_piece (p1 : Int32) (h0 : PH) : Option (Int32 × PH) :=
  jn1 (fun (x2 : Int32) =>
    bd (mX_within p1 0 99 h0) fun r3 =>
    bd2 (mX_tell 18 x2 r3 p1 0 h0) fun r4 h5 =>
    some (r4, h5)) fun j1 =>
  if p1 = (-1) then
    j1 1
  else
    j1 0
theorem ctX_piece (G : GG) (d : Nat) (p1 : Int32) (h0 : PH) (r : Int32 × PH) (hm : mX_piece p1 h0 = some r) : Kx G tX_piece (d + 2) [.ref (gB G + 0), .int p1] h0 (some (.int r.1)) r.2 := by
  refine K_of_V (by decide) (by simp [Value.category]) (by simp [tX_piece]) ?_
  change Vx G tX_piece (d + 2) 0 [some (.ref (gB G + 0)), some (.int p1)] [] h0 (some (.int r.1)) r.2
  unfold mX_piece at hm
  refine v_ald_0 dX_piece_0 ?_
  refine v_getR dX_piece_1 fuX_34 sh_0 rf_0_3 ?_
  refine v_getR dX_piece_4 fuX_235 sh_5 rf_5_6 ?_
  refine v_ild_1 dX_piece_7 ?_
  refine v_iconst (x := (-1)) dX_piece_8 rfl ?_
  refine v_j1 (fun (x2 : Int32) => Vx G tX_piece (d + 2) 17 [none, some (.int p1)] [.int x2, .ref (gB G + 18)] h0 (some (.int r.1)) r.2) hm (fun x2 hm => ?_) (fun j1 kj1 hm => ?_)
  · refine v_ild_1 dX_piece_17 ?_
    refine v_iconst (x := 0) dX_piece_18 rfl ?_
    refine v_bipush (x := 99) dX_piece_19 rfl ?_
    obtain ⟨r3, he, hm⟩ := bd_s hm
    refine v_cs3i (M' := tX_within) dX_piece_21 mlX_111 okX_within (Nat.le_of_ble_eq_true rfl) (ctX_within G (d + 1) _ _ _ _ _ he) ?_
    refine v_ild_1 dX_piece_24 ?_
    refine v_iconst (x := 0) dX_piece_25 rfl ?_
    obtain ⟨r4, h5, he, hm⟩ := bd2_s hm
    refine v_cs5i (M' := tX_tell) dX_piece_26 mlX_238 okX_tell (Nat.le_of_ble_eq_true rfl) (ctX_tell G d _ _ _ _ _ sh_18 _ _ he) ?_
    cases hm
    exact v_iret dX_piece_29 rfl
  · refine v_cmp_ne dX_piece_9 (fun hc => ?_) (fun hc => ?_)
    · replace hm := it hc hm
      refine v_iconst (x := 1) dX_piece_12 rfl ?_
      refine v_goto dX_piece_13 ?_
      exact v_kw (kj1 _ hm) (wk_n (wk_s wk_e))
    · replace hm := ie hc hm
      refine v_iconst (x := 0) dX_piece_16 rfl ?_
      exact v_kw (kj1 _ hm) (wk_n (wk_s wk_e))
