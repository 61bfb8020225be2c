theorem ctA_isLetter (G : GG) (d : Nat) (p0 : Int32) (h0 : PH) (r : Int32) (hm : mA_isLetter p0 h0 = some r) : Kx G tA_isLetter (d + 1) [.int p0] h0 (some (.int r)) h0 := by
  refine K_of_V (by decide) (by simp [cat_i, cat_r, fmtV_cat]) (by simp [tA_isLetter]) ?_
  change Vx G tA_isLetter (d + 1) 0 [some (.int p0)] [] h0 (some (.int r)) h0
  unfold mA_isLetter at hm
  refine v_ild_0 dA_isLetter_0 ?_
  refine v_bipush (x := 97) dA_isLetter_1 rfl ?_
  refine v_bipush (x := 122) dA_isLetter_3 rfl ?_
  obtain ⟨r1, he, hm⟩ := bd_s hm
  refine v_cn3i (M' := tX_within) dA_isLetter_5 mlA_86 okX_within (Nat.le_of_ble_eq_true rfl) (ctX_within G d _ _ _ _ _ he) ?_
  refine v_if_ne dA_isLetter_8 (fun hc => ?_) (fun hc => ?_)
  · replace hm := it hc hm
    refine v_ild_0 dA_isLetter_11 ?_
    refine v_bipush (x := 65) dA_isLetter_12 rfl ?_
    refine v_bipush (x := 90) dA_isLetter_14 rfl ?_
    obtain ⟨r2, he, hm⟩ := bd_s hm
    refine v_cn3i (M' := tX_within) dA_isLetter_16 mlA_86 okX_within (Nat.le_of_ble_eq_true rfl) (ctX_within G d _ _ _ _ _ he) ?_
    refine v_if_eq dA_isLetter_19 (fun hc => ?_) (fun hc => ?_)
    · replace hm := it hc hm
      refine v_iconst (x := 0) dA_isLetter_26 rfl ?_
      cases hm
      exact v_zret0 dA_isLetter_27 rfl
    · replace hm := ie hc hm
      refine v_iconst (x := 1) dA_isLetter_22 rfl ?_
      refine v_goto dA_isLetter_23 ?_
      cases hm
      exact v_zret1 dA_isLetter_27 rfl
  · replace hm := ie hc hm
    refine v_iconst (x := 1) dA_isLetter_22 rfl ?_
    refine v_goto dA_isLetter_23 ?_
    cases hm
    exact v_zret1 dA_isLetter_27 rfl
def mA_isDigit (p0 : Int32) (h0 : PH) : Option (Int32) :=
  bd (mX_within p0 48 57 h0) fun r1 =>
  some (nb r1)
theorem ctA_isDigit (G : GG) (d : Nat) (p0 : Int32) (h0 : PH) (r : Int32) (hm : mA_isDigit p0 h0 = some r) : Kx G tA_isDigit (d + 1) [.int p0] h0 (some (.int r)) h0 := by
  refine K_of_V (by decide) (by simp [cat_i, cat_r, fmtV_cat]) (by simp [tA_isDigit]) ?_
  change Vx G tA_isDigit (d + 1) 0 [some (.int p0)] [] h0 (some (.int r)) h0
  unfold mA_isDigit at hm
  refine v_ild_0 dA_isDigit_0 ?_
  refine v_bipush (x := 48) dA_isDigit_1 rfl ?_
  refine v_bipush (x := 57) dA_isDigit_3 rfl ?_
  obtain ⟨r1, he, hm⟩ := bd_s hm
  refine v_cn3i (M' := tX_within) dA_isDigit_5 mlA_86 okX_within (Nat.le_of_ble_eq_true rfl) (ctX_within G d _ _ _ _ _ he) ?_
  cases hm
  exact v_zret dA_isDigit_8 rfl
def mA_behindToken_L49 (h0 : PH) : Nat → Int32 → Option (Int32)
  | 0, _ => none
  | n + 1, v3 =>
    if (h0 85 4) ≤ v3 then
      some v3
    else
      bd (mA_byteAt v3 h0) fun r5 =>
      bd (mA_isDigit r5 h0) fun r6 =>
      if r6 = 0 then
        some v3
      else
        mA_behindToken_L49 h0 n (v3 + 1)
def mA_behindToken_L17 (h0 : PH) : Nat → Int32 → Option (Int32)
  | 0, _ => none
  | n + 1, v3 =>
    if (h0 85 4) ≤ v3 then
      some v3
    else
      bd (mA_byteAt v3 h0) fun r7 =>
      bd (mA_isLetter r7 h0) fun r8 =>
      if r8 = 0 then
        some v3
      else
        mA_behindToken_L17 h0 n (v3 + 1)
def mA_behindToken (p1 : Int32) (h0 : PH) : Option (Int32) :=
  bd (mA_byteAt p1 h0) fun r1 =>
  lt (p1 + 1) fun x2 =>
  bd (mA_isLetter r1 h0) fun r3 =>
  if r3 = 0 then
    bd (mA_isDigit r1 h0) fun r4 =>
    if r4 = 0 then
      some x2
    else
      mA_behindToken_L49 h0 FU x2
  else
    mA_behindToken_L17 h0 FU x2
theorem wA_behindToken_L49 (G : GG) (d : Nat) (h0 : PH) (r : Int32) : ∀ (n : Nat) (v3 : Int32), mA_behindToken_L49 h0 n v3 = some r → Vx G tA_behindToken (d + 2) 49 [some (.ref (gB G + 85)), none, none, some (.int v3)] [] h0 (some (.int r)) h0 := by
  intro n
  induction n with
  | zero => intro v3 hm; cases hm
  | succ n ih =>
    intro v3 hm
    unfold mA_behindToken_L49 at hm
    refine v_ild_3 dA_behindToken_49 ?_
    refine v_ald_0 dA_behindToken_50 ?_
    refine v_getI dA_behindToken_51 fuA_25 sh_85 rf_85_4 ?_
    refine v_cmp_ge dA_behindToken_54 (fun hc => ?_) (fun hc => ?_)
    · replace hm := it hc hm
      refine v_ild_3 dA_behindToken_74 ?_
      cases hm
      exact v_iret dA_behindToken_75 rfl
    · replace hm := ie hc hm
      refine v_ald_0 dA_behindToken_57 ?_
      refine v_ild_3 dA_behindToken_58 ?_
      obtain ⟨r5, he, hm⟩ := bd_s hm
      refine v_cv1i (M' := tA_byteAt) dA_behindToken_59 mlA_36 okA_byteAt sh_85 hc_10 (Nat.le_of_ble_eq_true rfl) (ctA_byteAt G (d + 1) _ _ _ he) ?_
      obtain ⟨r6, he, hm⟩ := bd_s hm
      refine v_cs1i (M' := tA_isDigit) dA_behindToken_62 mlA_58 okA_isDigit (Nat.le_of_ble_eq_true rfl) (ctA_isDigit G d _ _ _ he) ?_
      refine v_if_eq dA_behindToken_65 (fun hc => ?_) (fun hc => ?_)
      · replace hm := it hc hm
        refine v_ild_3 dA_behindToken_74 ?_
        cases hm
        exact v_iret dA_behindToken_75 rfl
      · replace hm := ie hc hm
        refine v_inc_3 1 dA_behindToken_68 rfl (by decide) rfl ?_
        refine v_goto dA_behindToken_71 ?_
        exact v_kw (ih _ hm) (wk_s (wk_n (wk_n (wk_s wk_e))))
theorem wA_behindToken_L17 (G : GG) (d : Nat) (h0 : PH) (r : Int32) : ∀ (n : Nat) (v3 : Int32), mA_behindToken_L17 h0 n v3 = some r → Vx G tA_behindToken (d + 2) 17 [some (.ref (gB G + 85)), none, none, some (.int v3)] [] h0 (some (.int r)) h0 := by
  intro n
  induction n with
  | zero => intro v3 hm; cases hm
  | succ n ih =>
    intro v3 hm
    unfold mA_behindToken_L17 at hm
    refine v_ild_3 dA_behindToken_17 ?_
    refine v_ald_0 dA_behindToken_18 ?_
    refine v_getI dA_behindToken_19 fuA_25 sh_85 rf_85_4 ?_
    refine v_cmp_ge dA_behindToken_22 (fun hc => ?_) (fun hc => ?_)
    · replace hm := it hc hm
      refine v_ild_3 dA_behindToken_74 ?_
      cases hm
      exact v_iret dA_behindToken_75 rfl
    · replace hm := ie hc hm
      refine v_ald_0 dA_behindToken_25 ?_
      refine v_ild_3 dA_behindToken_26 ?_
      obtain ⟨r7, he, hm⟩ := bd_s hm
      refine v_cv1i (M' := tA_byteAt) dA_behindToken_27 mlA_36 okA_byteAt sh_85 hc_10 (Nat.le_of_ble_eq_true rfl) (ctA_byteAt G (d + 1) _ _ _ he) ?_
      obtain ⟨r8, he, hm⟩ := bd_s hm
      refine v_cs1i (M' := tA_isLetter) dA_behindToken_30 mlA_55 okA_isLetter (Nat.le_of_ble_eq_true rfl) (ctA_isLetter G d _ _ _ he) ?_
      refine v_if_eq dA_behindToken_33 (fun hc => ?_) (fun hc => ?_)
      · replace hm := it hc hm
        refine v_ild_3 dA_behindToken_74 ?_
        cases hm
        exact v_iret dA_behindToken_75 rfl
      · replace hm := ie hc hm
        refine v_inc_3 1 dA_behindToken_36 rfl (by decide) rfl ?_
        refine v_goto dA_behindToken_39 ?_
        exact v_kw (ih _ hm) (wk_s (wk_n (wk_n (wk_s wk_e))))
theorem ctA_behindToken (G : GG) (d : Nat) (p1 : Int32) (h0 : PH) (r : Int32) (hm : mA_behindToken p1 h0 = some r) : Kx G tA_behindToken (d + 2) [.ref (gB G + 85), .int p1] h0 (some (.int r)) h0 := by
  refine K_of_V (by decide) (by simp [cat_i, cat_r, fmtV_cat]) (by simp [tA_behindToken]) ?_
  change Vx G tA_behindToken (d + 2) 0 [some (.ref (gB G + 85)), some (.int p1), none, none] [] h0 (some (.int r)) h0
  unfold mA_behindToken at hm
  refine v_ald_0 dA_behindToken_0 ?_
  refine v_ild_1 dA_behindToken_1 ?_
  obtain ⟨r1, he, hm⟩ := bd_s hm
  refine v_cv1i (M' := tA_byteAt) dA_behindToken_2 mlA_36 okA_byteAt sh_85 hc_10 (Nat.le_of_ble_eq_true rfl) (ctA_byteAt G (d + 1) _ _ _ he) ?_
  refine v_ist_2 dA_behindToken_5 (by decide) rfl ?_
  refine v_ild_1 dA_behindToken_6 ?_
  refine v_iconst (x := 1) dA_behindToken_7 rfl ?_
  refine v_iadd dA_behindToken_8 ?_
  refine v_top hm (fun x2 hm => ?_)
  refine v_ist_3 dA_behindToken_9 (by decide) rfl ?_
  refine v_ild_2 dA_behindToken_10 ?_
  obtain ⟨r3, he, hm⟩ := bd_s hm
  refine v_cs1i (M' := tA_isLetter) dA_behindToken_11 mlA_55 okA_isLetter (Nat.le_of_ble_eq_true rfl) (ctA_isLetter G d _ _ _ he) ?_
  refine v_if_eq dA_behindToken_14 (fun hc => ?_) (fun hc => ?_)
  · replace hm := it hc hm
    refine v_ild_2 dA_behindToken_42 ?_
    obtain ⟨r4, he, hm⟩ := bd_s hm
    refine v_cs1i (M' := tA_isDigit) dA_behindToken_43 mlA_58 okA_isDigit (Nat.le_of_ble_eq_true rfl) (ctA_isDigit G d _ _ _ he) ?_
    refine v_if_eq dA_behindToken_46 (fun hc => ?_) (fun hc => ?_)
    · replace hm := it hc hm
      refine v_ild_3 dA_behindToken_74 ?_
      cases hm
      exact v_iret dA_behindToken_75 rfl
    · replace hm := ie hc hm
      exact v_kw (wA_behindToken_L49 G d _ _ FU _ hm) (wk_s (wk_n (wk_n (wk_s wk_e))))
  · replace hm := ie hc hm
    exact v_kw (wA_behindToken_L17 G d _ _ FU _ hm) (wk_s (wk_n (wk_n (wk_s wk_e))))
def mA_isBlank (p0 : Int32) (h0 : PH) : Option (Int32) :=
  if p0 = 32 then
    some 1
  else
    if p0 = 10 then
      some 1
    else
      some 0
theorem ctA_isBlank (G : GG) (d : Nat) (p0 : Int32) (h0 : PH) (r : Int32) (hm : mA_isBlank p0 h0 = some r) : Kx G tA_isBlank d [.int p0] h0 (some (.int r)) h0 := by
  refine K_of_V (by decide) (by simp [cat_i, cat_r, fmtV_cat]) (by simp [tA_isBlank]) ?_
  change Vx G tA_isBlank d 0 [some (.int p0)] [] h0 (some (.int r)) h0
  unfold mA_isBlank at hm
  refine v_ild_0 dA_isBlank_0 ?_
  refine v_bipush (x := 32) dA_isBlank_1 rfl ?_
  refine v_cmp_eq dA_isBlank_3 (fun hc => ?_) (fun hc => ?_)
  · replace hm := it hc hm
    refine v_iconst (x := 1) dA_isBlank_12 rfl ?_
    refine v_goto dA_isBlank_13 ?_
    cases hm
    exact v_zret1 dA_isBlank_17 rfl
  · replace hm := ie hc hm
    refine v_ild_0 dA_isBlank_6 ?_
    refine v_bipush (x := 10) dA_isBlank_7 rfl ?_
    refine v_cmp_ne dA_isBlank_9 (fun hc => ?_) (fun hc => ?_)
    · replace hm := it hc hm
      refine v_iconst (x := 1) dA_isBlank_12 rfl ?_
      refine v_goto dA_isBlank_13 ?_
      cases hm
      exact v_zret1 dA_isBlank_17 rfl
    · replace hm := ie hc hm
      refine v_iconst (x := 0) dA_isBlank_16 rfl ?_
      cases hm
      exact v_zret0 dA_isBlank_17 rfl
def mA_isSame_L3 (s1 : Nat) (p2 : Int32) (p3 : Int32) (p4 : Int32) (h0 : PH) : Nat → Int32 → Option (Int32)
  | 0, _ => none
  | n + 1, v5 =>
    if p4 ≤ v5 then
      some 1
    else
      lt ((p2 + v5) - p3) fun x1 =>
      bd (mG_length s1 h0) fun r2 =>
      if r2 ≤ x1 then
        some 0
      else
        bd (mG_charAt s1 x1 h0) fun r3 =>
        bd (mA_byteAt v5 h0) fun r4 =>
        if r3 = r4 then
          mA_isSame_L3 s1 p2 p3 p4 h0 n (v5 + 1)
        else
          some 0
def mA_isSame (s1 : Nat) (p2 : Int32) (p3 : Int32) (p4 : Int32) (h0 : PH) : Option (Int32) :=
  mA_isSame_L3 s1 p2 p3 p4 h0 FU p3
theorem wA_isSame_L3 (G : GG) (d : Nat) (s1 : Nat) (p2 : Int32) (p3 : Int32) (p4 : Int32) (h0 : PH) (q1 : s1 < 5) (r : Int32) : ∀ (n : Nat) (v5 : Int32), mA_isSame_L3 s1 p2 p3 p4 h0 n v5 = some r → Vx G tA_isSame (d + 4) 3 [some (.ref (gB G + 85)), some (.ref (gS G s1)), some (.int p2), some (.int p3), some (.int p4), some (.int v5), none] [] h0 (some (.int r)) h0 := by
  intro n
  induction n with
  | zero => intro v5 hm; cases hm
  | succ n ih =>
    intro v5 hm
    unfold mA_isSame_L3 at hm
    refine v_ild_5 dA_isSame_3 ?_
    refine v_ild_4 dA_isSame_5 ?_
    refine v_cmp_ge dA_isSame_7 (fun hc => ?_) (fun hc => ?_)
    · replace hm := it hc hm
      refine v_iconst (x := 1) dA_isSame_50 rfl ?_
      cases hm
      exact v_zret1 dA_isSame_51 rfl
    · replace hm := ie hc hm
      refine v_ild_2 dA_isSame_10 ?_
      refine v_ild_5 dA_isSame_11 ?_
      refine v_iadd dA_isSame_13 ?_
      refine v_ild_3 dA_isSame_14 ?_
      refine v_isub dA_isSame_15 ?_
      refine v_top hm (fun x1 hm => ?_)
      refine v_ist_6 dA_isSame_16 (by decide) rfl ?_
      refine v_ild_6 dA_isSame_18 ?_
      refine v_ald_1 dA_isSame_20 ?_
      obtain ⟨r2, he, hm⟩ := bd_s hm
      refine v_ct0i (M' := tG_length) dA_isSame_21 mlA_75 okG_length q1 rfl (Nat.le_of_ble_eq_true rfl) (ctG_length G (d + 2) _ q1 _ _ he) ?_
      refine v_cmp_ge dA_isSame_24 (fun hc => ?_) (fun hc => ?_)
      · replace hm := it hc hm
        refine v_iconst (x := 0) dA_isSame_42 rfl ?_
        cases hm
        exact v_zret0 dA_isSame_43 rfl
      · replace hm := ie hc hm
        refine v_ald_1 dA_isSame_27 ?_
        refine v_ild_6 dA_isSame_28 ?_
        obtain ⟨r3, he, hm⟩ := bd_s hm
        refine v_ct1i (M' := tG_charAt) dA_isSame_30 mlA_78 okG_charAt q1 rfl (Nat.le_of_ble_eq_true rfl) (ctG_charAt G d _ _ q1 _ _ he) ?_
        refine v_ald_0 dA_isSame_33 ?_
        refine v_ild_5 dA_isSame_34 ?_
        obtain ⟨r4, he, hm⟩ := bd_s hm
        refine v_cv1i (M' := tA_byteAt) dA_isSame_36 mlA_36 okA_byteAt sh_85 hc_10 (Nat.le_of_ble_eq_true rfl) (ctA_byteAt G (d + 3) _ _ _ he) ?_
        refine v_cmp_eq dA_isSame_39 (fun hc => ?_) (fun hc => ?_)
        · replace hm := it hc hm
          refine v_inc_5 1 dA_isSame_44 rfl (by decide) rfl ?_
          refine v_goto dA_isSame_47 ?_
          exact v_kw (ih _ hm) (wk_s (wk_s (wk_s (wk_s (wk_s (wk_s (wk_n wk_e)))))))
        · replace hm := ie hc hm
          refine v_iconst (x := 0) dA_isSame_42 rfl ?_
          cases hm
          exact v_zret0 dA_isSame_43 rfl
theorem ctA_isSame (G : GG) (d : Nat) (s1 : Nat) (p2 : Int32) (p3 : Int32) (p4 : Int32) (q1 : s1 < 5) (h0 : PH) (r : Int32) (hm : mA_isSame s1 p2 p3 p4 h0 = some r) : Kx G tA_isSame (d + 4) [.ref (gB G + 85), .ref (gS G s1), .int p2, .int p3, .int p4] h0 (some (.int r)) h0 := by
  refine K_of_V (by decide) (by simp [cat_i, cat_r, fmtV_cat]) (by simp [tA_isSame]) ?_
  change Vx G tA_isSame (d + 4) 0 [some (.ref (gB G + 85)), some (.ref (gS G s1)), some (.int p2), some (.int p3), some (.int p4), none, none] [] h0 (some (.int r)) h0
  unfold mA_isSame at hm
  refine v_ild_3 dA_isSame_0 ?_
  refine v_ist_5 dA_isSame_1 (by decide) rfl ?_
  exact v_kw (wA_isSame_L3 G d _ _ _ _ _ q1 _ FU _ hm) (wk_s (wk_s (wk_s (wk_s (wk_s (wk_s (wk_n wk_e)))))))
def mA_wordNumber_L9 (s1 : Nat) (p2 : Int32) (p3 : Int32) (h0 : PH) : Nat → Int32 → Int32 → Int32 → Option (Int32)
  | 0, _, _, _ => none
  | n + 1, v4, v5, v6 =>
    bd (mG_length s1 h0) fun r1 =>
    if r1 < v6 then
      some (-1)
    else
      bd (mG_length s1 h0) fun r2 =>
      jn0 (if (v6 - v5) = (p3 - p2) then
          bd (mA_isSame s1 v5 p2 p3 h0) fun r4 =>
          if r4 = 0 then
            lt (v6 + 1) fun x5 =>
            mA_wordNumber_L9 s1 p2 p3 h0 n (v4 + 1) x5 (v6 + 1)
          else
            some v4
        else
          lt (v6 + 1) fun x6 =>
          mA_wordNumber_L9 s1 p2 p3 h0 n (v4 + 1) x6 (v6 + 1)) fun j3 =>
      if v6 = r2 then
        j3
      else
        bd (mG_charAt s1 v6 h0) fun r7 =>
        if r7 = 32 then
          j3
        else
          mA_wordNumber_L9 s1 p2 p3 h0 n v4 v5 (v6 + 1)
def mA_wordNumber (s1 : Nat) (p2 : Int32) (p3 : Int32) (h0 : PH) : Option (Int32) :=
  mA_wordNumber_L9 s1 p2 p3 h0 FU 0 0 0
theorem wA_wordNumber_L9 (G : GG) (d : Nat) (s1 : Nat) (p2 : Int32) (p3 : Int32) (h0 : PH) (q1 : s1 < 5) (r : Int32) : ∀ (n : Nat) (v4 : Int32) (v5 : Int32) (v6 : Int32), mA_wordNumber_L9 s1 p2 p3 h0 n v4 v5 v6 = some r → Vx G tA_wordNumber (d + 5) 9 [some (.ref (gB G + 85)), some (.ref (gS G s1)), some (.int p2), some (.int p3), some (.int v4), some (.int v5), some (.int v6)] [] h0 (some (.int r)) h0 := by
  intro n
  induction n with
  | zero => intro v4 v5 v6 hm; cases hm
  | succ n ih =>
    intro v4 v5 v6 hm
    unfold mA_wordNumber_L9 at hm
    refine v_ild_6 dA_wordNumber_9 ?_
    refine v_ald_1 dA_wordNumber_11 ?_
    obtain ⟨r1, he, hm⟩ := bd_s hm
    refine v_ct0i (M' := tG_length) dA_wordNumber_12 mlA_75 okG_length q1 rfl (Nat.le_of_ble_eq_true rfl) (ctG_length G (d + 3) _ q1 _ _ he) ?_
    refine v_cmp_gt dA_wordNumber_15 (fun hc => ?_) (fun hc => ?_)
    · replace hm := it hc hm
      refine v_iconst (x := (-1)) dA_wordNumber_79 rfl ?_
      cases hm
      exact v_iret dA_wordNumber_80 rfl
    · replace hm := ie hc hm
      refine v_ild_6 dA_wordNumber_18 ?_
      refine v_ald_1 dA_wordNumber_20 ?_
      obtain ⟨r2, he, hm⟩ := bd_s hm
      refine v_ct0i (M' := tG_length) dA_wordNumber_21 mlA_75 okG_length q1 rfl (Nat.le_of_ble_eq_true rfl) (ctG_length G (d + 3) _ q1 _ _ he) ?_
      refine v_j0 (Vx G tA_wordNumber (d + 5) 38 [some (.ref (gB G + 85)), some (.ref (gS G s1)), some (.int p2), some (.int p3), some (.int v4), some (.int v5), some (.int v6)] [] h0 (some (.int r)) h0) hm (fun hm => ?_) (fun j3 kj3 hm => ?_)
      · refine v_ild_6 dA_wordNumber_38 ?_
        refine v_ild_5 dA_wordNumber_40 ?_
        refine v_isub dA_wordNumber_42 ?_
        refine v_ild_3 dA_wordNumber_43 ?_
        refine v_ild_2 dA_wordNumber_44 ?_
        refine v_isub dA_wordNumber_45 ?_
        refine v_cmp_ne dA_wordNumber_46 (fun hc => ?_) (fun hc => ?_)
        · replace hm := it hc hm
          refine v_ald_0 dA_wordNumber_49 ?_
          refine v_ald_1 dA_wordNumber_50 ?_
          refine v_ild_5 dA_wordNumber_51 ?_
          refine v_ild_2 dA_wordNumber_53 ?_
          refine v_ild_3 dA_wordNumber_54 ?_
          obtain ⟨r4, he, hm⟩ := bd_s hm
          refine v_cv4i (M' := tA_isSame) dA_wordNumber_55 mlA_82 okA_isSame sh_85 hc_10 (Nat.le_of_ble_eq_true rfl) (ctA_isSame G d _ _ _ _ q1 _ _ he) ?_
          refine v_if_eq dA_wordNumber_58 (fun hc => ?_) (fun hc => ?_)
          · replace hm := it hc hm
            refine v_inc_4 1 dA_wordNumber_64 rfl (by decide) rfl ?_
            refine v_ild_6 dA_wordNumber_67 ?_
            refine v_iconst (x := 1) dA_wordNumber_69 rfl ?_
            refine v_iadd dA_wordNumber_70 ?_
            refine v_top hm (fun x5 hm => ?_)
            refine v_ist_5 dA_wordNumber_71 (by decide) rfl ?_
            refine v_inc_6 1 dA_wordNumber_73 rfl (by decide) rfl ?_
            refine v_goto dA_wordNumber_76 ?_
            exact v_kw (ih _ _ _ hm) (wk_s (wk_s (wk_s (wk_s (wk_s (wk_s (wk_s wk_e)))))))
          · replace hm := ie hc hm
            refine v_ild_4 dA_wordNumber_61 ?_
            cases hm
            exact v_iret dA_wordNumber_63 rfl
        · replace hm := ie hc hm
          refine v_inc_4 1 dA_wordNumber_64 rfl (by decide) rfl ?_
          refine v_ild_6 dA_wordNumber_67 ?_
          refine v_iconst (x := 1) dA_wordNumber_69 rfl ?_
          refine v_iadd dA_wordNumber_70 ?_
          refine v_top hm (fun x6 hm => ?_)
          refine v_ist_5 dA_wordNumber_71 (by decide) rfl ?_
          refine v_inc_6 1 dA_wordNumber_73 rfl (by decide) rfl ?_
          refine v_goto dA_wordNumber_76 ?_
          exact v_kw (ih _ _ _ hm) (wk_s (wk_s (wk_s (wk_s (wk_s (wk_s (wk_s wk_e)))))))
      · refine v_cmp_eq dA_wordNumber_24 (fun hc => ?_) (fun hc => ?_)
        · replace hm := it hc hm
          exact v_kw (kj3 hm) (wk_s (wk_s (wk_s (wk_s (wk_s (wk_s (wk_s wk_e)))))))
        · replace hm := ie hc hm
          refine v_ald_1 dA_wordNumber_27 ?_
          refine v_ild_6 dA_wordNumber_28 ?_
          obtain ⟨r7, he, hm⟩ := bd_s hm
          refine v_ct1i (M' := tG_charAt) dA_wordNumber_30 mlA_78 okG_charAt q1 rfl (Nat.le_of_ble_eq_true rfl) (ctG_charAt G (d + 1) _ _ q1 _ _ he) ?_
          refine v_bipush (x := 32) dA_wordNumber_33 rfl ?_
          refine v_cmp_ne dA_wordNumber_35 (fun hc => ?_) (fun hc => ?_)
          · replace hm := it hc hm
            exact v_kw (kj3 hm) (wk_s (wk_s (wk_s (wk_s (wk_s (wk_s (wk_s wk_e)))))))
          · replace hm := ie hc hm
            refine v_inc_6 1 dA_wordNumber_73 rfl (by decide) rfl ?_
            refine v_goto dA_wordNumber_76 ?_
            exact v_kw (ih _ _ _ hm) (wk_s (wk_s (wk_s (wk_s (wk_s (wk_s (wk_s wk_e)))))))
theorem ctA_wordNumber (G : GG) (d : Nat) (s1 : Nat) (p2 : Int32) (p3 : Int32) (q1 : s1 < 5) (h0 : PH) (r : Int32) (hm : mA_wordNumber s1 p2 p3 h0 = some r) : Kx G tA_wordNumber (d + 5) [.ref (gB G + 85), .ref (gS G s1), .int p2, .int p3] h0 (some (.int r)) h0 := by
  refine K_of_V (by decide) (by simp [cat_i, cat_r, fmtV_cat]) (by simp [tA_wordNumber]) ?_
  change Vx G tA_wordNumber (d + 5) 0 [some (.ref (gB G + 85)), some (.ref (gS G s1)), some (.int p2), some (.int p3), none, none, none] [] h0 (some (.int r)) h0
  unfold mA_wordNumber at hm
  refine v_iconst (x := 0) dA_wordNumber_0 rfl ?_
  refine v_ist_4 dA_wordNumber_1 (by decide) rfl ?_
  refine v_iconst (x := 0) dA_wordNumber_3 rfl ?_
  refine v_ist_5 dA_wordNumber_4 (by decide) rfl ?_
  refine v_iconst (x := 0) dA_wordNumber_6 rfl ?_
  refine v_ist_6 dA_wordNumber_7 (by decide) rfl ?_
  exact v_kw (wA_wordNumber_L9 G d _ _ _ _ q1 _ FU _ _ _ hm) (wk_s (wk_s (wk_s (wk_s (wk_s (wk_s (wk_s wk_e)))))))
def mA_kindOf (s1 : Nat) (p2 : Int32) (p3 : Int32) (h0 : PH) : Option (Int32) :=
  bd (mA_byteAt p2 h0) fun r1 =>
  bd (mA_isLetter r1 h0) fun r2 =>
  if r2 = 0 then
    bd (mA_isDigit r1 h0) fun r3 =>
    if r3 = 0 then
      bd (mG_indexOf 4 (i2c r1) h0) fun r4 =>
      if r4 < 0 then
        some 4
      else
        some 3
    else
      if 4 < (p3 - p2) then
        some 4
      else
        some 2
  else
    bd (mA_wordNumber s1 p2 p3 h0) fun r5 =>
    if r5 = (-1) then
      some 4
    else
      some 1
theorem ctA_kindOf (G : GG) (d : Nat) (s1 : Nat) (p2 : Int32) (p3 : Int32) (q1 : s1 < 5) (h0 : PH) (r : Int32) (hm : mA_kindOf s1 p2 p3 h0 = some r) : Kx G tA_kindOf (d + 6) [.ref (gB G + 85), .ref (gS G s1), .int p2, .int p3] h0 (some (.int r)) h0 := by
  refine K_of_V (by decide) (by simp [cat_i, cat_r, fmtV_cat]) (by simp [tA_kindOf]) ?_
  change Vx G tA_kindOf (d + 6) 0 [some (.ref (gB G + 85)), some (.ref (gS G s1)), some (.int p2), some (.int p3), none] [] h0 (some (.int r)) h0
  unfold mA_kindOf at hm
  refine v_ald_0 dA_kindOf_0 ?_
  refine v_ild_2 dA_kindOf_1 ?_
  obtain ⟨r1, he, hm⟩ := bd_s hm
  refine v_cv1i (M' := tA_byteAt) dA_kindOf_2 mlA_36 okA_byteAt sh_85 hc_10 (Nat.le_of_ble_eq_true rfl) (ctA_byteAt G (d + 5) _ _ _ he) ?_
  refine v_ist_4 dA_kindOf_5 (by decide) rfl ?_
  refine v_ild_4 dA_kindOf_7 ?_
  obtain ⟨r2, he, hm⟩ := bd_s hm
  refine v_cs1i (M' := tA_isLetter) dA_kindOf_9 mlA_55 okA_isLetter (Nat.le_of_ble_eq_true rfl) (ctA_isLetter G (d + 4) _ _ _ he) ?_
  refine v_if_eq dA_kindOf_12 (fun hc => ?_) (fun hc => ?_)
  · replace hm := it hc hm
    refine v_ild_4 dA_kindOf_32 ?_
    obtain ⟨r3, he, hm⟩ := bd_s hm
    refine v_cs1i (M' := tA_isDigit) dA_kindOf_34 mlA_58 okA_isDigit (Nat.le_of_ble_eq_true rfl) (ctA_isDigit G (d + 4) _ _ _ he) ?_
    refine v_if_eq dA_kindOf_37 (fun hc => ?_) (fun hc => ?_)
    · replace hm := it hc hm
      refine v_ldcS (i := 4) dA_kindOf_53 rfl ?_
      refine v_ild_4 dA_kindOf_55 ?_
      refine v_i2c dA_kindOf_57 ?_
      obtain ⟨r4, he, hm⟩ := bd_s hm
      refine v_ct1i (M' := tG_indexOf) dA_kindOf_58 mlA_66 okG_indexOf (by decide) rfl (Nat.le_of_ble_eq_true rfl) (ctG_indexOf G (d + 2) _ _ (by decide) _ _ he) ?_
      refine v_if_lt dA_kindOf_61 (fun hc => ?_) (fun hc => ?_)
      · replace hm := it hc hm
        refine v_iconst (x := 4) dA_kindOf_68 rfl ?_
        cases hm
        exact v_iret dA_kindOf_69 rfl
      · replace hm := ie hc hm
        refine v_iconst (x := 3) dA_kindOf_64 rfl ?_
        refine v_goto dA_kindOf_65 ?_
        cases hm
        exact v_iret dA_kindOf_69 rfl
    · replace hm := ie hc hm
      refine v_ild_3 dA_kindOf_40 ?_
      refine v_ild_2 dA_kindOf_41 ?_
      refine v_isub dA_kindOf_42 ?_
      refine v_iconst (x := 4) dA_kindOf_43 rfl ?_
      refine v_cmp_gt dA_kindOf_44 (fun hc => ?_) (fun hc => ?_)
      · replace hm := it hc hm
        refine v_iconst (x := 4) dA_kindOf_51 rfl ?_
        cases hm
        exact v_iret dA_kindOf_52 rfl
      · replace hm := ie hc hm
        refine v_iconst (x := 2) dA_kindOf_47 rfl ?_
        refine v_goto dA_kindOf_48 ?_
        cases hm
        exact v_iret dA_kindOf_52 rfl
  · replace hm := ie hc hm
    refine v_ald_0 dA_kindOf_15 ?_
    refine v_ald_1 dA_kindOf_16 ?_
    refine v_ild_2 dA_kindOf_17 ?_
    refine v_ild_3 dA_kindOf_18 ?_
    obtain ⟨r5, he, hm⟩ := bd_s hm
    refine v_cv3i (M' := tA_wordNumber) dA_kindOf_19 mlA_61 okA_wordNumber sh_85 hc_10 (Nat.le_of_ble_eq_true rfl) (ctA_wordNumber G d _ _ _ q1 _ _ he) ?_
    refine v_iconst (x := (-1)) dA_kindOf_22 rfl ?_
    refine v_cmp_ne dA_kindOf_23 (fun hc => ?_) (fun hc => ?_)
    · replace hm := it hc hm
      refine v_iconst (x := 4) dA_kindOf_26 rfl ?_
      refine v_goto dA_kindOf_27 ?_
      cases hm
      exact v_iret dA_kindOf_31 rfl
    · replace hm := ie hc hm
      refine v_iconst (x := 1) dA_kindOf_30 rfl ?_
      cases hm
      exact v_iret dA_kindOf_31 rfl
def mA_numberAt_L5 (p2 : Int32) (h0 : PH) : Nat → Int32 → Int32 → Option (Int32)
  | 0, _, _ => none
  | n + 1, v3, v4 =>
    if p2 ≤ v4 then
      some v3
    else
      bd (mA_byteAt v4 h0) fun r1 =>
      lt (((10 * v3) + r1) - 48) fun x2 =>
      mA_numberAt_L5 p2 h0 n x2 (v4 + 1)
def mA_numberAt (p1 : Int32) (p2 : Int32) (h0 : PH) : Option (Int32) :=
  mA_numberAt_L5 p2 h0 FU 0 p1
theorem wA_numberAt_L5 (G : GG) (d : Nat) (p2 : Int32) (h0 : PH) (r : Int32) : ∀ (n : Nat) (v3 : Int32) (v4 : Int32), mA_numberAt_L5 p2 h0 n v3 v4 = some r → Vx G tA_numberAt (d + 1) 5 [some (.ref (gB G + 85)), none, some (.int p2), some (.int v3), some (.int v4)] [] h0 (some (.int r)) h0 := by
  intro n
  induction n with
  | zero => intro v3 v4 hm; cases hm
  | succ n ih =>
    intro v3 v4 hm
    unfold mA_numberAt_L5 at hm
    refine v_ild_4 dA_numberAt_5 ?_
    refine v_ild_2 dA_numberAt_7 ?_
    refine v_cmp_ge dA_numberAt_8 (fun hc => ?_) (fun hc => ?_)
    · replace hm := it hc hm
      refine v_ild_3 dA_numberAt_32 ?_
      cases hm
      exact v_iret dA_numberAt_33 rfl
    · replace hm := ie hc hm
      refine v_bipush (x := 10) dA_numberAt_11 rfl ?_
      refine v_ild_3 dA_numberAt_13 ?_
      refine v_imul dA_numberAt_14 ?_
      refine v_ald_0 dA_numberAt_15 ?_
      refine v_ild_4 dA_numberAt_16 ?_
      obtain ⟨r1, he, hm⟩ := bd_s hm
      refine v_cv1i (M' := tA_byteAt) dA_numberAt_18 mlA_36 okA_byteAt sh_85 hc_10 (Nat.le_of_ble_eq_true rfl) (ctA_byteAt G d _ _ _ he) ?_
      refine v_iadd dA_numberAt_21 ?_
      refine v_bipush (x := 48) dA_numberAt_22 rfl ?_
      refine v_isub dA_numberAt_24 ?_
      refine v_top hm (fun x2 hm => ?_)
      refine v_ist_3 dA_numberAt_25 (by decide) rfl ?_
      refine v_inc_4 1 dA_numberAt_26 rfl (by decide) rfl ?_
      refine v_goto dA_numberAt_29 ?_
      exact v_kw (ih _ _ hm) (wk_s (wk_n (wk_s (wk_s (wk_s wk_e)))))
theorem ctA_numberAt (G : GG) (d : Nat) (p1 : Int32) (p2 : Int32) (h0 : PH) (r : Int32) (hm : mA_numberAt p1 p2 h0 = some r) : Kx G tA_numberAt (d + 1) [.ref (gB G + 85), .int p1, .int p2] h0 (some (.int r)) h0 := by
  refine K_of_V (by decide) (by simp [cat_i, cat_r, fmtV_cat]) (by simp [tA_numberAt]) ?_
  change Vx G tA_numberAt (d + 1) 0 [some (.ref (gB G + 85)), some (.int p1), some (.int p2), none, none] [] h0 (some (.int r)) h0
  unfold mA_numberAt at hm
  refine v_iconst (x := 0) dA_numberAt_0 rfl ?_
  refine v_ist_3 dA_numberAt_1 (by decide) rfl ?_
  refine v_ild_1 dA_numberAt_2 ?_
  refine v_ist_4 dA_numberAt_3 (by decide) rfl ?_
  exact v_kw (wA_numberAt_L5 G d _ _ _ FU _ _ hm) (wk_s (wk_n (wk_s (wk_s (wk_s wk_e)))))
def mA_valueOf (s1 : Nat) (p2 : Int32) (p3 : Int32) (p4 : Int32) (h0 : PH) : Option (Int32) :=
  if p2 = 1 then
    bd (mA_wordNumber s1 p3 p4 h0) fun r1 =>
    some r1
  else
    if p2 = 2 then
      bd (mA_numberAt p3 p4 h0) fun r2 =>
      some r2
    else
      bd (mA_byteAt p3 h0) fun r3 =>
      some r3
theorem ctA_valueOf (G : GG) (d : Nat) (s1 : Nat) (p2 : Int32) (p3 : Int32) (p4 : Int32) (q1 : s1 < 5) (h0 : PH) (r : Int32) (hm : mA_valueOf s1 p2 p3 p4 h0 = some r) : Kx G tA_valueOf (d + 6) [.ref (gB G + 85), .ref (gS G s1), .int p2, .int p3, .int p4] h0 (some (.int r)) h0 := by
  refine K_of_V (by decide) (by simp [cat_i, cat_r, fmtV_cat]) (by simp [tA_valueOf]) ?_
  change Vx G tA_valueOf (d + 6) 0 [some (.ref (gB G + 85)), some (.ref (gS G s1)), some (.int p2), some (.int p3), some (.int p4)] [] h0 (some (.int r)) h0
  unfold mA_valueOf at hm
  refine v_ild_2 dA_valueOf_0 ?_
  refine v_sw dA_valueOf_1 ?_
  refine v_selc (fun hc => ?_) (fun hc => ?_)
  · replace hm := it hc hm
    refine v_ald_0 dA_valueOf_28 ?_
    refine v_ald_1 dA_valueOf_29 ?_
    refine v_ild_3 dA_valueOf_30 ?_
    refine v_ild_4 dA_valueOf_31 ?_
    obtain ⟨r1, he, hm⟩ := bd_s hm
    refine v_cv3i (M' := tA_wordNumber) dA_valueOf_33 mlA_61 okA_wordNumber sh_85 hc_10 (Nat.le_of_ble_eq_true rfl) (ctA_wordNumber G d _ _ _ q1 _ _ he) ?_
    cases hm
    exact v_iret dA_valueOf_36 rfl
  · replace hm := ie hc hm
    refine v_selc (fun hc => ?_) (fun hc => ?_)
    · replace hm := it hc hm
      refine v_ald_0 dA_valueOf_37 ?_
      refine v_ild_3 dA_valueOf_38 ?_
      refine v_ild_4 dA_valueOf_39 ?_
      obtain ⟨r2, he, hm⟩ := bd_s hm
      refine v_cv2i (M' := tA_numberAt) dA_valueOf_41 mlA_71 okA_numberAt sh_85 hc_10 (Nat.le_of_ble_eq_true rfl) (ctA_numberAt G (d + 4) _ _ _ _ he) ?_
      cases hm
      exact v_iret dA_valueOf_44 rfl
    · replace hm := ie hc hm
      refine v_seln ?_
      refine v_ald_0 dA_valueOf_45 ?_
      refine v_ild_3 dA_valueOf_46 ?_
      obtain ⟨r3, he, hm⟩ := bd_s hm
      refine v_cv1i (M' := tA_byteAt) dA_valueOf_47 mlA_36 okA_byteAt sh_85 hc_10 (Nat.le_of_ble_eq_true rfl) (ctA_byteAt G (d + 5) _ _ _ he) ?_
      cases hm
      exact v_iret dA_valueOf_50 rfl
def mA_keepToken (p1 : Int32) (p2 : Int32) (p3 : Int32) (h0 : PH) : Option (PH) :=
  if 400 < (h0 85 5) then
    some h0
  else
    ck (h0 85 5) 401 <|
    lt (up h0 87 (ix (h0 85 5)) p1) fun h1 =>
    ck (h1 85 5) 401 <|
    lt (up h1 88 (ix (h1 85 5)) p2) fun h2 =>
    ck (h2 85 5) 401 <|
    lt (up h2 89 (ix (h2 85 5)) p3) fun h3 =>
    lt (up h3 85 5 ((h3 85 5) + 1)) fun h4 =>
    some h4
theorem ctA_keepToken (G : GG) (d : Nat) (p1 : Int32) (p2 : Int32) (p3 : Int32) (h0 : PH) (r : PH) (hm : mA_keepToken p1 p2 p3 h0 = some r) : Kx G tA_keepToken d [.ref (gB G + 85), .int p1, .int p2, .int p3] h0 none r := by
  refine K_of_V (by decide) (by simp [cat_i, cat_r, fmtV_cat]) (by simp [tA_keepToken]) ?_
  change Vx G tA_keepToken d 0 [some (.ref (gB G + 85)), some (.int p1), some (.int p2), some (.int p3)] [] h0 none r
  unfold mA_keepToken at hm
  refine v_ald_0 dA_keepToken_0 ?_
  refine v_getI dA_keepToken_1 fuA_29 sh_85 rf_85_5 ?_
  refine v_sipush (x := 400) dA_keepToken_4 rfl ?_
  refine v_cmp_gt dA_keepToken_7 (fun hc => ?_) (fun hc => ?_)
  · replace hm := it hc hm
    cases hm
    exact v_ret dA_keepToken_50 rfl
  · replace hm := ie hc hm
    refine v_ald_0 dA_keepToken_10 ?_
    refine v_getR dA_keepToken_11 fuA_15 sh_85 rf_85_1 ?_
    refine v_ald_0 dA_keepToken_14 ?_
    refine v_getI dA_keepToken_15 fuA_29 sh_85 rf_85_5 ?_
    refine v_ild_1 dA_keepToken_18 ?_
    obtain ⟨hi, hm⟩ := ck_s hm
    refine v_iastl dA_keepToken_19 sh_87 hi hm (fun h1 hm => ?_)
    refine v_ald_0 dA_keepToken_20 ?_
    refine v_getR dA_keepToken_21 fuA_19 sh_85 rf_85_2 ?_
    refine v_ald_0 dA_keepToken_24 ?_
    refine v_getI dA_keepToken_25 fuA_29 sh_85 rf_85_5 ?_
    refine v_ild_2 dA_keepToken_28 ?_
    obtain ⟨hi, hm⟩ := ck_s hm
    refine v_iastl dA_keepToken_29 sh_88 hi hm (fun h2 hm => ?_)
    refine v_ald_0 dA_keepToken_30 ?_
    refine v_getR dA_keepToken_31 fuA_22 sh_85 rf_85_3 ?_
    refine v_ald_0 dA_keepToken_34 ?_
    refine v_getI dA_keepToken_35 fuA_29 sh_85 rf_85_5 ?_
    refine v_ild_3 dA_keepToken_38 ?_
    obtain ⟨hi, hm⟩ := ck_s hm
    refine v_iastl dA_keepToken_39 sh_89 hi hm (fun h3 hm => ?_)
    refine v_ald_0 dA_keepToken_40 ?_
    refine v_dup dA_keepToken_41 rfl ?_
    refine v_getI dA_keepToken_42 fuA_29 sh_85 rf_85_5 ?_
    refine v_iconst (x := 1) dA_keepToken_45 rfl ?_
    refine v_iadd dA_keepToken_46 ?_
    refine v_putIl dA_keepToken_47 fuA_29 ft_10_5 sh_85 rf_85_5 hm (fun h4 hm => ?_)
    cases hm
    exact v_ret dA_keepToken_50 rfl
def mA_scan_L9 (s1 : Nat) (k0 : PH → Option (PH)) : Nat → Int32 → Int32 → PH → Option (PH)
  | 0, _, _, _ => none
  | n + 1, v2, v3, hv =>
    if 400 ≤ v3 then
      k0 hv
    else
      if (hv 85 4) ≤ v2 then
        k0 hv
      else
        bd (mA_behindToken v2 hv) fun r2 =>
        bd (mA_byteAt v2 hv) fun r3 =>
        bd (mA_isBlank r3 hv) fun r4 =>
        if r4 = 0 then
          bd (mA_kindOf s1 v2 r2 hv) fun r5 =>
          bd (mA_valueOf s1 r5 v2 r2 hv) fun r6 =>
          bd (mA_keepToken r5 r6 v2 hv) fun h7 =>
          mA_scan_L9 s1 k0 n r2 (v3 + 1) h7
        else
          mA_scan_L9 s1 k0 n r2 (v3 + 1) hv
def mA_scan (s1 : Nat) (h0 : PH) : Option (PH) :=
  lt (up h0 85 5 0) fun h1 =>
  mA_scan_L9 s1 (fun (h8 : PH) =>
    bd (mA_keepToken 0 0 (h8 85 4) h8) fun h9 =>
    some h9) FU 0 0 h1
theorem wA_scan_L9 (G : GG) (d : Nat) (s1 : Nat) (q1 : s1 < 5) (k0 : PH → Option (PH)) (r : PH) (kk0 : ∀ (hy : PH), k0 hy = some r → Vx G tA_scan (d + 7) 78 [some (.ref (gB G + 85)), none, none, none, none, none] [] hy none r) : ∀ (n : Nat) (v2 : Int32) (v3 : Int32) (hv : PH), mA_scan_L9 s1 k0 n v2 v3 hv = some r → Vx G tA_scan (d + 7) 9 [some (.ref (gB G + 85)), some (.ref (gS G s1)), some (.int v2), some (.int v3), none, none] [] hv none r := by
  intro n
  induction n with
  | zero => intro v2 v3 hv hm; cases hm
  | succ n ih =>
    intro v2 v3 hv hm
    unfold mA_scan_L9 at hm
    refine v_ild_3 dA_scan_9 ?_
    refine v_sipush (x := 400) dA_scan_10 rfl ?_
    refine v_cmp_ge dA_scan_13 (fun hc => ?_) (fun hc => ?_)
    · replace hm := it hc hm
      exact v_kw (kk0 _ hm) (wk_s (wk_n (wk_n (wk_n (wk_n (wk_n wk_e))))))
    · replace hm := ie hc hm
      refine v_ild_2 dA_scan_16 ?_
      refine v_ald_0 dA_scan_17 ?_
      refine v_getI dA_scan_18 fuA_25 sh_85 rf_85_4 ?_
      refine v_cmp_ge dA_scan_21 (fun hc => ?_) (fun hc => ?_)
      · replace hm := it hc hm
        exact v_kw (kk0 _ hm) (wk_s (wk_n (wk_n (wk_n (wk_n (wk_n wk_e))))))
      · replace hm := ie hc hm
        refine v_ald_0 dA_scan_24 ?_
        refine v_ild_2 dA_scan_25 ?_
        obtain ⟨r2, he, hm⟩ := bd_s hm
        refine v_cv1i (M' := tA_behindToken) dA_scan_26 mlA_32 okA_behindToken sh_85 hc_10 (Nat.le_of_ble_eq_true rfl) (ctA_behindToken G (d + 4) _ _ _ he) ?_
        refine v_ist_4 dA_scan_29 (by decide) rfl ?_
        refine v_ald_0 dA_scan_31 ?_
        refine v_ild_2 dA_scan_32 ?_
        obtain ⟨r3, he, hm⟩ := bd_s hm
        refine v_cv1i (M' := tA_byteAt) dA_scan_33 mlA_36 okA_byteAt sh_85 hc_10 (Nat.le_of_ble_eq_true rfl) (ctA_byteAt G (d + 6) _ _ _ he) ?_
        obtain ⟨r4, he, hm⟩ := bd_s hm
        refine v_cs1i (M' := tA_isBlank) dA_scan_36 mlA_39 okA_isBlank (Nat.le_of_ble_eq_true rfl) (ctA_isBlank G (d + 6) _ _ _ he) ?_
        refine v_if_ne dA_scan_39 (fun hc => ?_) (fun hc => ?_)
        · replace hm := it hc hm
          refine v_ald_0 dA_scan_42 ?_
          refine v_ald_1 dA_scan_43 ?_
          refine v_ild_2 dA_scan_44 ?_
          refine v_ild_4 dA_scan_45 ?_
          obtain ⟨r5, he, hm⟩ := bd_s hm
          refine v_cv3i (M' := tA_kindOf) dA_scan_47 mlA_43 okA_kindOf sh_85 hc_10 (Nat.le_of_ble_eq_true rfl) (ctA_kindOf G d _ _ _ q1 _ _ he) ?_
          refine v_ist_5 dA_scan_50 (by decide) rfl ?_
          refine v_ald_0 dA_scan_52 ?_
          refine v_ild_5 dA_scan_53 ?_
          refine v_ald_0 dA_scan_55 ?_
          refine v_ald_1 dA_scan_56 ?_
          refine v_ild_5 dA_scan_57 ?_
          refine v_ild_2 dA_scan_59 ?_
          refine v_ild_4 dA_scan_60 ?_
          obtain ⟨r6, he, hm⟩ := bd_s hm
          refine v_cv4i (M' := tA_valueOf) dA_scan_62 mlA_47 okA_valueOf sh_85 hc_10 (Nat.le_of_ble_eq_true rfl) (ctA_valueOf G d _ _ _ _ q1 _ _ he) ?_
          refine v_ild_2 dA_scan_65 ?_
          obtain ⟨h7, he, hm⟩ := bd_s hm
          refine v_cv3v (M' := tA_keepToken) dA_scan_66 mlA_51 okA_keepToken sh_85 hc_10 (Nat.le_of_ble_eq_true rfl) (ctA_keepToken G (d + 6) _ _ _ _ _ he) ?_
          refine v_ild_4 dA_scan_69 ?_
          refine v_ist_2 dA_scan_71 (by decide) rfl ?_
          refine v_inc_3 1 dA_scan_72 rfl (by decide) rfl ?_
          refine v_goto dA_scan_75 ?_
          exact v_kw (ih _ _ _ hm) (wk_s (wk_s (wk_s (wk_s (wk_n (wk_n wk_e))))))
        · replace hm := ie hc hm
          refine v_ild_4 dA_scan_69 ?_
          refine v_ist_2 dA_scan_71 (by decide) rfl ?_
          refine v_inc_3 1 dA_scan_72 rfl (by decide) rfl ?_
          refine v_goto dA_scan_75 ?_
          exact v_kw (ih _ _ _ hm) (wk_s (wk_s (wk_s (wk_s (wk_n (wk_n wk_e))))))
theorem ctA_scan (G : GG) (d : Nat) (s1 : Nat) (q1 : s1 < 5) (h0 : PH) (r : PH) (hm : mA_scan s1 h0 = some r) : Kx G tA_scan (d + 7) [.ref (gB G + 85), .ref (gS G s1)] h0 none r := by
  refine K_of_V (by decide) (by simp [cat_i, cat_r, fmtV_cat]) (by simp [tA_scan]) ?_
  change Vx G tA_scan (d + 7) 0 [some (.ref (gB G + 85)), some (.ref (gS G s1)), none, none, none, none] [] h0 none r
  unfold mA_scan at hm
  refine v_ald_0 dA_scan_0 ?_
  refine v_iconst (x := 0) dA_scan_1 rfl ?_
  refine v_putIl dA_scan_2 fuA_29 ft_10_5 sh_85 rf_85_5 hm (fun h1 hm => ?_)
  refine v_iconst (x := 0) dA_scan_5 rfl ?_
  refine v_ist_2 dA_scan_6 (by decide) rfl ?_
  refine v_iconst (x := 0) dA_scan_7 rfl ?_
  refine v_ist_3 dA_scan_8 (by decide) rfl ?_
  refine v_kw (wA_scan_L9 G d _ q1 _ _ (fun h8 hm => ?_) FU _ _ _ hm) (wk_s (wk_s (wk_s (wk_s (wk_n (wk_n wk_e))))))
  refine v_ald_0 dA_scan_78 ?_
  refine v_iconst (x := 0) dA_scan_79 rfl ?_
  refine v_iconst (x := 0) dA_scan_80 rfl ?_
  refine v_ald_0 dA_scan_81 ?_
  refine v_getI dA_scan_82 fuA_25 sh_85 rf_85_4 ?_
  obtain ⟨h9, he, hm⟩ := bd_s hm
  refine v_cv3v (M' := tA_keepToken) dA_scan_85 mlA_51 okA_keepToken sh_85 hc_10 (Nat.le_of_ble_eq_true rfl) (ctA_keepToken G (d + 6) _ _ _ _ _ he) ?_
  cases hm
  exact v_ret dA_scan_88 rfl
def mS_weather_L10 (a0 : Nat) : Nat → Int32 → PH → Option (PH)
  | 0, _, _ => none
  | n + 1, v2, hv =>
    if (hv 10 3) ≤ v2 then
      some hv
    else
      bd (mR_at 10 v2 0 hv) fun r1 =>
      if r1 = (hv (sT a0) 6) then
        bd (mR_at 10 v2 1 hv) fun r2 =>
        if r2 = 1 then
          bd (mR_at 10 v2 2 hv) fun r3 =>
          lt (up hv (sT a0) 2 r3) fun h4 =>
          mS_weather_L10 a0 n (v2 + 1) h4
        else
          if r2 = 2 then
            lt (up hv (sT a0) 3 1) fun h5 =>
            mS_weather_L10 a0 n (v2 + 1) h5
          else
            lt (up hv (sT a0) 3 0) fun h6 =>
            mS_weather_L10 a0 n (v2 + 1) h6
      else
        mS_weather_L10 a0 n (v2 + 1) hv
def mS_weather (a0 : Nat) (h0 : PH) : Option (PH) :=
  mS_weather_L10 a0 FU 0 h0
theorem wS_weather_L10 (G : GG) (d : Nat) (a0 : Nat) (q0 : shL[a0]? = some (7, 4)) (r : PH) : ∀ (n : Nat) (v2 : Int32) (hv : PH), mS_weather_L10 a0 n v2 hv = some r → Vx G tS_weather (d + 1) 10 [some (.ref (gB G + a0)), some (.ref (gB G + 10)), some (.int v2)] [] hv none r := by
  intro n
  induction n with
  | zero => intro v2 hv hm; cases hm
  | succ n ih =>
    intro v2 hv hm
    unfold mS_weather_L10 at hm
    refine v_ild_2 dS_weather_10 ?_
    refine v_ald_1 dS_weather_11 ?_
    refine v_getI dS_weather_12 fuS_36 sh_10 rf_10_3 ?_
    refine v_cmp_ge dS_weather_15 (fun hc => ?_) (fun hc => ?_)
    · replace hm := it hc hm
      cases hm
      exact v_ret dS_weather_109 rfl
    · replace hm := ie hc hm
      refine v_ald_1 dS_weather_18 ?_
      refine v_ild_2 dS_weather_19 ?_
      refine v_iconst (x := 0) dS_weather_20 rfl ?_
      obtain ⟨r1, he, hm⟩ := bd_s hm
      refine v_cv2i (M' := tR_at) dS_weather_21 mlS_42 okR_at sh_10 hc_6 (Nat.le_of_ble_eq_true rfl) (ctR_at G d _ _ _ sh_10 _ _ he) ?_
      refine v_ald_0 dS_weather_24 ?_
      refine v_getR dS_weather_25 fuS_9 q0 (rf_sea_0 q0) ?_
      refine v_getI dS_weather_28 fuS_46 (sh_sea q0) (rf_bor_6 (sh_sea q0)) ?_
      refine v_cmp_ne dS_weather_31 (fun hc => ?_) (fun hc => ?_)
      · replace hm := it hc hm
        refine v_ald_1 dS_weather_34 ?_
        refine v_ild_2 dS_weather_35 ?_
        refine v_iconst (x := 1) dS_weather_36 rfl ?_
        obtain ⟨r2, he, hm⟩ := bd_s hm
        refine v_cv2i (M' := tR_at) dS_weather_37 mlS_42 okR_at sh_10 hc_6 (Nat.le_of_ble_eq_true rfl) (ctR_at G d _ _ _ sh_10 _ _ he) ?_
        refine v_sw dS_weather_40 ?_
        refine v_selc (fun hc => ?_) (fun hc => ?_)
        · replace hm := it hc hm
          refine v_ald_0 dS_weather_68 ?_
          refine v_getR dS_weather_69 fuS_9 q0 (rf_sea_0 q0) ?_
          refine v_ald_1 dS_weather_72 ?_
          refine v_ild_2 dS_weather_73 ?_
          refine v_iconst (x := 2) dS_weather_74 rfl ?_
          obtain ⟨r3, he, hm⟩ := bd_s hm
          refine v_cv2i (M' := tR_at) dS_weather_75 mlS_42 okR_at sh_10 hc_6 (Nat.le_of_ble_eq_true rfl) (ctR_at G d _ _ _ sh_10 _ _ he) ?_
          refine v_putIl dS_weather_78 fuS_91 ft_1_2 (sh_sea q0) (rf_bor_2 (sh_sea q0)) hm (fun h4 hm => ?_)
          refine v_goto dS_weather_81 ?_
          refine v_inc_2 1 dS_weather_103 rfl (by decide) rfl ?_
          refine v_goto dS_weather_106 ?_
          exact v_kw (ih _ _ hm) (wk_s (wk_s (wk_s wk_e)))
        · replace hm := ie hc hm
          refine v_selc (fun hc => ?_) (fun hc => ?_)
          · replace hm := it hc hm
            refine v_ald_0 dS_weather_84 ?_
            refine v_getR dS_weather_85 fuS_9 q0 (rf_sea_0 q0) ?_
            refine v_iconst (x := 1) dS_weather_88 rfl ?_
            refine v_putIl dS_weather_89 fuS_94 ft_1_3 (sh_sea q0) (rf_bor_3 (sh_sea q0)) hm (fun h5 hm => ?_)
            refine v_goto dS_weather_92 ?_
            refine v_inc_2 1 dS_weather_103 rfl (by decide) rfl ?_
            refine v_goto dS_weather_106 ?_
            exact v_kw (ih _ _ hm) (wk_s (wk_s (wk_s wk_e)))
          · replace hm := ie hc hm
            refine v_seln ?_
            refine v_ald_0 dS_weather_95 ?_
            refine v_getR dS_weather_96 fuS_9 q0 (rf_sea_0 q0) ?_
            refine v_iconst (x := 0) dS_weather_99 rfl ?_
            refine v_putIl dS_weather_100 fuS_94 ft_1_3 (sh_sea q0) (rf_bor_3 (sh_sea q0)) hm (fun h6 hm => ?_)
            refine v_inc_2 1 dS_weather_103 rfl (by decide) rfl ?_
            refine v_goto dS_weather_106 ?_
            exact v_kw (ih _ _ hm) (wk_s (wk_s (wk_s wk_e)))
      · replace hm := ie hc hm
        refine v_inc_2 1 dS_weather_103 rfl (by decide) rfl ?_
        refine v_goto dS_weather_106 ?_
        exact v_kw (ih _ _ hm) (wk_s (wk_s (wk_s wk_e)))
theorem ctS_weather (G : GG) (d : Nat) (a0 : Nat) (q0 : shL[a0]? = some (7, 4)) (h0 : PH) (r : PH) (hm : mS_weather a0 h0 = some r) : Kx G tS_weather (d + 1) [.ref (gB G + a0)] h0 none r := by
  refine K_of_V (by decide) (by simp [cat_i, cat_r, fmtV_cat]) (by simp [tS_weather]) ?_
  change Vx G tS_weather (d + 1) 0 [some (.ref (gB G + a0)), none, none] [] h0 none r
  unfold mS_weather at hm
  refine v_ald_0 dS_weather_0 ?_
  refine v_getR dS_weather_1 fuS_15 q0 (rf_sea_1 q0) ?_
  refine v_getR dS_weather_4 fuS_88 sh_5 rf_5_2 ?_
  refine v_ast_1 dS_weather_7 (by decide) rfl ?_
  refine v_iconst (x := 0) dS_weather_8 rfl ?_
  refine v_ist_2 dS_weather_9 (by decide) rfl ?_
  exact v_kw (wS_weather_L10 G d _ q0 _ FU _ _ hm) (wk_s (wk_s (wk_s wk_e)))
def mS_mayWed (a0 : Nat) (p1 : Int32) (h0 : PH) : Option (Int32) :=
  bd (mB_isUp (sT a0) p1 h0) fun r1 =>
  if r1 = 0 then
    some 0
  else
    bd (mB_read (sT a0) p1 9 h0) fun r2 =>
    if r2 = 0 then
      bd (mB_read (sT a0) p1 7 h0) fun r3 =>
      if r3 ≤ 0 then
        some 0
      else
        some 1
    else
      some 0
theorem ctS_mayWed (G : GG) (d : Nat) (a0 : Nat) (p1 : Int32) (q0 : shL[a0]? = some (7, 4)) (h0 : PH) (r : Int32) (hm : mS_mayWed a0 p1 h0 = some r) : Kx G tS_mayWed (d + 2) [.ref (gB G + a0), .int p1] h0 (some (.int r)) h0 := by
  refine K_of_V (by decide) (by simp [cat_i, cat_r, fmtV_cat]) (by simp [tS_mayWed]) ?_
  change Vx G tS_mayWed (d + 2) 0 [some (.ref (gB G + a0)), some (.int p1)] [] h0 (some (.int r)) h0
  unfold mS_mayWed at hm
  refine v_ald_0 dS_mayWed_0 ?_
  refine v_getR dS_mayWed_1 fuS_9 q0 (rf_sea_0 q0) ?_
  refine v_ild_1 dS_mayWed_4 ?_
  obtain ⟨r1, he, hm⟩ := bd_s hm
  refine v_cv1i (M' := tB_isUp) dS_mayWed_5 mlS_62 okB_isUp (sh_sea q0) hc_1 (Nat.le_of_ble_eq_true rfl) (ctB_isUp G d _ _ (sh_sea q0) _ _ he) ?_
  refine v_if_eq dS_mayWed_8 (fun hc => ?_) (fun hc => ?_)
  · replace hm := it hc hm
    refine v_iconst (x := 0) dS_mayWed_41 rfl ?_
    cases hm
    exact v_zret0 dS_mayWed_42 rfl
  · replace hm := ie hc hm
    refine v_ald_0 dS_mayWed_11 ?_
    refine v_getR dS_mayWed_12 fuS_9 q0 (rf_sea_0 q0) ?_
    refine v_ild_1 dS_mayWed_15 ?_
    refine v_bipush (x := 9) dS_mayWed_16 rfl ?_
    obtain ⟨r2, he, hm⟩ := bd_s hm
    refine v_cv2i (M' := tB_read) dS_mayWed_18 mlS_66 okB_read (sh_sea q0) hc_1 (Nat.le_of_ble_eq_true rfl) (ctB_read G (d + 1) _ _ _ (sh_sea q0) _ _ he) ?_
    refine v_if_ne dS_mayWed_21 (fun hc => ?_) (fun hc => ?_)
    · replace hm := it hc hm
      refine v_ald_0 dS_mayWed_24 ?_
      refine v_getR dS_mayWed_25 fuS_9 q0 (rf_sea_0 q0) ?_
      refine v_ild_1 dS_mayWed_28 ?_
      refine v_bipush (x := 7) dS_mayWed_29 rfl ?_
      obtain ⟨r3, he, hm⟩ := bd_s hm
      refine v_cv2i (M' := tB_read) dS_mayWed_31 mlS_66 okB_read (sh_sea q0) hc_1 (Nat.le_of_ble_eq_true rfl) (ctB_read G (d + 1) _ _ _ (sh_sea q0) _ _ he) ?_
      refine v_if_le dS_mayWed_34 (fun hc => ?_) (fun hc => ?_)
      · replace hm := it hc hm
        refine v_iconst (x := 0) dS_mayWed_41 rfl ?_
        cases hm
        exact v_zret0 dS_mayWed_42 rfl
      · replace hm := ie hc hm
        refine v_iconst (x := 1) dS_mayWed_37 rfl ?_
        refine v_goto dS_mayWed_38 ?_
        cases hm
        exact v_zret1 dS_mayWed_42 rfl
    · replace hm := ie hc hm
      refine v_iconst (x := 0) dS_mayWed_41 rfl ?_
      cases hm
      exact v_zret0 dS_mayWed_42 rfl
def mS_note (a0 : Nat) (p1 : Int32) (p2 : Int32) (p3 : Int32) (h0 : PH) : Option (PH) :=
  if (h0 a0 3) = 0 then
    some h0
  else
    bd2 (mR_add 16 (h0 (sT a0) 6) p1 p2 p3 0 h0) fun r1 h2 =>
    some h2
theorem ctS_note (G : GG) (d : Nat) (a0 : Nat) (p1 : Int32) (p2 : Int32) (p3 : Int32) (q0 : shL[a0]? = some (7, 4)) (h0 : PH) (r : PH) (hm : mS_note a0 p1 p2 p3 h0 = some r) : Kx G tS_note (d + 1) [.ref (gB G + a0), .int p1, .int p2, .int p3] h0 none r := by
  refine K_of_V (by decide) (by simp [cat_i, cat_r, fmtV_cat]) (by simp [tS_note]) ?_
  change Vx G tS_note (d + 1) 0 [some (.ref (gB G + a0)), some (.int p1), some (.int p2), some (.int p3)] [] h0 none r
  unfold mS_note at hm
  refine v_ald_0 dS_note_0 ?_
  refine v_getI dS_note_1 fuS_23 q0 (rf_sea_3 q0) ?_
  refine v_if_eq dS_note_4 (fun hc => ?_) (fun hc => ?_)
  · replace hm := it hc hm
    cases hm
    exact v_ret dS_note_29 rfl
  · replace hm := ie hc hm
    refine v_ald_0 dS_note_7 ?_
    refine v_getR dS_note_8 fuS_15 q0 (rf_sea_1 q0) ?_
    refine v_getR dS_note_11 fuS_163 sh_5 rf_5_5 ?_
    refine v_ald_0 dS_note_14 ?_
    refine v_getR dS_note_15 fuS_9 q0 (rf_sea_0 q0) ?_
    refine v_getI dS_note_18 fuS_46 (sh_sea q0) (rf_bor_6 (sh_sea q0)) ?_
    refine v_ild_1 dS_note_21 ?_
    refine v_ild_2 dS_note_22 ?_
    refine v_ild_3 dS_note_23 ?_
    refine v_iconst (x := 0) dS_note_24 rfl ?_
    obtain ⟨r1, h2, he, hm⟩ := bd2_s hm
    refine v_cv5i (M' := tR_add) dS_note_25 mlS_166 okR_add sh_16 hc_6 (Nat.le_of_ble_eq_true rfl) (ctR_add G d _ _ _ _ _ _ sh_16 _ _ he) ?_
    refine v_pop dS_note_28 rfl ?_
    cases hm
    exact v_ret dS_note_29 rfl
def mS_refuge_L11 (a0 : Nat) (p2 : Int32) (h0 : PH) : Nat → Int32 → Option (Int32)
  | 0, _ => none
  | n + 1, v3 =>
    if (h0 (sT a0) 1) ≤ v3 then
      some (-1)
    else
      if ((p2 >>> (v3 &&& 31)) &&& 1) = 1 then
        bd (mB_isUp (sT a0) v3 h0) fun r2 =>
        if r2 = 0 then
          mS_refuge_L11 a0 p2 h0 n (v3 + 1)
        else
          some v3
      else
        mS_refuge_L11 a0 p2 h0 n (v3 + 1)
def mS_refuge (a0 : Nat) (p1 : Int32) (h0 : PH) : Option (Int32) :=
  bd (mO_nextTo 5 p1 h0) fun r1 =>
  mS_refuge_L11 a0 r1 h0 FU 0
theorem wS_refuge_L11 (G : GG) (d : Nat) (a0 : Nat) (p2 : Int32) (h0 : PH) (q0 : shL[a0]? = some (7, 4)) (r : Int32) : ∀ (n : Nat) (v3 : Int32), mS_refuge_L11 a0 p2 h0 n v3 = some r → Vx G tS_refuge (d + 2) 11 [some (.ref (gB G + a0)), none, some (.int p2), some (.int v3)] [] h0 (some (.int r)) h0 := by
  intro n
  induction n with
  | zero => intro v3 hm; cases hm
  | succ n ih =>
    intro v3 hm
    unfold mS_refuge_L11 at hm
    refine v_ild_3 dS_refuge_11 ?_
    refine v_ald_0 dS_refuge_12 ?_
    refine v_getR dS_refuge_13 fuS_9 q0 (rf_sea_0 q0) ?_
    refine v_getI dS_refuge_16 fuS_59 (sh_sea q0) (rf_bor_1 (sh_sea q0)) ?_
    refine v_cmp_ge dS_refuge_19 (fun hc => ?_) (fun hc => ?_)
    · replace hm := it hc hm
      refine v_iconst (x := (-1)) dS_refuge_50 rfl ?_
      cases hm
      exact v_iret dS_refuge_51 rfl
    · replace hm := ie hc hm
      refine v_ild_2 dS_refuge_22 ?_
      refine v_ild_3 dS_refuge_23 ?_
      refine v_ishr dS_refuge_24 ?_
      refine v_iconst (x := 1) dS_refuge_25 rfl ?_
      refine v_iand dS_refuge_26 ?_
      refine v_iconst (x := 1) dS_refuge_27 rfl ?_
      refine v_cmp_ne dS_refuge_28 (fun hc => ?_) (fun hc => ?_)
      · replace hm := it hc hm
        refine v_ald_0 dS_refuge_31 ?_
        refine v_getR dS_refuge_32 fuS_9 q0 (rf_sea_0 q0) ?_
        refine v_ild_3 dS_refuge_35 ?_
        obtain ⟨r2, he, hm⟩ := bd_s hm
        refine v_cv1i (M' := tB_isUp) dS_refuge_36 mlS_62 okB_isUp (sh_sea q0) hc_1 (Nat.le_of_ble_eq_true rfl) (ctB_isUp G d _ _ (sh_sea q0) _ _ he) ?_
        refine v_if_eq dS_refuge_39 (fun hc => ?_) (fun hc => ?_)
        · replace hm := it hc hm
          refine v_inc_3 1 dS_refuge_44 rfl (by decide) rfl ?_
          refine v_goto dS_refuge_47 ?_
          exact v_kw (ih _ hm) (wk_s (wk_n (wk_s (wk_s wk_e))))
        · replace hm := ie hc hm
          refine v_ild_3 dS_refuge_42 ?_
          cases hm
          exact v_iret dS_refuge_43 rfl
      · replace hm := ie hc hm
        refine v_inc_3 1 dS_refuge_44 rfl (by decide) rfl ?_
        refine v_goto dS_refuge_47 ?_
        exact v_kw (ih _ hm) (wk_s (wk_n (wk_s (wk_s wk_e))))
theorem ctS_refuge (G : GG) (d : Nat) (a0 : Nat) (p1 : Int32) (q0 : shL[a0]? = some (7, 4)) (h0 : PH) (r : Int32) (hm : mS_refuge a0 p1 h0 = some r) : Kx G tS_refuge (d + 2) [.ref (gB G + a0), .int p1] h0 (some (.int r)) h0 := by
  refine K_of_V (by decide) (by simp [cat_i, cat_r, fmtV_cat]) (by simp [tS_refuge]) ?_
  change Vx G tS_refuge (d + 2) 0 [some (.ref (gB G + a0)), some (.int p1), none, none] [] h0 (some (.int r)) h0
  unfold mS_refuge at hm
  refine v_ald_0 dS_refuge_0 ?_
  refine v_getR dS_refuge_1 fuS_15 q0 (rf_sea_1 q0) ?_
  refine v_ild_1 dS_refuge_4 ?_
  obtain ⟨r1, he, hm⟩ := bd_s hm
  refine v_cv1i (M' := tO_nextTo) dS_refuge_5 mlS_157 okO_nextTo sh_5 hc_11 (Nat.le_of_ble_eq_true rfl) (ctO_nextTo G d _ _ sh_5 _ _ he) ?_
  refine v_ist_2 dS_refuge_8 (by decide) rfl ?_
  refine v_iconst (x := 0) dS_refuge_9 rfl ?_
  refine v_ist_3 dS_refuge_10 (by decide) rfl ?_
  exact v_kw (wS_refuge_L11 G d _ _ _ q0 _ FU _ hm) (wk_s (wk_n (wk_s (wk_s wk_e))))
def mS_moveLodgers (a0 : Nat) (p1 : Int32) (p2 : Int32) (h0 : PH) : Option (PH) :=
  bd (mB_read (sT a0) p1 7 h0) fun r1 =>
  bd (mB_write (sT a0) p1 7 0 h0) fun h2 =>
  jn1 (fun (h4 : PH) =>
    bd (mS_note a0 4 p1 p2 h4) fun h5 =>
    some h5) fun j3 =>
  if p2 = (-1) then
    j3 h2
  else
    bd (mB_read (sT a0) p2 7 h2) fun r6 =>
    bd (mB_write (sT a0) p2 7 (r6 + r1) h2) fun h7 =>
    j3 h7
theorem ctS_moveLodgers (G : GG) (d : Nat) (a0 : Nat) (p1 : Int32) (p2 : Int32) (q0 : shL[a0]? = some (7, 4)) (h0 : PH) (r : PH) (hm : mS_moveLodgers a0 p1 p2 h0 = some r) : Kx G tS_moveLodgers (d + 2) [.ref (gB G + a0), .int p1, .int p2] h0 none r := by
  refine K_of_V (by decide) (by simp [cat_i, cat_r, fmtV_cat]) (by simp [tS_moveLodgers]) ?_
  change Vx G tS_moveLodgers (d + 2) 0 [some (.ref (gB G + a0)), some (.int p1), some (.int p2), none] [] h0 none r
  unfold mS_moveLodgers at hm
  refine v_ald_0 dS_moveLodgers_0 ?_
  refine v_getR dS_moveLodgers_1 fuS_9 q0 (rf_sea_0 q0) ?_
  refine v_ild_1 dS_moveLodgers_4 ?_
  refine v_bipush (x := 7) dS_moveLodgers_5 rfl ?_
  obtain ⟨r1, he, hm⟩ := bd_s hm
  refine v_cv2i (M' := tB_read) dS_moveLodgers_7 mlS_66 okB_read (sh_sea q0) hc_1 (Nat.le_of_ble_eq_true rfl) (ctB_read G (d + 1) _ _ _ (sh_sea q0) _ _ he) ?_
  refine v_ist_3 dS_moveLodgers_10 (by decide) rfl ?_
  refine v_ald_0 dS_moveLodgers_11 ?_
  refine v_getR dS_moveLodgers_12 fuS_9 q0 (rf_sea_0 q0) ?_
  refine v_ild_1 dS_moveLodgers_15 ?_
  refine v_bipush (x := 7) dS_moveLodgers_16 rfl ?_
  refine v_iconst (x := 0) dS_moveLodgers_18 rfl ?_
  obtain ⟨h2, he, hm⟩ := bd_s hm
  refine v_cv3v (M' := tB_write) dS_moveLodgers_19 mlS_102 okB_write (sh_sea q0) hc_1 (Nat.le_of_ble_eq_true rfl) (ctB_write G (d + 1) _ _ _ _ (sh_sea q0) _ _ he) ?_
  refine v_ild_2 dS_moveLodgers_22 ?_
  refine v_iconst (x := (-1)) dS_moveLodgers_23 rfl ?_
  refine v_j1 (fun (h4 : PH) => Vx G tS_moveLodgers (d + 2) 49 [some (.ref (gB G + a0)), some (.int p1), some (.int p2), none] [] h4 none r) hm (fun h4 hm => ?_) (fun j3 kj3 hm => ?_)
  · refine v_ald_0 dS_moveLodgers_49 ?_
    refine v_iconst (x := 4) dS_moveLodgers_50 rfl ?_
    refine v_ild_1 dS_moveLodgers_51 ?_
    refine v_ild_2 dS_moveLodgers_52 ?_
    obtain ⟨h5, he, hm⟩ := bd_s hm
    refine v_cv3v (M' := tS_note) dS_moveLodgers_53 mlS_160 okS_note q0 hc_7 (Nat.le_of_ble_eq_true rfl) (ctS_note G d _ _ _ _ q0 _ _ he) ?_
    cases hm
    exact v_ret dS_moveLodgers_56 rfl
  · refine v_cmp_eq dS_moveLodgers_24 (fun hc => ?_) (fun hc => ?_)
    · replace hm := it hc hm
      exact v_kw (kj3 _ hm) (wk_s (wk_s (wk_s (wk_n wk_e))))
    · replace hm := ie hc hm
      refine v_ald_0 dS_moveLodgers_27 ?_
      refine v_getR dS_moveLodgers_28 fuS_9 q0 (rf_sea_0 q0) ?_
      refine v_ild_2 dS_moveLodgers_31 ?_
      refine v_bipush (x := 7) dS_moveLodgers_32 rfl ?_
      refine v_ald_0 dS_moveLodgers_34 ?_
      refine v_getR dS_moveLodgers_35 fuS_9 q0 (rf_sea_0 q0) ?_
      refine v_ild_2 dS_moveLodgers_38 ?_
      refine v_bipush (x := 7) dS_moveLodgers_39 rfl ?_
      obtain ⟨r6, he, hm⟩ := bd_s hm
      refine v_cv2i (M' := tB_read) dS_moveLodgers_41 mlS_66 okB_read (sh_sea q0) hc_1 (Nat.le_of_ble_eq_true rfl) (ctB_read G (d + 1) _ _ _ (sh_sea q0) _ _ he) ?_
      refine v_ild_3 dS_moveLodgers_44 ?_
      refine v_iadd dS_moveLodgers_45 ?_
      obtain ⟨h7, he, hm⟩ := bd_s hm
      refine v_cv3v (M' := tB_write) dS_moveLodgers_46 mlS_102 okB_write (sh_sea q0) hc_1 (Nat.le_of_ble_eq_true rfl) (ctB_write G (d + 1) _ _ _ _ (sh_sea q0) _ _ he) ?_
      exact v_kw (kj3 _ hm) (wk_s (wk_s (wk_s (wk_n wk_e))))
def mS_leaveIfFallen (a0 : Nat) (p1 : Int32) (h0 : PH) : Option (PH) :=
  bd (mB_isUp (sT a0) p1 h0) fun r1 =>
  if r1 = 0 then
    bd (mB_read (sT a0) p1 7 h0) fun r2 =>
    if 0 < r2 then
      bd (mS_refuge a0 p1 h0) fun r3 =>
      bd (mS_moveLodgers a0 p1 r3 h0) fun h4 =>
      some h4
    else
      some h0
  else
    some h0
theorem ctS_leaveIfFallen (G : GG) (d : Nat) (a0 : Nat) (p1 : Int32) (q0 : shL[a0]? = some (7, 4)) (h0 : PH) (r : PH) (hm : mS_leaveIfFallen a0 p1 h0 = some r) : Kx G tS_leaveIfFallen (d + 3) [.ref (gB G + a0), .int p1] h0 none r := by
  refine K_of_V (by decide) (by simp [cat_i, cat_r, fmtV_cat]) (by simp [tS_leaveIfFallen]) ?_
  change Vx G tS_leaveIfFallen (d + 3) 0 [some (.ref (gB G + a0)), some (.int p1)] [] h0 none r
  unfold mS_leaveIfFallen at hm
  refine v_ald_0 dS_leaveIfFallen_0 ?_
  refine v_getR dS_leaveIfFallen_1 fuS_9 q0 (rf_sea_0 q0) ?_
  refine v_ild_1 dS_leaveIfFallen_4 ?_
  obtain ⟨r1, he, hm⟩ := bd_s hm
  refine v_cv1i (M' := tB_isUp) dS_leaveIfFallen_5 mlS_62 okB_isUp (sh_sea q0) hc_1 (Nat.le_of_ble_eq_true rfl) (ctB_isUp G (d + 1) _ _ (sh_sea q0) _ _ he) ?_
  refine v_if_ne dS_leaveIfFallen_8 (fun hc => ?_) (fun hc => ?_)
  · replace hm := it hc hm
    refine v_ald_0 dS_leaveIfFallen_11 ?_
    refine v_getR dS_leaveIfFallen_12 fuS_9 q0 (rf_sea_0 q0) ?_
    refine v_ild_1 dS_leaveIfFallen_15 ?_
    refine v_bipush (x := 7) dS_leaveIfFallen_16 rfl ?_
    obtain ⟨r2, he, hm⟩ := bd_s hm
    refine v_cv2i (M' := tB_read) dS_leaveIfFallen_18 mlS_66 okB_read (sh_sea q0) hc_1 (Nat.le_of_ble_eq_true rfl) (ctB_read G (d + 2) _ _ _ (sh_sea q0) _ _ he) ?_
    refine v_if_gt dS_leaveIfFallen_21 (fun hc => ?_) (fun hc => ?_)
    · replace hm := it hc hm
      refine v_ald_0 dS_leaveIfFallen_25 ?_
      refine v_ild_1 dS_leaveIfFallen_26 ?_
      refine v_ald_0 dS_leaveIfFallen_27 ?_
      refine v_ild_1 dS_leaveIfFallen_28 ?_
      obtain ⟨r3, he, hm⟩ := bd_s hm
      refine v_cv1i (M' := tS_refuge) dS_leaveIfFallen_29 mlS_150 okS_refuge q0 hc_7 (Nat.le_of_ble_eq_true rfl) (ctS_refuge G d _ _ q0 _ _ he) ?_
      obtain ⟨h4, he, hm⟩ := bd_s hm
      refine v_cv2v (M' := tS_moveLodgers) dS_leaveIfFallen_32 mlS_153 okS_moveLodgers q0 hc_7 (Nat.le_of_ble_eq_true rfl) (ctS_moveLodgers G d _ _ _ q0 _ _ he) ?_
      cases hm
      exact v_ret dS_leaveIfFallen_35 rfl
    · replace hm := ie hc hm
      cases hm
      exact v_ret dS_leaveIfFallen_24 rfl
  · replace hm := ie hc hm
    cases hm
    exact v_ret dS_leaveIfFallen_24 rfl
def mS_wed (a0 : Nat) (p1 : Int32) (h0 : PH) : Option (PH) :=
  bd (mB_write (sT a0) p1 9 1 h0) fun h1 =>
  bd (mB_thickest (sT a0) p1 h1) fun r2 =>
  bd2 (mB_thin (sT a0) p1 r2 10 h1) fun r3 h4 =>
  bd (mB_read (sT a0) p1 7 h4) fun r5 =>
  lt (r5 + 1) fun x6 =>
  bd (mB_write (sT a0) p1 7 x6 h4) fun h7 =>
  bd (mS_note a0 5 p1 x6 h7) fun h8 =>
  bd (mS_leaveIfFallen a0 p1 h8) fun h9 =>
  some h9
theorem ctS_wed (G : GG) (d : Nat) (a0 : Nat) (p1 : Int32) (q0 : shL[a0]? = some (7, 4)) (h0 : PH) (r : PH) (hm : mS_wed a0 p1 h0 = some r) : Kx G tS_wed (d + 4) [.ref (gB G + a0), .int p1] h0 none r := by
  refine K_of_V (by decide) (by simp [cat_i, cat_r, fmtV_cat]) (by simp [tS_wed]) ?_
  change Vx G tS_wed (d + 4) 0 [some (.ref (gB G + a0)), some (.int p1), none] [] h0 none r
  unfold mS_wed at hm
  refine v_ald_0 dS_wed_0 ?_
  refine v_getR dS_wed_1 fuS_9 q0 (rf_sea_0 q0) ?_
  refine v_ild_1 dS_wed_4 ?_
  refine v_bipush (x := 9) dS_wed_5 rfl ?_
  refine v_iconst (x := 1) dS_wed_7 rfl ?_
  obtain ⟨h1, he, hm⟩ := bd_s hm
  refine v_cv3v (M' := tB_write) dS_wed_8 mlS_102 okB_write (sh_sea q0) hc_1 (Nat.le_of_ble_eq_true rfl) (ctB_write G (d + 3) _ _ _ _ (sh_sea q0) _ _ he) ?_
  refine v_ald_0 dS_wed_11 ?_
  refine v_getR dS_wed_12 fuS_9 q0 (rf_sea_0 q0) ?_
  refine v_ild_1 dS_wed_15 ?_
  refine v_ald_0 dS_wed_16 ?_
  refine v_getR dS_wed_17 fuS_9 q0 (rf_sea_0 q0) ?_
  refine v_ild_1 dS_wed_20 ?_
  obtain ⟨r2, he, hm⟩ := bd_s hm
  refine v_cv1i (M' := tB_thickest) dS_wed_21 mlS_118 okB_thickest (sh_sea q0) hc_1 (Nat.le_of_ble_eq_true rfl) (ctB_thickest G (d + 2) _ _ (sh_sea q0) _ _ he) ?_
  refine v_bipush (x := 10) dS_wed_24 rfl ?_
  obtain ⟨r3, h4, he, hm⟩ := bd2_s hm
  refine v_cv3i (M' := tB_thin) dS_wed_26 mlS_128 okB_thin (sh_sea q0) hc_1 (Nat.le_of_ble_eq_true rfl) (ctB_thin G (d + 2) _ _ _ _ (sh_sea q0) _ _ he) ?_
  refine v_pop dS_wed_29 rfl ?_
  refine v_ald_0 dS_wed_30 ?_
  refine v_getR dS_wed_31 fuS_9 q0 (rf_sea_0 q0) ?_
  refine v_ild_1 dS_wed_34 ?_
  refine v_bipush (x := 7) dS_wed_35 rfl ?_
  obtain ⟨r5, he, hm⟩ := bd_s hm
  refine v_cv2i (M' := tB_read) dS_wed_37 mlS_66 okB_read (sh_sea q0) hc_1 (Nat.le_of_ble_eq_true rfl) (ctB_read G (d + 3) _ _ _ (sh_sea q0) _ _ he) ?_
  refine v_iconst (x := 1) dS_wed_40 rfl ?_
  refine v_iadd dS_wed_41 ?_
  refine v_top hm (fun x6 hm => ?_)
  refine v_ist_2 dS_wed_42 (by decide) rfl ?_
  refine v_ald_0 dS_wed_43 ?_
  refine v_getR dS_wed_44 fuS_9 q0 (rf_sea_0 q0) ?_
  refine v_ild_1 dS_wed_47 ?_
  refine v_bipush (x := 7) dS_wed_48 rfl ?_
  refine v_ild_2 dS_wed_50 ?_
  obtain ⟨h7, he, hm⟩ := bd_s hm
  refine v_cv3v (M' := tB_write) dS_wed_51 mlS_102 okB_write (sh_sea q0) hc_1 (Nat.le_of_ble_eq_true rfl) (ctB_write G (d + 3) _ _ _ _ (sh_sea q0) _ _ he) ?_
  refine v_ald_0 dS_wed_54 ?_
  refine v_iconst (x := 5) dS_wed_55 rfl ?_
  refine v_ild_1 dS_wed_56 ?_
  refine v_ild_2 dS_wed_57 ?_
  obtain ⟨h8, he, hm⟩ := bd_s hm
  refine v_cv3v (M' := tS_note) dS_wed_58 mlS_160 okS_note q0 hc_7 (Nat.le_of_ble_eq_true rfl) (ctS_note G (d + 2) _ _ _ _ q0 _ _ he) ?_
  refine v_ald_0 dS_wed_61 ?_
  refine v_ild_1 dS_wed_62 ?_
  obtain ⟨h9, he, hm⟩ := bd_s hm
  refine v_cv1v (M' := tS_leaveIfFallen) dS_wed_63 mlS_82 okS_leaveIfFallen q0 hc_7 (Nat.le_of_ble_eq_true rfl) (ctS_leaveIfFallen G d _ _ q0 _ _ he) ?_
  cases hm
  exact v_ret dS_wed_66 rfl
def mS_raze_L2 (a0 : Nat) (p1 : Int32) (k0 : PH → Option (PH)) : Nat → Int32 → PH → Option (PH)
  | 0, _, _ => none
  | n + 1, v2, hv =>
    if 4 ≤ v2 then
      k0 hv
    else
      bd (mB_write (sT a0) p1 v2 0 hv) fun h1 =>
      mS_raze_L2 a0 p1 k0 n (v2 + 1) h1
def mS_raze (a0 : Nat) (p1 : Int32) (h0 : PH) : Option (PH) :=
  mS_raze_L2 a0 p1 (fun (h2 : PH) =>
    bd (mS_leaveIfFallen a0 p1 h2) fun h3 =>
    some h3) FU 0 h0
theorem wS_raze_L2 (G : GG) (d : Nat) (a0 : Nat) (p1 : Int32) (q0 : shL[a0]? = some (7, 4)) (k0 : PH → Option (PH)) (r : PH) (kk0 : ∀ (hy : PH), k0 hy = some r → Vx G tS_raze (d + 4) 23 [some (.ref (gB G + a0)), some (.int p1), none] [] hy none r) : ∀ (n : Nat) (v2 : Int32) (hv : PH), mS_raze_L2 a0 p1 k0 n v2 hv = some r → Vx G tS_raze (d + 4) 2 [some (.ref (gB G + a0)), some (.int p1), some (.int v2)] [] hv none r := by
  intro n
  induction n with
  | zero => intro v2 hv hm; cases hm
  | succ n ih =>
    intro v2 hv hm
    unfold mS_raze_L2 at hm
    refine v_ild_2 dS_raze_2 ?_
    refine v_iconst (x := 4) dS_raze_3 rfl ?_
    refine v_cmp_ge dS_raze_4 (fun hc => ?_) (fun hc => ?_)
    · replace hm := it hc hm
      exact v_kw (kk0 _ hm) (wk_s (wk_s (wk_n wk_e)))
    · replace hm := ie hc hm
      refine v_ald_0 dS_raze_7 ?_
      refine v_getR dS_raze_8 fuS_9 q0 (rf_sea_0 q0) ?_
      refine v_ild_1 dS_raze_11 ?_
      refine v_ild_2 dS_raze_12 ?_
      refine v_iconst (x := 0) dS_raze_13 rfl ?_
      obtain ⟨h1, he, hm⟩ := bd_s hm
      refine v_cv3v (M' := tB_write) dS_raze_14 mlS_102 okB_write (sh_sea q0) hc_1 (Nat.le_of_ble_eq_true rfl) (ctB_write G (d + 3) _ _ _ _ (sh_sea q0) _ _ he) ?_
      refine v_inc_2 1 dS_raze_17 rfl (by decide) rfl ?_
      refine v_goto dS_raze_20 ?_
      exact v_kw (ih _ _ hm) (wk_s (wk_s (wk_s wk_e)))
theorem ctS_raze (G : GG) (d : Nat) (a0 : Nat) (p1 : Int32) (q0 : shL[a0]? = some (7, 4)) (h0 : PH) (r : PH) (hm : mS_raze a0 p1 h0 = some r) : Kx G tS_raze (d + 4) [.ref (gB G + a0), .int p1] h0 none r := by
  refine K_of_V (by decide) (by simp [cat_i, cat_r, fmtV_cat]) (by simp [tS_raze]) ?_
  change Vx G tS_raze (d + 4) 0 [some (.ref (gB G + a0)), some (.int p1), none] [] h0 none r
  unfold mS_raze at hm
  refine v_iconst (x := 0) dS_raze_0 rfl ?_
  refine v_ist_2 dS_raze_1 (by decide) rfl ?_
  refine v_kw (wS_raze_L2 G d _ _ q0 _ _ (fun h2 hm => ?_) FU _ _ hm) (wk_s (wk_s (wk_s wk_e)))
  refine v_ald_0 dS_raze_23 ?_
  refine v_ild_1 dS_raze_24 ?_
  obtain ⟨h3, he, hm⟩ := bd_s hm
  refine v_cv1v (M' := tS_leaveIfFallen) dS_raze_25 mlS_82 okS_leaveIfFallen q0 hc_7 (Nat.le_of_ble_eq_true rfl) (ctS_leaveIfFallen G d _ _ q0 _ _ he) ?_
  cases hm
  exact v_ret dS_raze_28 rfl
def mS_officeLine (a0 : Nat) (a1 : Nat) (p2 : Int32) (h0 : PH) : Option (PH) :=
  bd (mR_at a1 p2 2 h0) fun r1 =>
  bd (mR_at a1 p2 4 h0) fun r2 =>
  bd (mR_at a1 p2 1 h0) fun r3 =>
  if r3 = 1 then
    bd (mB_read (sT a0) r1 8 h0) fun r4 =>
    bd (mB_write (sT a0) r1 8 (imax 0 (r4 - r2)) h0) fun h5 =>
    some h5
  else
    if r3 = 2 then
      bd (mR_at a1 p2 3 h0) fun r6 =>
      bd (mB_thicken (sT a0) r1 r6 r2 h0) fun h7 =>
      some h7
    else
      if r3 = 3 then
        bd (mS_mayWed a0 r1 h0) fun r8 =>
        if r8 = 0 then
          some h0
        else
          bd (mS_wed a0 r1 h0) fun h9 =>
          some h9
      else
        bd (mB_isUp (sT a0) r1 h0) fun r10 =>
        if r10 = 0 then
          some h0
        else
          bd (mS_raze a0 r1 h0) fun h11 =>
          some h11
theorem ctS_officeLine (G : GG) (d : Nat) (a0 : Nat) (a1 : Nat) (p2 : Int32) (q0 : shL[a0]? = some (7, 4)) (q1 : shL[a1]? = some (6, 4)) (h0 : PH) (r : PH) (hm : mS_officeLine a0 a1 p2 h0 = some r) : Kx G tS_officeLine (d + 5) [.ref (gB G + a0), .ref (gB G + a1), .int p2] h0 none r := by
  refine K_of_V (by decide) (by simp [cat_i, cat_r, fmtV_cat]) (by simp [tS_officeLine]) ?_
  change Vx G tS_officeLine (d + 5) 0 [some (.ref (gB G + a0)), some (.ref (gB G + a1)), some (.int p2), none, none] [] h0 none r
  unfold mS_officeLine at hm
  refine v_ald_1 dS_officeLine_0 ?_
  refine v_ild_2 dS_officeLine_1 ?_
  refine v_iconst (x := 2) dS_officeLine_2 rfl ?_
  obtain ⟨r1, he, hm⟩ := bd_s hm
  refine v_cv2i (M' := tR_at) dS_officeLine_3 mlS_42 okR_at q1 hc_6 (Nat.le_of_ble_eq_true rfl) (ctR_at G (d + 4) _ _ _ q1 _ _ he) ?_
  refine v_ist_3 dS_officeLine_6 (by decide) rfl ?_
  refine v_ald_1 dS_officeLine_7 ?_
  refine v_ild_2 dS_officeLine_8 ?_
  refine v_iconst (x := 4) dS_officeLine_9 rfl ?_
  obtain ⟨r2, he, hm⟩ := bd_s hm
  refine v_cv2i (M' := tR_at) dS_officeLine_10 mlS_42 okR_at q1 hc_6 (Nat.le_of_ble_eq_true rfl) (ctR_at G (d + 4) _ _ _ q1 _ _ he) ?_
  refine v_ist_4 dS_officeLine_13 (by decide) rfl ?_
  refine v_ald_1 dS_officeLine_15 ?_
  refine v_ild_2 dS_officeLine_16 ?_
  refine v_iconst (x := 1) dS_officeLine_17 rfl ?_
  obtain ⟨r3, he, hm⟩ := bd_s hm
  refine v_cv2i (M' := tR_at) dS_officeLine_18 mlS_42 okR_at q1 hc_6 (Nat.le_of_ble_eq_true rfl) (ctR_at G (d + 4) _ _ _ q1 _ _ he) ?_
  refine v_sw dS_officeLine_21 ?_
  refine v_selc (fun hc => ?_) (fun hc => ?_)
  · replace hm := it hc hm
    refine v_ald_0 dS_officeLine_48 ?_
    refine v_getR dS_officeLine_49 fuS_9 q0 (rf_sea_0 q0) ?_
    refine v_ild_3 dS_officeLine_52 ?_
    refine v_bipush (x := 8) dS_officeLine_53 rfl ?_
    refine v_iconst (x := 0) dS_officeLine_55 rfl ?_
    refine v_ald_0 dS_officeLine_56 ?_
    refine v_getR dS_officeLine_57 fuS_9 q0 (rf_sea_0 q0) ?_
    refine v_ild_3 dS_officeLine_60 ?_
    refine v_bipush (x := 8) dS_officeLine_61 rfl ?_
    obtain ⟨r4, he, hm⟩ := bd_s hm
    refine v_cv2i (M' := tB_read) dS_officeLine_63 mlS_66 okB_read (sh_sea q0) hc_1 (Nat.le_of_ble_eq_true rfl) (ctB_read G (d + 4) _ _ _ (sh_sea q0) _ _ he) ?_
    refine v_ild_4 dS_officeLine_66 ?_
    refine v_isub dS_officeLine_68 ?_
    refine v_mmax dS_officeLine_69 mlS_97 (Nat.le_of_ble_eq_true rfl) ?_
    obtain ⟨h5, he, hm⟩ := bd_s hm
    refine v_cv3v (M' := tB_write) dS_officeLine_72 mlS_102 okB_write (sh_sea q0) hc_1 (Nat.le_of_ble_eq_true rfl) (ctB_write G (d + 4) _ _ _ _ (sh_sea q0) _ _ he) ?_
    refine v_goto dS_officeLine_75 ?_
    cases hm
    exact v_ret dS_officeLine_129 rfl
  · replace hm := ie hc hm
    refine v_selc (fun hc => ?_) (fun hc => ?_)
    · replace hm := it hc hm
      refine v_ald_0 dS_officeLine_78 ?_
      refine v_getR dS_officeLine_79 fuS_9 q0 (rf_sea_0 q0) ?_
      refine v_ild_3 dS_officeLine_82 ?_
      refine v_ald_1 dS_officeLine_83 ?_
      refine v_ild_2 dS_officeLine_84 ?_
      refine v_iconst (x := 3) dS_officeLine_85 rfl ?_
      obtain ⟨r6, he, hm⟩ := bd_s hm
      refine v_cv2i (M' := tR_at) dS_officeLine_86 mlS_42 okR_at q1 hc_6 (Nat.le_of_ble_eq_true rfl) (ctR_at G (d + 4) _ _ _ q1 _ _ he) ?_
      refine v_ild_4 dS_officeLine_89 ?_
      obtain ⟨h7, he, hm⟩ := bd_s hm
      refine v_cv3v (M' := tB_thicken) dS_officeLine_91 mlS_106 okB_thicken (sh_sea q0) hc_1 (Nat.le_of_ble_eq_true rfl) (ctB_thicken G (d + 3) _ _ _ _ (sh_sea q0) _ _ he) ?_
      refine v_goto dS_officeLine_94 ?_
      cases hm
      exact v_ret dS_officeLine_129 rfl
    · replace hm := ie hc hm
      refine v_selc (fun hc => ?_) (fun hc => ?_)
      · replace hm := it hc hm
        refine v_ald_0 dS_officeLine_97 ?_
        refine v_ild_3 dS_officeLine_98 ?_
        obtain ⟨r8, he, hm⟩ := bd_s hm
        refine v_cv1i (M' := tS_mayWed) dS_officeLine_99 mlS_109 okS_mayWed q0 hc_7 (Nat.le_of_ble_eq_true rfl) (ctS_mayWed G (d + 2) _ _ q0 _ _ he) ?_
        refine v_if_eq dS_officeLine_102 (fun hc => ?_) (fun hc => ?_)
        · replace hm := it hc hm
          cases hm
          exact v_ret dS_officeLine_129 rfl
        · replace hm := ie hc hm
          refine v_ald_0 dS_officeLine_105 ?_
          refine v_ild_3 dS_officeLine_106 ?_
          obtain ⟨h9, he, hm⟩ := bd_s hm
          refine v_cv1v (M' := tS_wed) dS_officeLine_107 mlS_112 okS_wed q0 hc_7 (Nat.le_of_ble_eq_true rfl) (ctS_wed G d _ _ q0 _ _ he) ?_
          refine v_goto dS_officeLine_110 ?_
          cases hm
          exact v_ret dS_officeLine_129 rfl
      · replace hm := ie hc hm
        refine v_seln ?_
        refine v_ald_0 dS_officeLine_113 ?_
        refine v_getR dS_officeLine_114 fuS_9 q0 (rf_sea_0 q0) ?_
        refine v_ild_3 dS_officeLine_117 ?_
        obtain ⟨r10, he, hm⟩ := bd_s hm
        refine v_cv1i (M' := tB_isUp) dS_officeLine_118 mlS_62 okB_isUp (sh_sea q0) hc_1 (Nat.le_of_ble_eq_true rfl) (ctB_isUp G (d + 3) _ _ (sh_sea q0) _ _ he) ?_
        refine v_if_eq dS_officeLine_121 (fun hc => ?_) (fun hc => ?_)
        · replace hm := it hc hm
          cases hm
          exact v_ret dS_officeLine_129 rfl
        · replace hm := ie hc hm
          refine v_ald_0 dS_officeLine_124 ?_
          refine v_ild_3 dS_officeLine_125 ?_
          obtain ⟨h11, he, hm⟩ := bd_s hm
          refine v_cv1v (M' := tS_raze) dS_officeLine_126 mlS_115 okS_raze q0 hc_7 (Nat.le_of_ble_eq_true rfl) (ctS_raze G d _ _ q0 _ _ he) ?_
          cases hm
          exact v_ret dS_officeLine_129 rfl
def mS_noteIfAny (a0 : Nat) (p1 : Int32) (p2 : Int32) (p3 : Int32) (h0 : PH) : Option (PH) :=
  if p3 ≤ 0 then
    some h0
  else
    bd (mS_note a0 p1 p2 p3 h0) fun h1 =>
    some h1
theorem ctS_noteIfAny (G : GG) (d : Nat) (a0 : Nat) (p1 : Int32) (p2 : Int32) (p3 : Int32) (q0 : shL[a0]? = some (7, 4)) (h0 : PH) (r : PH) (hm : mS_noteIfAny a0 p1 p2 p3 h0 = some r) : Kx G tS_noteIfAny (d + 2) [.ref (gB G + a0), .int p1, .int p2, .int p3] h0 none r := by
  refine K_of_V (by decide) (by simp [cat_i, cat_r, fmtV_cat]) (by simp [tS_noteIfAny]) ?_
  change Vx G tS_noteIfAny (d + 2) 0 [some (.ref (gB G + a0)), some (.int p1), some (.int p2), some (.int p3)] [] h0 none r
  unfold mS_noteIfAny at hm
  refine v_ild_3 dS_noteIfAny_0 ?_
  refine v_if_le dS_noteIfAny_1 (fun hc => ?_) (fun hc => ?_)
  · replace hm := it hc hm
    cases hm
    exact v_ret dS_noteIfAny_11 rfl
  · replace hm := ie hc hm
    refine v_ald_0 dS_noteIfAny_4 ?_
    refine v_ild_1 dS_noteIfAny_5 ?_
    refine v_ild_2 dS_noteIfAny_6 ?_
    refine v_ild_3 dS_noteIfAny_7 ?_
    obtain ⟨h1, he, hm⟩ := bd_s hm
    refine v_cv3v (M' := tS_note) dS_noteIfAny_8 mlS_160 okS_note q0 hc_7 (Nat.le_of_ble_eq_true rfl) (ctS_note G d _ _ _ _ q0 _ _ he) ?_
    cases hm
    exact v_ret dS_noteIfAny_11 rfl
def mS_payRent_L27 (a0 : Nat) (p1 : Int32) (p2 : Int32) (k0 : Int32 → PH → Option (PH)) : Nat → Int32 → Int32 → PH → Option (PH)
  | 0, _, _, _ => none
  | n + 1, v3, v4, hv =>
    if p2 ≤ v4 then
      k0 v3 hv
    else
      bd (mB_isUp (sT a0) p1 hv) fun r4 =>
      if r4 = 0 then
        k0 v3 hv
      else
        bd (mB_thickest (sT a0) p1 hv) fun r5 =>
        bd2 (mB_thin (sT a0) p1 r5 1 hv) fun r6 h7 =>
        lt (v3 + r6) fun x8 =>
        mS_payRent_L27 a0 p1 p2 k0 n x8 (v4 + 1) h7
def mS_payRent (a0 : Nat) (p1 : Int32) (h0 : PH) : Option (PH) :=
  bd (mB_thickest (sT a0) p1 h0) fun r1 =>
  bd2 (mW_tells (sT a0) p1 r1 0 h0) fun r2 h3 =>
  mS_payRent_L27 a0 p1 r2 (fun (x9 : Int32) (h10 : PH) =>
    lt (up h10 (sT a0) 4 ((h10 (sT a0) 4) + x9)) fun h11 =>
    bd (mS_noteIfAny a0 0 p1 x9 h11) fun h12 =>
    lt (r2 - x9) fun x13 =>
    bd (mB_read (sT a0) p1 8 h12) fun r14 =>
    bd (mB_write (sT a0) p1 8 (r14 + x13) h12) fun h15 =>
    bd (mS_noteIfAny a0 1 p1 x13 h15) fun h16 =>
    bd (mS_leaveIfFallen a0 p1 h16) fun h17 =>
    some h17) FU 0 0 h3
theorem wS_payRent_L27 (G : GG) (d : Nat) (a0 : Nat) (p1 : Int32) (p2 : Int32) (q0 : shL[a0]? = some (7, 4)) (k0 : Int32 → PH → Option (PH)) (r : PH) (kk0 : ∀ (y3 : Int32) (hy : PH), k0 y3 hy = some r → Vx G tS_payRent (d + 5) 70 [some (.ref (gB G + a0)), some (.int p1), some (.int p2), some (.int y3), none] [] hy none r) : ∀ (n : Nat) (v3 : Int32) (v4 : Int32) (hv : PH), mS_payRent_L27 a0 p1 p2 k0 n v3 v4 hv = some r → Vx G tS_payRent (d + 5) 27 [some (.ref (gB G + a0)), some (.int p1), some (.int p2), some (.int v3), some (.int v4)] [] hv none r := by
  intro n
  induction n with
  | zero => intro v3 v4 hv hm; cases hm
  | succ n ih =>
    intro v3 v4 hv hm
    unfold mS_payRent_L27 at hm
    refine v_ild_4 dS_payRent_27 ?_
    refine v_ild_2 dS_payRent_29 ?_
    refine v_cmp_ge dS_payRent_30 (fun hc => ?_) (fun hc => ?_)
    · replace hm := it hc hm
      exact v_kw (kk0 _ _ hm) (wk_s (wk_s (wk_s (wk_s (wk_n wk_e)))))
    · replace hm := ie hc hm
      refine v_ald_0 dS_payRent_33 ?_
      refine v_getR dS_payRent_34 fuS_9 q0 (rf_sea_0 q0) ?_
      refine v_ild_1 dS_payRent_37 ?_
      obtain ⟨r4, he, hm⟩ := bd_s hm
      refine v_cv1i (M' := tB_isUp) dS_payRent_38 mlS_62 okB_isUp (sh_sea q0) hc_1 (Nat.le_of_ble_eq_true rfl) (ctB_isUp G (d + 3) _ _ (sh_sea q0) _ _ he) ?_
      refine v_if_eq dS_payRent_41 (fun hc => ?_) (fun hc => ?_)
      · replace hm := it hc hm
        exact v_kw (kk0 _ _ hm) (wk_s (wk_s (wk_s (wk_s (wk_n wk_e)))))
      · replace hm := ie hc hm
        refine v_ild_3 dS_payRent_44 ?_
        refine v_ald_0 dS_payRent_45 ?_
        refine v_getR dS_payRent_46 fuS_9 q0 (rf_sea_0 q0) ?_
        refine v_ild_1 dS_payRent_49 ?_
        refine v_ald_0 dS_payRent_50 ?_
        refine v_getR dS_payRent_51 fuS_9 q0 (rf_sea_0 q0) ?_
        refine v_ild_1 dS_payRent_54 ?_
        obtain ⟨r5, he, hm⟩ := bd_s hm
        refine v_cv1i (M' := tB_thickest) dS_payRent_55 mlS_118 okB_thickest (sh_sea q0) hc_1 (Nat.le_of_ble_eq_true rfl) (ctB_thickest G (d + 3) _ _ (sh_sea q0) _ _ he) ?_
        refine v_iconst (x := 1) dS_payRent_58 rfl ?_
        obtain ⟨r6, h7, he, hm⟩ := bd2_s hm
        refine v_cv3i (M' := tB_thin) dS_payRent_59 mlS_128 okB_thin (sh_sea q0) hc_1 (Nat.le_of_ble_eq_true rfl) (ctB_thin G (d + 3) _ _ _ _ (sh_sea q0) _ _ he) ?_
        refine v_iadd dS_payRent_62 ?_
        refine v_top hm (fun x8 hm => ?_)
        refine v_ist_3 dS_payRent_63 (by decide) rfl ?_
        refine v_inc_4 1 dS_payRent_64 rfl (by decide) rfl ?_
        refine v_goto dS_payRent_67 ?_
        exact v_kw (ih _ _ _ hm) (wk_s (wk_s (wk_s (wk_s (wk_s wk_e)))))
theorem ctS_payRent (G : GG) (d : Nat) (a0 : Nat) (p1 : Int32) (q0 : shL[a0]? = some (7, 4)) (h0 : PH) (r : PH) (hm : mS_payRent a0 p1 h0 = some r) : Kx G tS_payRent (d + 5) [.ref (gB G + a0), .int p1] h0 none r := by
  refine K_of_V (by decide) (by simp [cat_i, cat_r, fmtV_cat]) (by simp [tS_payRent]) ?_
  change Vx G tS_payRent (d + 5) 0 [some (.ref (gB G + a0)), some (.int p1), none, none, none] [] h0 none r
  unfold mS_payRent at hm
  refine v_ald_0 dS_payRent_0 ?_
  refine v_getR dS_payRent_1 fuS_19 q0 (rf_sea_2 q0) ?_
  refine v_ald_0 dS_payRent_4 ?_
  refine v_getR dS_payRent_5 fuS_9 q0 (rf_sea_0 q0) ?_
  refine v_ild_1 dS_payRent_8 ?_
  refine v_ald_0 dS_payRent_9 ?_
  refine v_getR dS_payRent_10 fuS_9 q0 (rf_sea_0 q0) ?_
  refine v_ild_1 dS_payRent_13 ?_
  obtain ⟨r1, he, hm⟩ := bd_s hm
  refine v_cv1i (M' := tB_thickest) dS_payRent_14 mlS_118 okB_thickest (sh_sea q0) hc_1 (Nat.le_of_ble_eq_true rfl) (ctB_thickest G (d + 3) _ _ (sh_sea q0) _ _ he) ?_
  refine v_iconst (x := 0) dS_payRent_17 rfl ?_
  obtain ⟨r2, h3, he, hm⟩ := bd2_s hm
  refine v_cv4i (M' := tW_tells) dS_payRent_18 mlS_122 okW_tells sh_34 hc_3 (Nat.le_of_ble_eq_true rfl) (ctW_tells G d _ _ _ _ (sh_sea q0) _ _ he) ?_
  refine v_ist_2 dS_payRent_21 (by decide) rfl ?_
  refine v_iconst (x := 0) dS_payRent_22 rfl ?_
  refine v_ist_3 dS_payRent_23 (by decide) rfl ?_
  refine v_iconst (x := 0) dS_payRent_24 rfl ?_
  refine v_ist_4 dS_payRent_25 (by decide) rfl ?_
  refine v_kw (wS_payRent_L27 G d _ _ _ q0 _ _ (fun x9 h10 hm => ?_) FU _ _ _ hm) (wk_s (wk_s (wk_s (wk_s (wk_s wk_e)))))
  refine v_ald_0 dS_payRent_70 ?_
  refine v_getR dS_payRent_71 fuS_9 q0 (rf_sea_0 q0) ?_
  refine v_dup dS_payRent_74 rfl ?_
  refine v_getI dS_payRent_75 fuS_132 (sh_sea q0) (rf_bor_4 (sh_sea q0)) ?_
  refine v_ild_3 dS_payRent_78 ?_
  refine v_iadd dS_payRent_79 ?_
  refine v_putIl dS_payRent_80 fuS_132 ft_1_4 (sh_sea q0) (rf_bor_4 (sh_sea q0)) hm (fun h11 hm => ?_)
  refine v_ald_0 dS_payRent_83 ?_
  refine v_iconst (x := 0) dS_payRent_84 rfl ?_
  refine v_ild_1 dS_payRent_85 ?_
  refine v_ild_3 dS_payRent_86 ?_
  obtain ⟨h12, he, hm⟩ := bd_s hm
  refine v_cv3v (M' := tS_noteIfAny) dS_payRent_87 mlS_135 okS_noteIfAny q0 hc_7 (Nat.le_of_ble_eq_true rfl) (ctS_noteIfAny G (d + 2) _ _ _ _ q0 _ _ he) ?_
  refine v_ild_2 dS_payRent_90 ?_
  refine v_ild_3 dS_payRent_91 ?_
  refine v_isub dS_payRent_92 ?_
  refine v_top hm (fun x13 hm => ?_)
  refine v_ist_4 dS_payRent_93 (by decide) rfl ?_
  refine v_ald_0 dS_payRent_95 ?_
  refine v_getR dS_payRent_96 fuS_9 q0 (rf_sea_0 q0) ?_
  refine v_ild_1 dS_payRent_99 ?_
  refine v_bipush (x := 8) dS_payRent_100 rfl ?_
  refine v_ald_0 dS_payRent_102 ?_
  refine v_getR dS_payRent_103 fuS_9 q0 (rf_sea_0 q0) ?_
  refine v_ild_1 dS_payRent_106 ?_
  refine v_bipush (x := 8) dS_payRent_107 rfl ?_
  obtain ⟨r14, he, hm⟩ := bd_s hm
  refine v_cv2i (M' := tB_read) dS_payRent_109 mlS_66 okB_read (sh_sea q0) hc_1 (Nat.le_of_ble_eq_true rfl) (ctB_read G (d + 4) _ _ _ (sh_sea q0) _ _ he) ?_
  refine v_ild_4 dS_payRent_112 ?_
  refine v_iadd dS_payRent_114 ?_
  obtain ⟨h15, he, hm⟩ := bd_s hm
  refine v_cv3v (M' := tB_write) dS_payRent_115 mlS_102 okB_write (sh_sea q0) hc_1 (Nat.le_of_ble_eq_true rfl) (ctB_write G (d + 4) _ _ _ _ (sh_sea q0) _ _ he) ?_
  refine v_ald_0 dS_payRent_118 ?_
  refine v_iconst (x := 1) dS_payRent_119 rfl ?_
  refine v_ild_1 dS_payRent_120 ?_
  refine v_ild_4 dS_payRent_121 ?_
  obtain ⟨h16, he, hm⟩ := bd_s hm
  refine v_cv3v (M' := tS_noteIfAny) dS_payRent_123 mlS_135 okS_noteIfAny q0 hc_7 (Nat.le_of_ble_eq_true rfl) (ctS_noteIfAny G (d + 2) _ _ _ _ q0 _ _ he) ?_
  refine v_ald_0 dS_payRent_126 ?_
  refine v_ild_1 dS_payRent_127 ?_
  obtain ⟨h17, he, hm⟩ := bd_s hm
  refine v_cv1v (M' := tS_leaveIfFallen) dS_payRent_128 mlS_82 okS_leaveIfFallen q0 hc_7 (Nat.le_of_ble_eq_true rfl) (ctS_leaveIfFallen G (d + 1) _ _ q0 _ _ he) ?_
  cases hm
  exact v_ret dS_payRent_131 rfl
def mS_ratsGnaw (a0 : Nat) (p1 : Int32) (h0 : PH) : Option (Int32 × PH) :=
  if (h0 a0 3) = 0 then
    if p1 < 500 then
      some (0, h0)
    else
      some (1, h0)
  else
    if p1 ≤ 0 then
      some (0, h0)
    else
      bd2 (mB_draw (sT a0) 1000 h0) fun r1 h2 =>
      if p1 ≤ r1 then
        some (0, h2)
      else
        some (1, h2)
theorem ctS_ratsGnaw (G : GG) (d : Nat) (a0 : Nat) (p1 : Int32) (q0 : shL[a0]? = some (7, 4)) (h0 : PH) (r : Int32 × PH) (hm : mS_ratsGnaw a0 p1 h0 = some r) : Kx G tS_ratsGnaw (d + 1) [.ref (gB G + a0), .int p1] h0 (some (.int r.1)) r.2 := by
  refine K_of_V (by decide) (by simp [cat_i, cat_r, fmtV_cat]) (by simp [tS_ratsGnaw]) ?_
  change Vx G tS_ratsGnaw (d + 1) 0 [some (.ref (gB G + a0)), some (.int p1)] [] h0 (some (.int r.1)) r.2
  unfold mS_ratsGnaw at hm
  refine v_ald_0 dS_ratsGnaw_0 ?_
  refine v_getI dS_ratsGnaw_1 fuS_23 q0 (rf_sea_3 q0) ?_
  refine v_if_ne dS_ratsGnaw_4 (fun hc => ?_) (fun hc => ?_)
  · replace hm := it hc hm
    refine v_ild_1 dS_ratsGnaw_7 ?_
    refine v_sipush (x := 500) dS_ratsGnaw_8 rfl ?_
    refine v_cmp_lt dS_ratsGnaw_11 (fun hc => ?_) (fun hc => ?_)
    · replace hm := it hc hm
      refine v_iconst (x := 0) dS_ratsGnaw_18 rfl ?_
      cases hm
      exact v_zret0 dS_ratsGnaw_19 rfl
    · replace hm := ie hc hm
      refine v_iconst (x := 1) dS_ratsGnaw_14 rfl ?_
      refine v_goto dS_ratsGnaw_15 ?_
      cases hm
      exact v_zret1 dS_ratsGnaw_19 rfl
  · replace hm := ie hc hm
    refine v_ild_1 dS_ratsGnaw_20 ?_
    refine v_if_le dS_ratsGnaw_21 (fun hc => ?_) (fun hc => ?_)
    · replace hm := it hc hm
      refine v_iconst (x := 0) dS_ratsGnaw_42 rfl ?_
      cases hm
      exact v_zret0 dS_ratsGnaw_43 rfl
    · replace hm := ie hc hm
      refine v_ald_0 dS_ratsGnaw_24 ?_
      refine v_getR dS_ratsGnaw_25 fuS_9 q0 (rf_sea_0 q0) ?_
      refine v_sipush (x := 1000) dS_ratsGnaw_28 rfl ?_
      obtain ⟨r1, h2, he, hm⟩ := bd2_s hm
      refine v_cv1i (M' := tB_draw) dS_ratsGnaw_31 mlS_144 okB_draw (sh_sea q0) hc_1 (Nat.le_of_ble_eq_true rfl) (ctB_draw G d _ _ (sh_sea q0) _ _ he) ?_
      refine v_ild_1 dS_ratsGnaw_34 ?_
      refine v_cmp_ge dS_ratsGnaw_35 (fun hc => ?_) (fun hc => ?_)
      · replace hm := it hc hm
        refine v_iconst (x := 0) dS_ratsGnaw_42 rfl ?_
        cases hm
        exact v_zret0 dS_ratsGnaw_43 rfl
      · replace hm := ie hc hm
        refine v_iconst (x := 1) dS_ratsGnaw_38 rfl ?_
        refine v_goto dS_ratsGnaw_39 ?_
        cases hm
        exact v_zret1 dS_ratsGnaw_43 rfl
def mS_gnaw_L4 (a0 : Nat) (p1 : Int32) (k0 : Int32 → PH → Option (PH)) : Nat → Int32 → Int32 → PH → Option (PH)
  | 0, _, _, _ => none
  | n + 1, v2, v3, hv =>
    if 4 ≤ v3 then
      k0 v2 hv
    else
      bd (mB_read (sT a0) p1 v3 hv) fun r1 =>
      if r1 ≤ 0 then
        mS_gnaw_L4 a0 p1 k0 n v2 (v3 + 1) hv
      else
        bd2 (mW_tells (sT a0) p1 v3 1 hv) fun r2 h3 =>
        bd2 (mS_ratsGnaw a0 r2 h3) fun r4 h5 =>
        if r4 = 0 then
          mS_gnaw_L4 a0 p1 k0 n v2 (v3 + 1) h5
        else
          bd2 (mB_thin (sT a0) p1 v3 1 h5) fun r6 h7 =>
          lt (v2 + r6) fun x8 =>
          mS_gnaw_L4 a0 p1 k0 n x8 (v3 + 1) h7
def mS_gnaw (a0 : Nat) (p1 : Int32) (h0 : PH) : Option (PH) :=
  mS_gnaw_L4 a0 p1 (fun (x9 : Int32) (h10 : PH) =>
    lt (up h10 (sT a0) 5 ((h10 (sT a0) 5) + x9)) fun h11 =>
    bd (mS_noteIfAny a0 2 p1 x9 h11) fun h12 =>
    some h12) FU 0 0 h0
theorem wS_gnaw_L4 (G : GG) (d : Nat) (a0 : Nat) (p1 : Int32) (q0 : shL[a0]? = some (7, 4)) (k0 : Int32 → PH → Option (PH)) (r : PH) (kk0 : ∀ (y2 : Int32) (hy : PH), k0 y2 hy = some r → Vx G tS_gnaw (d + 5) 61 [some (.ref (gB G + a0)), some (.int p1), some (.int y2), none] [] hy none r) : ∀ (n : Nat) (v2 : Int32) (v3 : Int32) (hv : PH), mS_gnaw_L4 a0 p1 k0 n v2 v3 hv = some r → Vx G tS_gnaw (d + 5) 4 [some (.ref (gB G + a0)), some (.int p1), some (.int v2), some (.int v3)] [] hv none r := by
  intro n
  induction n with
  | zero => intro v2 v3 hv hm; cases hm
  | succ n ih =>
    intro v2 v3 hv hm
    unfold mS_gnaw_L4 at hm
    refine v_ild_3 dS_gnaw_4 ?_
    refine v_iconst (x := 4) dS_gnaw_5 rfl ?_
    refine v_cmp_ge dS_gnaw_6 (fun hc => ?_) (fun hc => ?_)
    · replace hm := it hc hm
      exact v_kw (kk0 _ _ hm) (wk_s (wk_s (wk_s (wk_n wk_e))))
    · replace hm := ie hc hm
      refine v_ald_0 dS_gnaw_9 ?_
      refine v_getR dS_gnaw_10 fuS_9 q0 (rf_sea_0 q0) ?_
      refine v_ild_1 dS_gnaw_13 ?_
      refine v_ild_3 dS_gnaw_14 ?_
      obtain ⟨r1, he, hm⟩ := bd_s hm
      refine v_cv2i (M' := tB_read) dS_gnaw_15 mlS_66 okB_read (sh_sea q0) hc_1 (Nat.le_of_ble_eq_true rfl) (ctB_read G (d + 4) _ _ _ (sh_sea q0) _ _ he) ?_
      refine v_if_le dS_gnaw_18 (fun hc => ?_) (fun hc => ?_)
      · replace hm := it hc hm
        refine v_inc_3 1 dS_gnaw_55 rfl (by decide) rfl ?_
        refine v_goto dS_gnaw_58 ?_
        exact v_kw (ih _ _ _ hm) (wk_s (wk_s (wk_s (wk_s wk_e))))
      · replace hm := ie hc hm
        refine v_ald_0 dS_gnaw_21 ?_
        refine v_ald_0 dS_gnaw_22 ?_
        refine v_getR dS_gnaw_23 fuS_19 q0 (rf_sea_2 q0) ?_
        refine v_ald_0 dS_gnaw_26 ?_
        refine v_getR dS_gnaw_27 fuS_9 q0 (rf_sea_0 q0) ?_
        refine v_ild_1 dS_gnaw_30 ?_
        refine v_ild_3 dS_gnaw_31 ?_
        refine v_iconst (x := 1) dS_gnaw_32 rfl ?_
        obtain ⟨r2, h3, he, hm⟩ := bd2_s hm
        refine v_cv4i (M' := tW_tells) dS_gnaw_33 mlS_122 okW_tells sh_34 hc_3 (Nat.le_of_ble_eq_true rfl) (ctW_tells G d _ _ _ _ (sh_sea q0) _ _ he) ?_
        obtain ⟨r4, h5, he, hm⟩ := bd2_s hm
        refine v_cv1i (M' := tS_ratsGnaw) dS_gnaw_36 mlS_138 okS_ratsGnaw q0 hc_7 (Nat.le_of_ble_eq_true rfl) (ctS_ratsGnaw G (d + 3) _ _ q0 _ _ he) ?_
        refine v_if_eq dS_gnaw_39 (fun hc => ?_) (fun hc => ?_)
        · replace hm := it hc hm
          refine v_inc_3 1 dS_gnaw_55 rfl (by decide) rfl ?_
          refine v_goto dS_gnaw_58 ?_
          exact v_kw (ih _ _ _ hm) (wk_s (wk_s (wk_s (wk_s wk_e))))
        · replace hm := ie hc hm
          refine v_ild_2 dS_gnaw_42 ?_
          refine v_ald_0 dS_gnaw_43 ?_
          refine v_getR dS_gnaw_44 fuS_9 q0 (rf_sea_0 q0) ?_
          refine v_ild_1 dS_gnaw_47 ?_
          refine v_ild_3 dS_gnaw_48 ?_
          refine v_iconst (x := 1) dS_gnaw_49 rfl ?_
          obtain ⟨r6, h7, he, hm⟩ := bd2_s hm
          refine v_cv3i (M' := tB_thin) dS_gnaw_50 mlS_128 okB_thin (sh_sea q0) hc_1 (Nat.le_of_ble_eq_true rfl) (ctB_thin G (d + 3) _ _ _ _ (sh_sea q0) _ _ he) ?_
          refine v_iadd dS_gnaw_53 ?_
          refine v_top hm (fun x8 hm => ?_)
          refine v_ist_2 dS_gnaw_54 (by decide) rfl ?_
          refine v_inc_3 1 dS_gnaw_55 rfl (by decide) rfl ?_
          refine v_goto dS_gnaw_58 ?_
          exact v_kw (ih _ _ _ hm) (wk_s (wk_s (wk_s (wk_s wk_e))))
theorem ctS_gnaw (G : GG) (d : Nat) (a0 : Nat) (p1 : Int32) (q0 : shL[a0]? = some (7, 4)) (h0 : PH) (r : PH) (hm : mS_gnaw a0 p1 h0 = some r) : Kx G tS_gnaw (d + 5) [.ref (gB G + a0), .int p1] h0 none r := by
  refine K_of_V (by decide) (by simp [cat_i, cat_r, fmtV_cat]) (by simp [tS_gnaw]) ?_
  change Vx G tS_gnaw (d + 5) 0 [some (.ref (gB G + a0)), some (.int p1), none, none] [] h0 none r
  unfold mS_gnaw at hm
  refine v_iconst (x := 0) dS_gnaw_0 rfl ?_
  refine v_ist_2 dS_gnaw_1 (by decide) rfl ?_
  refine v_iconst (x := 0) dS_gnaw_2 rfl ?_
  refine v_ist_3 dS_gnaw_3 (by decide) rfl ?_
  refine v_kw (wS_gnaw_L4 G d _ _ q0 _ _ (fun x9 h10 hm => ?_) FU _ _ _ hm) (wk_s (wk_s (wk_s (wk_s wk_e))))
  refine v_ald_0 dS_gnaw_61 ?_
  refine v_getR dS_gnaw_62 fuS_9 q0 (rf_sea_0 q0) ?_
  refine v_dup dS_gnaw_65 rfl ?_
  refine v_getI dS_gnaw_66 fuS_141 (sh_sea q0) (rf_bor_5 (sh_sea q0)) ?_
  refine v_ild_2 dS_gnaw_69 ?_
  refine v_iadd dS_gnaw_70 ?_
  refine v_putIl dS_gnaw_71 fuS_141 ft_1_5 (sh_sea q0) (rf_bor_5 (sh_sea q0)) hm (fun h11 hm => ?_)
  refine v_ald_0 dS_gnaw_74 ?_
  refine v_iconst (x := 2) dS_gnaw_75 rfl ?_
  refine v_ild_1 dS_gnaw_76 ?_
  refine v_ild_2 dS_gnaw_77 ?_
  obtain ⟨h12, he, hm⟩ := bd_s hm
  refine v_cv3v (M' := tS_noteIfAny) dS_gnaw_78 mlS_135 okS_noteIfAny q0 hc_7 (Nat.le_of_ble_eq_true rfl) (ctS_noteIfAny G (d + 2) _ _ _ _ q0 _ _ he) ?_
  cases hm
  exact v_ret dS_gnaw_81 rfl
def mS_melt_L15 (a0 : Nat) (p1 : Int32) (k0 : Int32 → PH → Option (PH)) : Nat → Int32 → Int32 → PH → Option (PH)
  | 0, _, _, _ => none
  | n + 1, v2, v3, hv =>
    if 4 ≤ v3 then
      k0 v2 hv
    else
      bd (mB_read (sT a0) p1 v3 hv) fun r1 =>
      if r1 ≤ 0 then
        mS_melt_L15 a0 p1 k0 n v2 (v3 + 1) hv
      else
        bd2 (mW_tells (sT a0) p1 v3 2 hv) fun r2 h3 =>
        bd2 (mB_thin (sT a0) p1 v3 r2 h3) fun r4 h5 =>
        lt (v2 + r4) fun x6 =>
        mS_melt_L15 a0 p1 k0 n x6 (v3 + 1) h5
def mS_melt (a0 : Nat) (p1 : Int32) (h0 : PH) : Option (PH) :=
  if (h0 (sT a0) 3) = 0 then
    mS_melt_L15 a0 p1 (fun (x7 : Int32) (h8 : PH) =>
      bd (mS_noteIfAny a0 3 p1 x7 h8) fun h9 =>
      some h9) FU 0 0 h0
  else
    some h0
theorem wS_melt_L15 (G : GG) (d : Nat) (a0 : Nat) (p1 : Int32) (q0 : shL[a0]? = some (7, 4)) (k0 : Int32 → PH → Option (PH)) (r : PH) (kk0 : ∀ (y2 : Int32) (hy : PH), k0 y2 hy = some r → Vx G tS_melt (d + 5) 64 [some (.ref (gB G + a0)), some (.int p1), some (.int y2), none] [] hy none r) : ∀ (n : Nat) (v2 : Int32) (v3 : Int32) (hv : PH), mS_melt_L15 a0 p1 k0 n v2 v3 hv = some r → Vx G tS_melt (d + 5) 15 [some (.ref (gB G + a0)), some (.int p1), some (.int v2), some (.int v3)] [] hv none r := by
  intro n
  induction n with
  | zero => intro v2 v3 hv hm; cases hm
  | succ n ih =>
    intro v2 v3 hv hm
    unfold mS_melt_L15 at hm
    refine v_ild_3 dS_melt_15 ?_
    refine v_iconst (x := 4) dS_melt_16 rfl ?_
    refine v_cmp_ge dS_melt_17 (fun hc => ?_) (fun hc => ?_)
    · replace hm := it hc hm
      exact v_kw (kk0 _ _ hm) (wk_s (wk_s (wk_s (wk_n wk_e))))
    · replace hm := ie hc hm
      refine v_ald_0 dS_melt_20 ?_
      refine v_getR dS_melt_21 fuS_9 q0 (rf_sea_0 q0) ?_
      refine v_ild_1 dS_melt_24 ?_
      refine v_ild_3 dS_melt_25 ?_
      obtain ⟨r1, he, hm⟩ := bd_s hm
      refine v_cv2i (M' := tB_read) dS_melt_26 mlS_66 okB_read (sh_sea q0) hc_1 (Nat.le_of_ble_eq_true rfl) (ctB_read G (d + 4) _ _ _ (sh_sea q0) _ _ he) ?_
      refine v_if_le dS_melt_29 (fun hc => ?_) (fun hc => ?_)
      · replace hm := it hc hm
        refine v_inc_3 1 dS_melt_58 rfl (by decide) rfl ?_
        refine v_goto dS_melt_61 ?_
        exact v_kw (ih _ _ _ hm) (wk_s (wk_s (wk_s (wk_s wk_e))))
      · replace hm := ie hc hm
        refine v_ild_2 dS_melt_32 ?_
        refine v_ald_0 dS_melt_33 ?_
        refine v_getR dS_melt_34 fuS_9 q0 (rf_sea_0 q0) ?_
        refine v_ild_1 dS_melt_37 ?_
        refine v_ild_3 dS_melt_38 ?_
        refine v_ald_0 dS_melt_39 ?_
        refine v_getR dS_melt_40 fuS_19 q0 (rf_sea_2 q0) ?_
        refine v_ald_0 dS_melt_43 ?_
        refine v_getR dS_melt_44 fuS_9 q0 (rf_sea_0 q0) ?_
        refine v_ild_1 dS_melt_47 ?_
        refine v_ild_3 dS_melt_48 ?_
        refine v_iconst (x := 2) dS_melt_49 rfl ?_
        obtain ⟨r2, h3, he, hm⟩ := bd2_s hm
        refine v_cv4i (M' := tW_tells) dS_melt_50 mlS_122 okW_tells sh_34 hc_3 (Nat.le_of_ble_eq_true rfl) (ctW_tells G d _ _ _ _ (sh_sea q0) _ _ he) ?_
        obtain ⟨r4, h5, he, hm⟩ := bd2_s hm
        refine v_cv3i (M' := tB_thin) dS_melt_53 mlS_128 okB_thin (sh_sea q0) hc_1 (Nat.le_of_ble_eq_true rfl) (ctB_thin G (d + 3) _ _ _ _ (sh_sea q0) _ _ he) ?_
        refine v_iadd dS_melt_56 ?_
        refine v_top hm (fun x6 hm => ?_)
        refine v_ist_2 dS_melt_57 (by decide) rfl ?_
        refine v_inc_3 1 dS_melt_58 rfl (by decide) rfl ?_
        refine v_goto dS_melt_61 ?_
        exact v_kw (ih _ _ _ hm) (wk_s (wk_s (wk_s (wk_s wk_e))))
theorem ctS_melt (G : GG) (d : Nat) (a0 : Nat) (p1 : Int32) (q0 : shL[a0]? = some (7, 4)) (h0 : PH) (r : PH) (hm : mS_melt a0 p1 h0 = some r) : Kx G tS_melt (d + 5) [.ref (gB G + a0), .int p1] h0 none r := by
  refine K_of_V (by decide) (by simp [cat_i, cat_r, fmtV_cat]) (by simp [tS_melt]) ?_
  change Vx G tS_melt (d + 5) 0 [some (.ref (gB G + a0)), some (.int p1), none, none] [] h0 none r
  unfold mS_melt at hm
  refine v_ald_0 dS_melt_0 ?_
  refine v_getR dS_melt_1 fuS_9 q0 (rf_sea_0 q0) ?_
  refine v_getI dS_melt_4 fuS_94 (sh_sea q0) (rf_bor_3 (sh_sea q0)) ?_
  refine v_if_eq dS_melt_7 (fun hc => ?_) (fun hc => ?_)
  · replace hm := it hc hm
    refine v_iconst (x := 0) dS_melt_11 rfl ?_
    refine v_ist_2 dS_melt_12 (by decide) rfl ?_
    refine v_iconst (x := 0) dS_melt_13 rfl ?_
    refine v_ist_3 dS_melt_14 (by decide) rfl ?_
    refine v_kw (wS_melt_L15 G d _ _ q0 _ _ (fun x7 h8 hm => ?_) FU _ _ _ hm) (wk_s (wk_s (wk_s (wk_s wk_e))))
    refine v_ald_0 dS_melt_64 ?_
    refine v_iconst (x := 3) dS_melt_65 rfl ?_
    refine v_ild_1 dS_melt_66 ?_
    refine v_ild_2 dS_melt_67 ?_
    obtain ⟨h9, he, hm⟩ := bd_s hm
    refine v_cv3v (M' := tS_noteIfAny) dS_melt_68 mlS_135 okS_noteIfAny q0 hc_7 (Nat.le_of_ble_eq_true rfl) (ctS_noteIfAny G (d + 2) _ _ _ _ q0 _ _ he) ?_
    cases hm
    exact v_ret dS_melt_71 rfl
  · replace hm := ie hc hm
    cases hm
    exact v_ret dS_melt_10 rfl
def mS_harden_L2 (a0 : Nat) : Nat → Int32 → PH → Option (PH)
  | 0, _, _ => none
  | n + 1, v1, hv =>
    if (hv (sT a0) 1) ≤ v1 then
      some hv
    else
      if (hv (sT a0) 3) = 1 then
        bd (mB_isUp (sT a0) v1 hv) fun r1 =>
        if r1 = 0 then
          mS_harden_L2 a0 n (v1 + 1) hv
        else
          bd (mB_read (sT a0) v1 6 hv) fun r2 =>
          bd (mB_write (sT a0) v1 6 (imin 9 (r2 + 1)) hv) fun h3 =>
          mS_harden_L2 a0 n (v1 + 1) h3
      else
        mS_harden_L2 a0 n (v1 + 1) hv
def mS_harden (a0 : Nat) (h0 : PH) : Option (PH) :=
  mS_harden_L2 a0 FU 0 h0
theorem wS_harden_L2 (G : GG) (d : Nat) (a0 : Nat) (q0 : shL[a0]? = some (7, 4)) (r : PH) : ∀ (n : Nat) (v1 : Int32) (hv : PH), mS_harden_L2 a0 n v1 hv = some r → Vx G tS_harden (d + 2) 2 [some (.ref (gB G + a0)), some (.int v1)] [] hv none r := by
  intro n
  induction n with
  | zero => intro v1 hv hm; cases hm
  | succ n ih =>
    intro v1 hv hm
    unfold mS_harden_L2 at hm
    refine v_ild_1 dS_harden_2 ?_
    refine v_ald_0 dS_harden_3 ?_
    refine v_getR dS_harden_4 fuS_9 q0 (rf_sea_0 q0) ?_
    refine v_getI dS_harden_7 fuS_59 (sh_sea q0) (rf_bor_1 (sh_sea q0)) ?_
    refine v_cmp_ge dS_harden_10 (fun hc => ?_) (fun hc => ?_)
    · replace hm := it hc hm
      cases hm
      exact v_ret dS_harden_68 rfl
    · replace hm := ie hc hm
      refine v_ald_0 dS_harden_13 ?_
      refine v_getR dS_harden_14 fuS_9 q0 (rf_sea_0 q0) ?_
      refine v_getI dS_harden_17 fuS_94 (sh_sea q0) (rf_bor_3 (sh_sea q0)) ?_
      refine v_iconst (x := 1) dS_harden_20 rfl ?_
      refine v_cmp_ne dS_harden_21 (fun hc => ?_) (fun hc => ?_)
      · replace hm := it hc hm
        refine v_ald_0 dS_harden_24 ?_
        refine v_getR dS_harden_25 fuS_9 q0 (rf_sea_0 q0) ?_
        refine v_ild_1 dS_harden_28 ?_
        obtain ⟨r1, he, hm⟩ := bd_s hm
        refine v_cv1i (M' := tB_isUp) dS_harden_29 mlS_62 okB_isUp (sh_sea q0) hc_1 (Nat.le_of_ble_eq_true rfl) (ctB_isUp G d _ _ (sh_sea q0) _ _ he) ?_
        refine v_if_eq dS_harden_32 (fun hc => ?_) (fun hc => ?_)
        · replace hm := it hc hm
          refine v_inc_1 1 dS_harden_62 rfl (by decide) rfl ?_
          refine v_goto dS_harden_65 ?_
          exact v_kw (ih _ _ hm) (wk_s (wk_s wk_e))
        · replace hm := ie hc hm
          refine v_ald_0 dS_harden_35 ?_
          refine v_getR dS_harden_36 fuS_9 q0 (rf_sea_0 q0) ?_
          refine v_ild_1 dS_harden_39 ?_
          refine v_bipush (x := 6) dS_harden_40 rfl ?_
          refine v_bipush (x := 9) dS_harden_42 rfl ?_
          refine v_ald_0 dS_harden_44 ?_
          refine v_getR dS_harden_45 fuS_9 q0 (rf_sea_0 q0) ?_
          refine v_ild_1 dS_harden_48 ?_
          refine v_bipush (x := 6) dS_harden_49 rfl ?_
          obtain ⟨r2, he, hm⟩ := bd_s hm
          refine v_cv2i (M' := tB_read) dS_harden_51 mlS_66 okB_read (sh_sea q0) hc_1 (Nat.le_of_ble_eq_true rfl) (ctB_read G (d + 1) _ _ _ (sh_sea q0) _ _ he) ?_
          refine v_iconst (x := 1) dS_harden_54 rfl ?_
          refine v_iadd dS_harden_55 ?_
          refine v_mmin dS_harden_56 mlS_147 (Nat.le_of_ble_eq_true rfl) ?_
          obtain ⟨h3, he, hm⟩ := bd_s hm
          refine v_cv3v (M' := tB_write) dS_harden_59 mlS_102 okB_write (sh_sea q0) hc_1 (Nat.le_of_ble_eq_true rfl) (ctB_write G (d + 1) _ _ _ _ (sh_sea q0) _ _ he) ?_
          refine v_inc_1 1 dS_harden_62 rfl (by decide) rfl ?_
          refine v_goto dS_harden_65 ?_
          exact v_kw (ih _ _ hm) (wk_s (wk_s wk_e))
      · replace hm := ie hc hm
        refine v_inc_1 1 dS_harden_62 rfl (by decide) rfl ?_
        refine v_goto dS_harden_65 ?_
        exact v_kw (ih _ _ hm) (wk_s (wk_s wk_e))
theorem ctS_harden (G : GG) (d : Nat) (a0 : Nat) (q0 : shL[a0]? = some (7, 4)) (h0 : PH) (r : PH) (hm : mS_harden a0 h0 = some r) : Kx G tS_harden (d + 2) [.ref (gB G + a0)] h0 none r := by
  refine K_of_V (by decide) (by simp [cat_i, cat_r, fmtV_cat]) (by simp [tS_harden]) ?_
  change Vx G tS_harden (d + 2) 0 [some (.ref (gB G + a0)), none] [] h0 none r
  unfold mS_harden at hm
  refine v_iconst (x := 0) dS_harden_0 rfl ?_
  refine v_ist_1 dS_harden_1 (by decide) rfl ?_
  exact v_kw (wS_harden_L2 G d _ q0 _ FU _ _ hm) (wk_s (wk_s wk_e))
def mS_grow_L2 (a0 : Nat) (k0 : PH → Option (PH)) : Nat → Int32 → PH → Option (PH)
  | 0, _, _ => none
  | n + 1, v1, hv =>
    if (hv (sT a0) 1) ≤ v1 then
      k0 hv
    else
      bd (mB_isUp (sT a0) v1 hv) fun r1 =>
      if r1 = 0 then
        mS_grow_L2 a0 k0 n (v1 + 1) hv
      else
        bd (mB_read (sT a0) v1 10 hv) fun r2 =>
        bd (mB_write (sT a0) v1 10 (imin 9999 (r2 + 1)) hv) fun h3 =>
        mS_grow_L2 a0 k0 n (v1 + 1) h3
def mS_grow (a0 : Nat) (h0 : PH) : Option (PH) :=
  mS_grow_L2 a0 (fun (h4 : PH) =>
    lt (up h4 (sT a0) 6 (imin 9999 ((h4 (sT a0) 6) + 1))) fun h5 =>
    some h5) FU 0 h0
theorem wS_grow_L2 (G : GG) (d : Nat) (a0 : Nat) (q0 : shL[a0]? = some (7, 4)) (k0 : PH → Option (PH)) (r : PH) (kk0 : ∀ (hy : PH), k0 hy = some r → Vx G tS_grow (d + 2) 58 [some (.ref (gB G + a0)), none] [] hy none r) : ∀ (n : Nat) (v1 : Int32) (hv : PH), mS_grow_L2 a0 k0 n v1 hv = some r → Vx G tS_grow (d + 2) 2 [some (.ref (gB G + a0)), some (.int v1)] [] hv none r := by
  intro n
  induction n with
  | zero => intro v1 hv hm; cases hm
  | succ n ih =>
    intro v1 hv hm
    unfold mS_grow_L2 at hm
    refine v_ild_1 dS_grow_2 ?_
    refine v_ald_0 dS_grow_3 ?_
    refine v_getR dS_grow_4 fuS_9 q0 (rf_sea_0 q0) ?_
    refine v_getI dS_grow_7 fuS_59 (sh_sea q0) (rf_bor_1 (sh_sea q0)) ?_
    refine v_cmp_ge dS_grow_10 (fun hc => ?_) (fun hc => ?_)
    · replace hm := it hc hm
      exact v_kw (kk0 _ hm) (wk_s (wk_n wk_e))
    · replace hm := ie hc hm
      refine v_ald_0 dS_grow_13 ?_
      refine v_getR dS_grow_14 fuS_9 q0 (rf_sea_0 q0) ?_
      refine v_ild_1 dS_grow_17 ?_
      obtain ⟨r1, he, hm⟩ := bd_s hm
      refine v_cv1i (M' := tB_isUp) dS_grow_18 mlS_62 okB_isUp (sh_sea q0) hc_1 (Nat.le_of_ble_eq_true rfl) (ctB_isUp G d _ _ (sh_sea q0) _ _ he) ?_
      refine v_if_eq dS_grow_21 (fun hc => ?_) (fun hc => ?_)
      · replace hm := it hc hm
        refine v_inc_1 1 dS_grow_52 rfl (by decide) rfl ?_
        refine v_goto dS_grow_55 ?_
        exact v_kw (ih _ _ hm) (wk_s (wk_s wk_e))
      · replace hm := ie hc hm
        refine v_ald_0 dS_grow_24 ?_
        refine v_getR dS_grow_25 fuS_9 q0 (rf_sea_0 q0) ?_
        refine v_ild_1 dS_grow_28 ?_
        refine v_bipush (x := 10) dS_grow_29 rfl ?_
        refine v_sipush (x := 9999) dS_grow_31 rfl ?_
        refine v_ald_0 dS_grow_34 ?_
        refine v_getR dS_grow_35 fuS_9 q0 (rf_sea_0 q0) ?_
        refine v_ild_1 dS_grow_38 ?_
        refine v_bipush (x := 10) dS_grow_39 rfl ?_
        obtain ⟨r2, he, hm⟩ := bd_s hm
        refine v_cv2i (M' := tB_read) dS_grow_41 mlS_66 okB_read (sh_sea q0) hc_1 (Nat.le_of_ble_eq_true rfl) (ctB_read G (d + 1) _ _ _ (sh_sea q0) _ _ he) ?_
        refine v_iconst (x := 1) dS_grow_44 rfl ?_
        refine v_iadd dS_grow_45 ?_
        refine v_mmin dS_grow_46 mlS_147 (Nat.le_of_ble_eq_true rfl) ?_
        obtain ⟨h3, he, hm⟩ := bd_s hm
        refine v_cv3v (M' := tB_write) dS_grow_49 mlS_102 okB_write (sh_sea q0) hc_1 (Nat.le_of_ble_eq_true rfl) (ctB_write G (d + 1) _ _ _ _ (sh_sea q0) _ _ he) ?_
        refine v_inc_1 1 dS_grow_52 rfl (by decide) rfl ?_
        refine v_goto dS_grow_55 ?_
        exact v_kw (ih _ _ hm) (wk_s (wk_s wk_e))
theorem ctS_grow (G : GG) (d : Nat) (a0 : Nat) (q0 : shL[a0]? = some (7, 4)) (h0 : PH) (r : PH) (hm : mS_grow a0 h0 = some r) : Kx G tS_grow (d + 2) [.ref (gB G + a0)] h0 none r := by
  refine K_of_V (by decide) (by simp [cat_i, cat_r, fmtV_cat]) (by simp [tS_grow]) ?_
  change Vx G tS_grow (d + 2) 0 [some (.ref (gB G + a0)), none] [] h0 none r
  unfold mS_grow at hm
  refine v_iconst (x := 0) dS_grow_0 rfl ?_
  refine v_ist_1 dS_grow_1 (by decide) rfl ?_
  refine v_kw (wS_grow_L2 G d _ q0 _ _ (fun h4 hm => ?_) FU _ _ hm) (wk_s (wk_s wk_e))
  refine v_ald_0 dS_grow_58 ?_
  refine v_getR dS_grow_59 fuS_9 q0 (rf_sea_0 q0) ?_
  refine v_sipush (x := 9999) dS_grow_62 rfl ?_
  refine v_ald_0 dS_grow_65 ?_
  refine v_getR dS_grow_66 fuS_9 q0 (rf_sea_0 q0) ?_
  refine v_getI dS_grow_69 fuS_46 (sh_sea q0) (rf_bor_6 (sh_sea q0)) ?_
  refine v_iconst (x := 1) dS_grow_72 rfl ?_
  refine v_iadd dS_grow_73 ?_
  refine v_mmin dS_grow_74 mlS_147 (Nat.le_of_ble_eq_true rfl) ?_
  refine v_putIl dS_grow_77 fuS_46 ft_1_6 (sh_sea q0) (rf_bor_6 (sh_sea q0)) hm (fun h5 hm => ?_)
  cases hm
  exact v_ret dS_grow_80 rfl
def mS_pass_L6 (a0 : Nat) (k0 : PH → Option (Int32 × PH)) : Nat → Int32 → PH → Option (Int32 × PH)
  | 0, _, _ => none
  | n + 1, v1, hv =>
    if (hv 12 3) ≤ v1 then
      k0 hv
    else
      bd (mR_at 12 v1 0 hv) fun r2 =>
      if r2 = (hv (sT a0) 6) then
        bd (mS_officeLine a0 12 v1 hv) fun h3 =>
        mS_pass_L6 a0 k0 n (v1 + 1) h3
      else
        mS_pass_L6 a0 k0 n (v1 + 1) hv
def mS_pass_L70 (a0 : Nat) (p1 : Int32) (k0 : PH → Option (Int32 × PH)) : Nat → Int32 → PH → Option (Int32 × PH)
  | 0, _, _ => none
  | n + 1, v2, hv =>
    if (hv (sT a0) 1) ≤ v2 then
      k0 hv
    else
      bd (mB_isUp (sT a0) v2 hv) fun r6 =>
      if r6 = 0 then
        mS_pass_L70 a0 p1 k0 n (v2 + 1) hv
      else
        bd (mB_read (sT a0) v2 7 hv) fun r7 =>
        if r7 ≤ 0 then
          mS_pass_L70 a0 p1 k0 n (v2 + 1) hv
        else
          bd (mS_payRent a0 v2 hv) fun h8 =>
          mS_pass_L70 a0 p1 k0 n (v2 + 1) h8
def mS_pass_L118 (a0 : Nat) (p1 : Int32) (k0 : PH → Option (Int32 × PH)) : Nat → Int32 → PH → Option (Int32 × PH)
  | 0, _, _ => none
  | n + 1, v2, hv =>
    if (hv (sT a0) 1) ≤ v2 then
      k0 hv
    else
      bd (mS_gnaw a0 v2 hv) fun h10 =>
      mS_pass_L118 a0 p1 k0 n (v2 + 1) h10
def mS_pass_L142 (a0 : Nat) (p1 : Int32) (k0 : PH → Option (Int32 × PH)) : Nat → Int32 → PH → Option (Int32 × PH)
  | 0, _, _ => none
  | n + 1, v2, hv =>
    if (hv (sT a0) 1) ≤ v2 then
      k0 hv
    else
      bd (mS_melt a0 v2 hv) fun h12 =>
      mS_pass_L142 a0 p1 k0 n (v2 + 1) h12
def mS_pass_L180 (a0 : Nat) (p2 : Int32) (k0 : PH → Option (Int32 × PH)) : Nat → Int32 → PH → Option (Int32 × PH)
  | 0, _, _ => none
  | n + 1, v3, hv =>
    if (hv (sT a0) 1) ≤ v3 then
      k0 hv
    else
      bd (mS_leaveIfFallen a0 v3 hv) fun h17 =>
      mS_pass_L180 a0 p2 k0 n (v3 + 1) h17
def mS_pass (a0 : Nat) (h0 : PH) : Option (Int32 × PH) :=
  bd (mS_weather a0 h0) fun h1 =>
  mS_pass_L6 a0 (fun (h4 : PH) =>
    bd (mB_countUp (sT a0) h4) fun r5 =>
    mS_pass_L70 a0 r5 (fun (h9 : PH) =>
      mS_pass_L118 a0 r5 (fun (h11 : PH) =>
        mS_pass_L142 a0 r5 (fun (h13 : PH) =>
          bd (mB_countUp (sT a0) h13) fun r14 =>
          lt (r5 - r14) fun x15 =>
          bd (mS_harden a0 h13) fun h16 =>
          mS_pass_L180 a0 x15 (fun (h18 : PH) =>
            bd (mS_grow a0 h18) fun h19 =>
            some (x15, h19)) FU 0 h16) FU 0 h11) FU 0 h9) FU 0 h4) FU 0 h1
theorem wS_pass_L6 (G : GG) (d : Nat) (a0 : Nat) (q0 : shL[a0]? = some (7, 4)) (k0 : PH → Option (Int32 × PH)) (r : Int32 × PH) (kk0 : ∀ (hy : PH), k0 hy = some r → Vx G tS_pass (d + 6) 60 [some (.ref (gB G + a0)), none, none, none] [] hy (some (.int r.1)) r.2) : ∀ (n : Nat) (v1 : Int32) (hv : PH), mS_pass_L6 a0 k0 n v1 hv = some r → Vx G tS_pass (d + 6) 6 [some (.ref (gB G + a0)), some (.int v1), none, none] [] hv (some (.int r.1)) r.2 := by
  intro n
  induction n with
  | zero => intro v1 hv hm; cases hm
  | succ n ih =>
    intro v1 hv hm
    unfold mS_pass_L6 at hm
    refine v_ild_1 dS_pass_6 ?_
    refine v_ald_0 dS_pass_7 ?_
    refine v_getR dS_pass_8 fuS_15 q0 (rf_sea_1 q0) ?_
    refine v_getR dS_pass_11 fuS_30 sh_5 rf_5_3 ?_
    refine v_getI dS_pass_14 fuS_36 sh_12 rf_12_3 ?_
    refine v_cmp_ge dS_pass_17 (fun hc => ?_) (fun hc => ?_)
    · replace hm := it hc hm
      exact v_kw (kk0 _ hm) (wk_s (wk_n (wk_n (wk_n wk_e))))
    · replace hm := ie hc hm
      refine v_ald_0 dS_pass_20 ?_
      refine v_getR dS_pass_21 fuS_15 q0 (rf_sea_1 q0) ?_
      refine v_getR dS_pass_24 fuS_30 sh_5 rf_5_3 ?_
      refine v_ild_1 dS_pass_27 ?_
      refine v_iconst (x := 0) dS_pass_28 rfl ?_
      obtain ⟨r2, he, hm⟩ := bd_s hm
      refine v_cv2i (M' := tR_at) dS_pass_29 mlS_42 okR_at sh_12 hc_6 (Nat.le_of_ble_eq_true rfl) (ctR_at G (d + 5) _ _ _ sh_12 _ _ he) ?_
      refine v_ald_0 dS_pass_32 ?_
      refine v_getR dS_pass_33 fuS_9 q0 (rf_sea_0 q0) ?_
      refine v_getI dS_pass_36 fuS_46 (sh_sea q0) (rf_bor_6 (sh_sea q0)) ?_
      refine v_cmp_ne dS_pass_39 (fun hc => ?_) (fun hc => ?_)
      · replace hm := it hc hm
        refine v_ald_0 dS_pass_42 ?_
        refine v_ald_0 dS_pass_43 ?_
        refine v_getR dS_pass_44 fuS_15 q0 (rf_sea_1 q0) ?_
        refine v_getR dS_pass_47 fuS_30 sh_5 rf_5_3 ?_
        refine v_ild_1 dS_pass_50 ?_
        obtain ⟨h3, he, hm⟩ := bd_s hm
        refine v_cv2v (M' := tS_officeLine) dS_pass_51 mlS_51 okS_officeLine q0 hc_7 (Nat.le_of_ble_eq_true rfl) (ctS_officeLine G d _ _ _ q0 sh_12 _ _ he) ?_
        refine v_inc_1 1 dS_pass_54 rfl (by decide) rfl ?_
        refine v_goto dS_pass_57 ?_
        exact v_kw (ih _ _ hm) (wk_s (wk_s (wk_n (wk_n wk_e))))
      · replace hm := ie hc hm
        refine v_inc_1 1 dS_pass_54 rfl (by decide) rfl ?_
        refine v_goto dS_pass_57 ?_
        exact v_kw (ih _ _ hm) (wk_s (wk_s (wk_n (wk_n wk_e))))
theorem wS_pass_L70 (G : GG) (d : Nat) (a0 : Nat) (p1 : Int32) (q0 : shL[a0]? = some (7, 4)) (k0 : PH → Option (Int32 × PH)) (r : Int32 × PH) (kk0 : ∀ (hy : PH), k0 hy = some r → Vx G tS_pass (d + 6) 116 [some (.ref (gB G + a0)), some (.int p1), none, none] [] hy (some (.int r.1)) r.2) : ∀ (n : Nat) (v2 : Int32) (hv : PH), mS_pass_L70 a0 p1 k0 n v2 hv = some r → Vx G tS_pass (d + 6) 70 [some (.ref (gB G + a0)), some (.int p1), some (.int v2), none] [] hv (some (.int r.1)) r.2 := by
  intro n
  induction n with
  | zero => intro v2 hv hm; cases hm
  | succ n ih =>
    intro v2 hv hm
    unfold mS_pass_L70 at hm
    refine v_ild_2 dS_pass_70 ?_
    refine v_ald_0 dS_pass_71 ?_
    refine v_getR dS_pass_72 fuS_9 q0 (rf_sea_0 q0) ?_
    refine v_getI dS_pass_75 fuS_59 (sh_sea q0) (rf_bor_1 (sh_sea q0)) ?_
    refine v_cmp_ge dS_pass_78 (fun hc => ?_) (fun hc => ?_)
    · replace hm := it hc hm
      exact v_kw (kk0 _ hm) (wk_s (wk_s (wk_n (wk_n wk_e))))
    · replace hm := ie hc hm
      refine v_ald_0 dS_pass_81 ?_
      refine v_getR dS_pass_82 fuS_9 q0 (rf_sea_0 q0) ?_
      refine v_ild_2 dS_pass_85 ?_
      obtain ⟨r6, he, hm⟩ := bd_s hm
      refine v_cv1i (M' := tB_isUp) dS_pass_86 mlS_62 okB_isUp (sh_sea q0) hc_1 (Nat.le_of_ble_eq_true rfl) (ctB_isUp G (d + 4) _ _ (sh_sea q0) _ _ he) ?_
      refine v_if_eq dS_pass_89 (fun hc => ?_) (fun hc => ?_)
      · replace hm := it hc hm
        refine v_inc_2 1 dS_pass_110 rfl (by decide) rfl ?_
        refine v_goto dS_pass_113 ?_
        exact v_kw (ih _ _ hm) (wk_s (wk_s (wk_s (wk_n wk_e))))
      · replace hm := ie hc hm
        refine v_ald_0 dS_pass_92 ?_
        refine v_getR dS_pass_93 fuS_9 q0 (rf_sea_0 q0) ?_
        refine v_ild_2 dS_pass_96 ?_
        refine v_bipush (x := 7) dS_pass_97 rfl ?_
        obtain ⟨r7, he, hm⟩ := bd_s hm
        refine v_cv2i (M' := tB_read) dS_pass_99 mlS_66 okB_read (sh_sea q0) hc_1 (Nat.le_of_ble_eq_true rfl) (ctB_read G (d + 5) _ _ _ (sh_sea q0) _ _ he) ?_
        refine v_if_le dS_pass_102 (fun hc => ?_) (fun hc => ?_)
        · replace hm := it hc hm
          refine v_inc_2 1 dS_pass_110 rfl (by decide) rfl ?_
          refine v_goto dS_pass_113 ?_
          exact v_kw (ih _ _ hm) (wk_s (wk_s (wk_s (wk_n wk_e))))
        · replace hm := ie hc hm
          refine v_ald_0 dS_pass_105 ?_
          refine v_ild_2 dS_pass_106 ?_
          obtain ⟨h8, he, hm⟩ := bd_s hm
          refine v_cv1v (M' := tS_payRent) dS_pass_107 mlS_69 okS_payRent q0 hc_7 (Nat.le_of_ble_eq_true rfl) (ctS_payRent G d _ _ q0 _ _ he) ?_
          refine v_inc_2 1 dS_pass_110 rfl (by decide) rfl ?_
          refine v_goto dS_pass_113 ?_
          exact v_kw (ih _ _ hm) (wk_s (wk_s (wk_s (wk_n wk_e))))
theorem wS_pass_L118 (G : GG) (d : Nat) (a0 : Nat) (p1 : Int32) (q0 : shL[a0]? = some (7, 4)) (k0 : PH → Option (Int32 × PH)) (r : Int32 × PH) (kk0 : ∀ (hy : PH), k0 hy = some r → Vx G tS_pass (d + 6) 140 [some (.ref (gB G + a0)), some (.int p1), none, none] [] hy (some (.int r.1)) r.2) : ∀ (n : Nat) (v2 : Int32) (hv : PH), mS_pass_L118 a0 p1 k0 n v2 hv = some r → Vx G tS_pass (d + 6) 118 [some (.ref (gB G + a0)), some (.int p1), some (.int v2), none] [] hv (some (.int r.1)) r.2 := by
  intro n
  induction n with
  | zero => intro v2 hv hm; cases hm
  | succ n ih =>
    intro v2 hv hm
    unfold mS_pass_L118 at hm
    refine v_ild_2 dS_pass_118 ?_
    refine v_ald_0 dS_pass_119 ?_
    refine v_getR dS_pass_120 fuS_9 q0 (rf_sea_0 q0) ?_
    refine v_getI dS_pass_123 fuS_59 (sh_sea q0) (rf_bor_1 (sh_sea q0)) ?_
    refine v_cmp_ge dS_pass_126 (fun hc => ?_) (fun hc => ?_)
    · replace hm := it hc hm
      exact v_kw (kk0 _ hm) (wk_s (wk_s (wk_n (wk_n wk_e))))
    · replace hm := ie hc hm
      refine v_ald_0 dS_pass_129 ?_
      refine v_ild_2 dS_pass_130 ?_
      obtain ⟨h10, he, hm⟩ := bd_s hm
      refine v_cv1v (M' := tS_gnaw) dS_pass_131 mlS_73 okS_gnaw q0 hc_7 (Nat.le_of_ble_eq_true rfl) (ctS_gnaw G d _ _ q0 _ _ he) ?_
      refine v_inc_2 1 dS_pass_134 rfl (by decide) rfl ?_
      refine v_goto dS_pass_137 ?_
      exact v_kw (ih _ _ hm) (wk_s (wk_s (wk_s (wk_n wk_e))))
theorem wS_pass_L142 (G : GG) (d : Nat) (a0 : Nat) (p1 : Int32) (q0 : shL[a0]? = some (7, 4)) (k0 : PH → Option (Int32 × PH)) (r : Int32 × PH) (kk0 : ∀ (hy : PH), k0 hy = some r → Vx G tS_pass (d + 6) 164 [some (.ref (gB G + a0)), some (.int p1), none, none] [] hy (some (.int r.1)) r.2) : ∀ (n : Nat) (v2 : Int32) (hv : PH), mS_pass_L142 a0 p1 k0 n v2 hv = some r → Vx G tS_pass (d + 6) 142 [some (.ref (gB G + a0)), some (.int p1), some (.int v2), none] [] hv (some (.int r.1)) r.2 := by
  intro n
  induction n with
  | zero => intro v2 hv hm; cases hm
  | succ n ih =>
    intro v2 hv hm
    unfold mS_pass_L142 at hm
    refine v_ild_2 dS_pass_142 ?_
    refine v_ald_0 dS_pass_143 ?_
    refine v_getR dS_pass_144 fuS_9 q0 (rf_sea_0 q0) ?_
    refine v_getI dS_pass_147 fuS_59 (sh_sea q0) (rf_bor_1 (sh_sea q0)) ?_
    refine v_cmp_ge dS_pass_150 (fun hc => ?_) (fun hc => ?_)
    · replace hm := it hc hm
      exact v_kw (kk0 _ hm) (wk_s (wk_s (wk_n (wk_n wk_e))))
    · replace hm := ie hc hm
      refine v_ald_0 dS_pass_153 ?_
      refine v_ild_2 dS_pass_154 ?_
      obtain ⟨h12, he, hm⟩ := bd_s hm
      refine v_cv1v (M' := tS_melt) dS_pass_155 mlS_76 okS_melt q0 hc_7 (Nat.le_of_ble_eq_true rfl) (ctS_melt G d _ _ q0 _ _ he) ?_
      refine v_inc_2 1 dS_pass_158 rfl (by decide) rfl ?_
      refine v_goto dS_pass_161 ?_
      exact v_kw (ih _ _ hm) (wk_s (wk_s (wk_s (wk_n wk_e))))
theorem wS_pass_L180 (G : GG) (d : Nat) (a0 : Nat) (p2 : Int32) (q0 : shL[a0]? = some (7, 4)) (k0 : PH → Option (Int32 × PH)) (r : Int32 × PH) (kk0 : ∀ (hy : PH), k0 hy = some r → Vx G tS_pass (d + 6) 202 [some (.ref (gB G + a0)), none, some (.int p2), none] [] hy (some (.int r.1)) r.2) : ∀ (n : Nat) (v3 : Int32) (hv : PH), mS_pass_L180 a0 p2 k0 n v3 hv = some r → Vx G tS_pass (d + 6) 180 [some (.ref (gB G + a0)), none, some (.int p2), some (.int v3)] [] hv (some (.int r.1)) r.2 := by
  intro n
  induction n with
  | zero => intro v3 hv hm; cases hm
  | succ n ih =>
    intro v3 hv hm
    unfold mS_pass_L180 at hm
    refine v_ild_3 dS_pass_180 ?_
    refine v_ald_0 dS_pass_181 ?_
    refine v_getR dS_pass_182 fuS_9 q0 (rf_sea_0 q0) ?_
    refine v_getI dS_pass_185 fuS_59 (sh_sea q0) (rf_bor_1 (sh_sea q0)) ?_
    refine v_cmp_ge dS_pass_188 (fun hc => ?_) (fun hc => ?_)
    · replace hm := it hc hm
      exact v_kw (kk0 _ hm) (wk_s (wk_n (wk_s (wk_n wk_e))))
    · replace hm := ie hc hm
      refine v_ald_0 dS_pass_191 ?_
      refine v_ild_3 dS_pass_192 ?_
      obtain ⟨h17, he, hm⟩ := bd_s hm
      refine v_cv1v (M' := tS_leaveIfFallen) dS_pass_193 mlS_82 okS_leaveIfFallen q0 hc_7 (Nat.le_of_ble_eq_true rfl) (ctS_leaveIfFallen G (d + 2) _ _ q0 _ _ he) ?_
      refine v_inc_3 1 dS_pass_196 rfl (by decide) rfl ?_
      refine v_goto dS_pass_199 ?_
      exact v_kw (ih _ _ hm) (wk_s (wk_n (wk_s (wk_s wk_e))))
theorem ctS_pass (G : GG) (d : Nat) (a0 : Nat) (q0 : shL[a0]? = some (7, 4)) (h0 : PH) (r : Int32 × PH) (hm : mS_pass a0 h0 = some r) : Kx G tS_pass (d + 6) [.ref (gB G + a0)] h0 (some (.int r.1)) r.2 := by
  refine K_of_V (by decide) (by simp [cat_i, cat_r, fmtV_cat]) (by simp [tS_pass]) ?_
  change Vx G tS_pass (d + 6) 0 [some (.ref (gB G + a0)), none, none, none] [] h0 (some (.int r.1)) r.2
  unfold mS_pass at hm
  refine v_ald_0 dS_pass_0 ?_
  obtain ⟨h1, he, hm⟩ := bd_s hm
  refine v_cv0v (M' := tS_weather) dS_pass_1 mlS_27 okS_weather q0 hc_7 (Nat.le_of_ble_eq_true rfl) (ctS_weather G (d + 4) _ q0 _ _ he) ?_
  refine v_iconst (x := 0) dS_pass_4 rfl ?_
  refine v_ist_1 dS_pass_5 (by decide) rfl ?_
  refine v_kw (wS_pass_L6 G d _ q0 _ _ (fun h4 hm => ?_) FU _ _ hm) (wk_s (wk_s (wk_n (wk_n wk_e))))
  refine v_ald_0 dS_pass_60 ?_
  refine v_getR dS_pass_61 fuS_9 q0 (rf_sea_0 q0) ?_
  obtain ⟨r5, he, hm⟩ := bd_s hm
  refine v_cv0i (M' := tB_countUp) dS_pass_64 mlS_55 okB_countUp (sh_sea q0) hc_1 (Nat.le_of_ble_eq_true rfl) (ctB_countUp G (d + 2) _ (sh_sea q0) _ _ he) ?_
  refine v_ist_1 dS_pass_67 (by decide) rfl ?_
  refine v_iconst (x := 0) dS_pass_68 rfl ?_
  refine v_ist_2 dS_pass_69 (by decide) rfl ?_
  refine v_kw (wS_pass_L70 G d _ _ q0 _ _ (fun h9 hm => ?_) FU _ _ hm) (wk_s (wk_s (wk_s (wk_n wk_e))))
  refine v_iconst (x := 0) dS_pass_116 rfl ?_
  refine v_ist_2 dS_pass_117 (by decide) rfl ?_
  refine v_kw (wS_pass_L118 G d _ _ q0 _ _ (fun h11 hm => ?_) FU _ _ hm) (wk_s (wk_s (wk_s (wk_n wk_e))))
  refine v_iconst (x := 0) dS_pass_140 rfl ?_
  refine v_ist_2 dS_pass_141 (by decide) rfl ?_
  refine v_kw (wS_pass_L142 G d _ _ q0 _ _ (fun h13 hm => ?_) FU _ _ hm) (wk_s (wk_s (wk_s (wk_n wk_e))))
  refine v_ild_1 dS_pass_164 ?_
  refine v_ald_0 dS_pass_165 ?_
  refine v_getR dS_pass_166 fuS_9 q0 (rf_sea_0 q0) ?_
  obtain ⟨r14, he, hm⟩ := bd_s hm
  refine v_cv0i (M' := tB_countUp) dS_pass_169 mlS_55 okB_countUp (sh_sea q0) hc_1 (Nat.le_of_ble_eq_true rfl) (ctB_countUp G (d + 2) _ (sh_sea q0) _ _ he) ?_
  refine v_isub dS_pass_172 ?_
  refine v_top hm (fun x15 hm => ?_)
  refine v_ist_2 dS_pass_173 (by decide) rfl ?_
  refine v_ald_0 dS_pass_174 ?_
  obtain ⟨h16, he, hm⟩ := bd_s hm
  refine v_cv0v (M' := tS_harden) dS_pass_175 mlS_79 okS_harden q0 hc_7 (Nat.le_of_ble_eq_true rfl) (ctS_harden G (d + 3) _ q0 _ _ he) ?_
  refine v_iconst (x := 0) dS_pass_178 rfl ?_
  refine v_ist_3 dS_pass_179 (by decide) rfl ?_
  refine v_kw (wS_pass_L180 G d _ _ q0 _ _ (fun h18 hm => ?_) FU _ _ hm) (wk_s (wk_n (wk_s (wk_s wk_e))))
  refine v_ald_0 dS_pass_202 ?_
  obtain ⟨h19, he, hm⟩ := bd_s hm
  refine v_cv0v (M' := tS_grow) dS_pass_203 mlS_85 okS_grow q0 hc_7 (Nat.le_of_ble_eq_true rfl) (ctS_grow G (d + 3) _ q0 _ _ he) ?_
  refine v_ild_2 dS_pass_206 ?_
  cases hm
  exact v_iret dS_pass_207 rfl
def mS_mayAct (a0 : Nat) (p1 : Int32) (p2 : Int32) (p3 : Int32) (h0 : PH) : Option (Int32) :=
  bd (mB_has (sT a0) p2 h0) fun r1 =>
  if r1 = 0 then
    some 0
  else
    bd (mX_within p1 0 3 h0) fun r2 =>
    if r2 = 0 then
      bd (mX_within p1 10 13 h0) fun r3 =>
      if r3 = 0 then
        if p1 = 20 then
          bd (mS_mayWed a0 p2 h0) fun r4 =>
          some (nb r4)
        else
          if p1 = 21 then
            bd (mB_read (sT a0) p2 7 h0) fun r5 =>
            if r5 ≤ 0 then
              some 0
            else
              if p3 = p2 then
                some 0
              else
                bd (mB_has (sT a0) p3 h0) fun r6 =>
                if r6 = 0 then
                  some 0
                else
                  bd (mB_isUp (sT a0) p3 h0) fun r7 =>
                  if r7 = 0 then
                    some 0
                  else
                    some 1
          else
            if p1 = 22 then
              bd (mB_isUp (sT a0) p2 h0) fun r8 =>
              some (nb r8)
            else
              some 0
      else
        bd (mX_within p3 1 99 h0) fun r9 =>
        some (nb r9)
    else
      bd (mB_read (sT a0) p2 p1 h0) fun r10 =>
      bd (mX_within p3 1 r10 h0) fun r11 =>
      some (nb r11)
theorem ctS_mayAct (G : GG) (d : Nat) (a0 : Nat) (p1 : Int32) (p2 : Int32) (p3 : Int32) (q0 : shL[a0]? = some (7, 4)) (h0 : PH) (r : Int32) (hm : mS_mayAct a0 p1 p2 p3 h0 = some r) : Kx G tS_mayAct (d + 3) [.ref (gB G + a0), .int p1, .int p2, .int p3] h0 (some (.int r)) h0 := by
  refine K_of_V (by decide) (by simp [cat_i, cat_r, fmtV_cat]) (by simp [tS_mayAct]) ?_
  change Vx G tS_mayAct (d + 3) 0 [some (.ref (gB G + a0)), some (.int p1), some (.int p2), some (.int p3)] [] h0 (some (.int r)) h0
  unfold mS_mayAct at hm
  refine v_ald_0 dS_mayAct_0 ?_
  refine v_getR dS_mayAct_1 fuS_9 q0 (rf_sea_0 q0) ?_
  refine v_ild_2 dS_mayAct_4 ?_
  obtain ⟨r1, he, hm⟩ := bd_s hm
  refine v_cv1i (M' := tB_has) dS_mayAct_5 mlS_170 okB_has (sh_sea q0) hc_1 (Nat.le_of_ble_eq_true rfl) (ctB_has G (d + 2) _ _ (sh_sea q0) _ _ he) ?_
  refine v_if_ne dS_mayAct_8 (fun hc => ?_) (fun hc => ?_)
  · replace hm := it hc hm
    refine v_iconst (x := 0) dS_mayAct_11 rfl ?_
    cases hm
    exact v_zret0 dS_mayAct_12 rfl
  · replace hm := ie hc hm
    refine v_ild_1 dS_mayAct_13 ?_
    refine v_iconst (x := 0) dS_mayAct_14 rfl ?_
    refine v_iconst (x := 3) dS_mayAct_15 rfl ?_
    obtain ⟨r2, he, hm⟩ := bd_s hm
    refine v_cn3i (M' := tX_within) dS_mayAct_16 mlS_173 okX_within (Nat.le_of_ble_eq_true rfl) (ctX_within G (d + 2) _ _ _ _ _ he) ?_
    refine v_if_eq dS_mayAct_19 (fun hc => ?_) (fun hc => ?_)
    · replace hm := it hc hm
      refine v_ild_1 dS_mayAct_37 ?_
      refine v_bipush (x := 10) dS_mayAct_38 rfl ?_
      refine v_bipush (x := 13) dS_mayAct_40 rfl ?_
      obtain ⟨r3, he, hm⟩ := bd_s hm
      refine v_cn3i (M' := tX_within) dS_mayAct_42 mlS_173 okX_within (Nat.le_of_ble_eq_true rfl) (ctX_within G (d + 2) _ _ _ _ _ he) ?_
      refine v_if_eq dS_mayAct_45 (fun hc => ?_) (fun hc => ?_)
      · replace hm := it hc hm
        refine v_ild_1 dS_mayAct_56 ?_
        refine v_sw dS_mayAct_57 ?_
        refine v_selc (fun hc => ?_) (fun hc => ?_)
        · replace hm := it hc hm
          refine v_ald_0 dS_mayAct_84 ?_
          refine v_ild_2 dS_mayAct_85 ?_
          obtain ⟨r4, he, hm⟩ := bd_s hm
          refine v_cv1i (M' := tS_mayWed) dS_mayAct_86 mlS_109 okS_mayWed q0 hc_7 (Nat.le_of_ble_eq_true rfl) (ctS_mayWed G d _ _ q0 _ _ he) ?_
          cases hm
          exact v_zret dS_mayAct_89 rfl
        · replace hm := ie hc hm
          refine v_selc (fun hc => ?_) (fun hc => ?_)
          · replace hm := it hc hm
            refine v_ald_0 dS_mayAct_90 ?_
            refine v_getR dS_mayAct_91 fuS_9 q0 (rf_sea_0 q0) ?_
            refine v_ild_2 dS_mayAct_94 ?_
            refine v_bipush (x := 7) dS_mayAct_95 rfl ?_
            obtain ⟨r5, he, hm⟩ := bd_s hm
            refine v_cv2i (M' := tB_read) dS_mayAct_97 mlS_66 okB_read (sh_sea q0) hc_1 (Nat.le_of_ble_eq_true rfl) (ctB_read G (d + 2) _ _ _ (sh_sea q0) _ _ he) ?_
            refine v_if_le dS_mayAct_100 (fun hc => ?_) (fun hc => ?_)
            · replace hm := it hc hm
              refine v_iconst (x := 0) dS_mayAct_134 rfl ?_
              cases hm
              exact v_zret0 dS_mayAct_135 rfl
            · replace hm := ie hc hm
              refine v_ild_3 dS_mayAct_103 ?_
              refine v_ild_2 dS_mayAct_104 ?_
              refine v_cmp_eq dS_mayAct_105 (fun hc => ?_) (fun hc => ?_)
              · replace hm := it hc hm
                refine v_iconst (x := 0) dS_mayAct_134 rfl ?_
                cases hm
                exact v_zret0 dS_mayAct_135 rfl
              · replace hm := ie hc hm
                refine v_ald_0 dS_mayAct_108 ?_
                refine v_getR dS_mayAct_109 fuS_9 q0 (rf_sea_0 q0) ?_
                refine v_ild_3 dS_mayAct_112 ?_
                obtain ⟨r6, he, hm⟩ := bd_s hm
                refine v_cv1i (M' := tB_has) dS_mayAct_113 mlS_170 okB_has (sh_sea q0) hc_1 (Nat.le_of_ble_eq_true rfl) (ctB_has G (d + 2) _ _ (sh_sea q0) _ _ he) ?_
                refine v_if_eq dS_mayAct_116 (fun hc => ?_) (fun hc => ?_)
                · replace hm := it hc hm
                  refine v_iconst (x := 0) dS_mayAct_134 rfl ?_
                  cases hm
                  exact v_zret0 dS_mayAct_135 rfl
                · replace hm := ie hc hm
                  refine v_ald_0 dS_mayAct_119 ?_
                  refine v_getR dS_mayAct_120 fuS_9 q0 (rf_sea_0 q0) ?_
                  refine v_ild_3 dS_mayAct_123 ?_
                  obtain ⟨r7, he, hm⟩ := bd_s hm
                  refine v_cv1i (M' := tB_isUp) dS_mayAct_124 mlS_62 okB_isUp (sh_sea q0) hc_1 (Nat.le_of_ble_eq_true rfl) (ctB_isUp G (d + 1) _ _ (sh_sea q0) _ _ he) ?_
                  refine v_if_eq dS_mayAct_127 (fun hc => ?_) (fun hc => ?_)
                  · replace hm := it hc hm
                    refine v_iconst (x := 0) dS_mayAct_134 rfl ?_
                    cases hm
                    exact v_zret0 dS_mayAct_135 rfl
                  · replace hm := ie hc hm
                    refine v_iconst (x := 1) dS_mayAct_130 rfl ?_
                    refine v_goto dS_mayAct_131 ?_
                    cases hm
                    exact v_zret1 dS_mayAct_135 rfl
          · replace hm := ie hc hm
            refine v_selc (fun hc => ?_) (fun hc => ?_)
            · replace hm := it hc hm
              refine v_ald_0 dS_mayAct_136 ?_
              refine v_getR dS_mayAct_137 fuS_9 q0 (rf_sea_0 q0) ?_
              refine v_ild_2 dS_mayAct_140 ?_
              obtain ⟨r8, he, hm⟩ := bd_s hm
              refine v_cv1i (M' := tB_isUp) dS_mayAct_141 mlS_62 okB_isUp (sh_sea q0) hc_1 (Nat.le_of_ble_eq_true rfl) (ctB_isUp G (d + 1) _ _ (sh_sea q0) _ _ he) ?_
              cases hm
              exact v_zret dS_mayAct_144 rfl
            · replace hm := ie hc hm
              refine v_seln ?_
              refine v_iconst (x := 0) dS_mayAct_145 rfl ?_
              cases hm
              exact v_zret0 dS_mayAct_146 rfl
      · replace hm := ie hc hm
        refine v_ild_3 dS_mayAct_48 ?_
        refine v_iconst (x := 1) dS_mayAct_49 rfl ?_
        refine v_bipush (x := 99) dS_mayAct_50 rfl ?_
        obtain ⟨r9, he, hm⟩ := bd_s hm
        refine v_cn3i (M' := tX_within) dS_mayAct_52 mlS_173 okX_within (Nat.le_of_ble_eq_true rfl) (ctX_within G (d + 2) _ _ _ _ _ he) ?_
        cases hm
        exact v_zret dS_mayAct_55 rfl
    · replace hm := ie hc hm
      refine v_ild_3 dS_mayAct_22 ?_
      refine v_iconst (x := 1) dS_mayAct_23 rfl ?_
      refine v_ald_0 dS_mayAct_24 ?_
      refine v_getR dS_mayAct_25 fuS_9 q0 (rf_sea_0 q0) ?_
      refine v_ild_2 dS_mayAct_28 ?_
      refine v_ild_1 dS_mayAct_29 ?_
      obtain ⟨r10, he, hm⟩ := bd_s hm
      refine v_cv2i (M' := tB_read) dS_mayAct_30 mlS_66 okB_read (sh_sea q0) hc_1 (Nat.le_of_ble_eq_true rfl) (ctB_read G (d + 2) _ _ _ (sh_sea q0) _ _ he) ?_
      obtain ⟨r11, he, hm⟩ := bd_s hm
      refine v_cn3i (M' := tX_within) dS_mayAct_33 mlS_173 okX_within (Nat.le_of_ble_eq_true rfl) (ctX_within G (d + 2) _ _ _ _ _ he) ?_
      cases hm
      exact v_zret dS_mayAct_36 rfl
def mS_nibble (a0 : Nat) (p1 : Int32) (p2 : Int32) (p3 : Int32) (h0 : PH) : Option (PH) :=
  bd2 (mB_thin (sT a0) p1 p2 p3 h0) fun r1 h2 =>
  lt (up h2 (sT a0) 4 ((h0 (sT a0) 4) + r1)) fun h3 =>
  bd (mS_note a0 0 p1 p3 h3) fun h4 =>
  bd (mS_leaveIfFallen a0 p1 h4) fun h5 =>
  some h5
theorem ctS_nibble (G : GG) (d : Nat) (a0 : Nat) (p1 : Int32) (p2 : Int32) (p3 : Int32) (q0 : shL[a0]? = some (7, 4)) (h0 : PH) (r : PH) (hm : mS_nibble a0 p1 p2 p3 h0 = some r) : Kx G tS_nibble (d + 4) [.ref (gB G + a0), .int p1, .int p2, .int p3] h0 none r := by
  refine K_of_V (by decide) (by simp [cat_i, cat_r, fmtV_cat]) (by simp [tS_nibble]) ?_
  change Vx G tS_nibble (d + 4) 0 [some (.ref (gB G + a0)), some (.int p1), some (.int p2), some (.int p3)] [] h0 none r
  unfold mS_nibble at hm
  refine v_ald_0 dS_nibble_0 ?_
  refine v_getR dS_nibble_1 fuS_9 q0 (rf_sea_0 q0) ?_
  refine v_dup dS_nibble_4 rfl ?_
  refine v_getI dS_nibble_5 fuS_132 (sh_sea q0) (rf_bor_4 (sh_sea q0)) ?_
  refine v_ald_0 dS_nibble_8 ?_
  refine v_getR dS_nibble_9 fuS_9 q0 (rf_sea_0 q0) ?_
  refine v_ild_1 dS_nibble_12 ?_
  refine v_ild_2 dS_nibble_13 ?_
  refine v_ild_3 dS_nibble_14 ?_
  obtain ⟨r1, h2, he, hm⟩ := bd2_s hm
  refine v_cv3i (M' := tB_thin) dS_nibble_15 mlS_128 okB_thin (sh_sea q0) hc_1 (Nat.le_of_ble_eq_true rfl) (ctB_thin G (d + 2) _ _ _ _ (sh_sea q0) _ _ he) ?_
  refine v_iadd dS_nibble_18 ?_
  refine v_putIl dS_nibble_19 fuS_132 ft_1_4 (sh_sea q0) (rf_bor_4 (sh_sea q0)) hm (fun h3 hm => ?_)
  refine v_ald_0 dS_nibble_22 ?_
  refine v_iconst (x := 0) dS_nibble_23 rfl ?_
  refine v_ild_1 dS_nibble_24 ?_
  refine v_ild_3 dS_nibble_25 ?_
  obtain ⟨h4, he, hm⟩ := bd_s hm
  refine v_cv3v (M' := tS_note) dS_nibble_26 mlS_160 okS_note q0 hc_7 (Nat.le_of_ble_eq_true rfl) (ctS_note G (d + 2) _ _ _ _ q0 _ _ he) ?_
  refine v_ald_0 dS_nibble_29 ?_
  refine v_ild_1 dS_nibble_30 ?_
  obtain ⟨h5, he, hm⟩ := bd_s hm
  refine v_cv1v (M' := tS_leaveIfFallen) dS_nibble_31 mlS_82 okS_leaveIfFallen q0 hc_7 (Nat.le_of_ble_eq_true rfl) (ctS_leaveIfFallen G d _ _ q0 _ _ he) ?_
  cases hm
  exact v_ret dS_nibble_34 rfl
def mS_actByHand (a0 : Nat) (p1 : Int32) (p2 : Int32) (p3 : Int32) (h0 : PH) : Option (PH) :=
  bd (mX_within p1 0 3 h0) fun r1 =>
  if r1 = 0 then
    bd (mX_within p1 10 13 h0) fun r2 =>
    if r2 = 0 then
      if p1 = 20 then
        bd (mS_wed a0 p2 h0) fun h3 =>
        some h3
      else
        if p1 = 21 then
          bd (mS_moveLodgers a0 p2 p3 h0) fun h4 =>
          some h4
        else
          if p1 = 22 then
            bd (mS_raze a0 p2 h0) fun h5 =>
            some h5
          else
            some h0
    else
      bd (mB_thicken (sT a0) p2 (p1 - 10) p3 h0) fun h6 =>
      some h6
  else
    bd (mS_nibble a0 p2 p1 p3 h0) fun h7 =>
    some h7
theorem ctS_actByHand (G : GG) (d : Nat) (a0 : Nat) (p1 : Int32) (p2 : Int32) (p3 : Int32) (q0 : shL[a0]? = some (7, 4)) (h0 : PH) (r : PH) (hm : mS_actByHand a0 p1 p2 p3 h0 = some r) : Kx G tS_actByHand (d + 5) [.ref (gB G + a0), .int p1, .int p2, .int p3] h0 none r := by
  refine K_of_V (by decide) (by simp [cat_i, cat_r, fmtV_cat]) (by simp [tS_actByHand]) ?_
  change Vx G tS_actByHand (d + 5) 0 [some (.ref (gB G + a0)), some (.int p1), some (.int p2), some (.int p3)] [] h0 none r
  unfold mS_actByHand at hm
  refine v_ild_1 dS_actByHand_0 ?_
  refine v_iconst (x := 0) dS_actByHand_1 rfl ?_
  refine v_iconst (x := 3) dS_actByHand_2 rfl ?_
  obtain ⟨r1, he, hm⟩ := bd_s hm
  refine v_cn3i (M' := tX_within) dS_actByHand_3 mlS_173 okX_within (Nat.le_of_ble_eq_true rfl) (ctX_within G (d + 4) _ _ _ _ _ he) ?_
  refine v_if_eq dS_actByHand_6 (fun hc => ?_) (fun hc => ?_)
  · replace hm := it hc hm
    refine v_ild_1 dS_actByHand_19 ?_
    refine v_bipush (x := 10) dS_actByHand_20 rfl ?_
    refine v_bipush (x := 13) dS_actByHand_22 rfl ?_
    obtain ⟨r2, he, hm⟩ := bd_s hm
    refine v_cn3i (M' := tX_within) dS_actByHand_24 mlS_173 okX_within (Nat.le_of_ble_eq_true rfl) (ctX_within G (d + 4) _ _ _ _ _ he) ?_
    refine v_if_eq dS_actByHand_27 (fun hc => ?_) (fun hc => ?_)
    · replace hm := it hc hm
      refine v_ild_1 dS_actByHand_46 ?_
      refine v_bipush (x := 20) dS_actByHand_47 rfl ?_
      refine v_cmp_ne dS_actByHand_49 (fun hc => ?_) (fun hc => ?_)
      · replace hm := it hc hm
        refine v_ald_0 dS_actByHand_52 ?_
        refine v_ild_2 dS_actByHand_53 ?_
        obtain ⟨h3, he, hm⟩ := bd_s hm
        refine v_cv1v (M' := tS_wed) dS_actByHand_54 mlS_112 okS_wed q0 hc_7 (Nat.le_of_ble_eq_true rfl) (ctS_wed G d _ _ q0 _ _ he) ?_
        refine v_goto dS_actByHand_57 ?_
        cases hm
        exact v_ret dS_actByHand_86 rfl
      · replace hm := ie hc hm
        refine v_ild_1 dS_actByHand_60 ?_
        refine v_bipush (x := 21) dS_actByHand_61 rfl ?_
        refine v_cmp_ne dS_actByHand_63 (fun hc => ?_) (fun hc => ?_)
        · replace hm := it hc hm
          refine v_ald_0 dS_actByHand_66 ?_
          refine v_ild_2 dS_actByHand_67 ?_
          refine v_ild_3 dS_actByHand_68 ?_
          obtain ⟨h4, he, hm⟩ := bd_s hm
          refine v_cv2v (M' := tS_moveLodgers) dS_actByHand_69 mlS_153 okS_moveLodgers q0 hc_7 (Nat.le_of_ble_eq_true rfl) (ctS_moveLodgers G (d + 2) _ _ _ q0 _ _ he) ?_
          refine v_goto dS_actByHand_72 ?_
          cases hm
          exact v_ret dS_actByHand_86 rfl
        · replace hm := ie hc hm
          refine v_ild_1 dS_actByHand_75 ?_
          refine v_bipush (x := 22) dS_actByHand_76 rfl ?_
          refine v_cmp_ne dS_actByHand_78 (fun hc => ?_) (fun hc => ?_)
          · replace hm := it hc hm
            refine v_ald_0 dS_actByHand_81 ?_
            refine v_ild_2 dS_actByHand_82 ?_
            obtain ⟨h5, he, hm⟩ := bd_s hm
            refine v_cv1v (M' := tS_raze) dS_actByHand_83 mlS_115 okS_raze q0 hc_7 (Nat.le_of_ble_eq_true rfl) (ctS_raze G d _ _ q0 _ _ he) ?_
            cases hm
            exact v_ret dS_actByHand_86 rfl
          · replace hm := ie hc hm
            cases hm
            exact v_ret dS_actByHand_86 rfl
    · replace hm := ie hc hm
      refine v_ald_0 dS_actByHand_30 ?_
      refine v_getR dS_actByHand_31 fuS_9 q0 (rf_sea_0 q0) ?_
      refine v_ild_2 dS_actByHand_34 ?_
      refine v_ild_1 dS_actByHand_35 ?_
      refine v_bipush (x := 10) dS_actByHand_36 rfl ?_
      refine v_isub dS_actByHand_38 ?_
      refine v_ild_3 dS_actByHand_39 ?_
      obtain ⟨h6, he, hm⟩ := bd_s hm
      refine v_cv3v (M' := tB_thicken) dS_actByHand_40 mlS_106 okB_thicken (sh_sea q0) hc_1 (Nat.le_of_ble_eq_true rfl) (ctB_thicken G (d + 3) _ _ _ _ (sh_sea q0) _ _ he) ?_
      refine v_goto dS_actByHand_43 ?_
      cases hm
      exact v_ret dS_actByHand_86 rfl
  · replace hm := ie hc hm
    refine v_ald_0 dS_actByHand_9 ?_
    refine v_ild_2 dS_actByHand_10 ?_
    refine v_ild_1 dS_actByHand_11 ?_
    refine v_ild_3 dS_actByHand_12 ?_
    obtain ⟨h7, he, hm⟩ := bd_s hm
    refine v_cv3v (M' := tS_nibble) dS_actByHand_13 mlS_177 okS_nibble q0 hc_7 (Nat.le_of_ble_eq_true rfl) (ctS_nibble G d _ _ _ _ q0 _ _ he) ?_
    refine v_goto dS_actByHand_16 ?_
    cases hm
    exact v_ret dS_actByHand_86 rfl
def mD_forgetFault (h0 : PH) : Option (PH) :=
  lt (up h0 90 2 0) fun h1 =>
  lt (up h1 90 3 (-1)) fun h2 =>
  some h2
theorem ctD_forgetFault (G : GG) (d : Nat) (h0 : PH) (r : PH) (hm : mD_forgetFault h0 = some r) : Kx G tD_forgetFault d [.ref (gB G + 90)] h0 none r := by
  refine K_of_V (by decide) (by simp [cat_i, cat_r, fmtV_cat]) (by simp [tD_forgetFault]) ?_
  change Vx G tD_forgetFault d 0 [some (.ref (gB G + 90))] [] h0 none r
  unfold mD_forgetFault at hm
  refine v_ald_0 dD_forgetFault_0 ?_
  refine v_iconst (x := 0) dD_forgetFault_1 rfl ?_
  refine v_putIl dD_forgetFault_2 fuD_25 ft_5_2 sh_90 rf_90_2 hm (fun h1 hm => ?_)
  refine v_ald_0 dD_forgetFault_5 ?_
  refine v_iconst (x := (-1)) dD_forgetFault_6 rfl ?_
  refine v_putIl dD_forgetFault_7 fuD_29 ft_5_3 sh_90 rf_90_3 hm (fun h2 hm => ?_)
  cases hm
  exact v_ret dD_forgetFault_10 rfl
def mD_wordsOf (p0 : Int32) (h0 : PH) : Option (Nat) :=
  if p0 = 0 then
    some 0
  else
    if p0 = 1 then
      some 1
    else
      if p0 = 2 then
        some 2
      else
        some 3
theorem ctD_wordsOf (G : GG) (d : Nat) (p0 : Int32) (h0 : PH) (r : Nat) (hm : mD_wordsOf p0 h0 = some r) : Kx G tD_wordsOf d [.int p0] h0 (some (.ref (gS G r))) h0 := by
  refine K_of_V (by decide) (by simp [cat_i, cat_r, fmtV_cat]) (by simp [tD_wordsOf]) ?_
  change Vx G tD_wordsOf d 0 [some (.int p0)] [] h0 (some (.ref (gS G r))) h0
  unfold mD_wordsOf at hm
  refine v_ild_0 dD_wordsOf_0 ?_
  refine v_sw dD_wordsOf_1 ?_
  refine v_selc (fun hc => ?_) (fun hc => ?_)
  · replace hm := it hc hm
    refine v_ldcS (i := 0) dD_wordsOf_28 rfl ?_
    cases hm
    exact v_aret dD_wordsOf_30 rfl
  · replace hm := ie hc hm
    refine v_selc (fun hc => ?_) (fun hc => ?_)
    · replace hm := it hc hm
      refine v_ldcS (i := 1) dD_wordsOf_31 rfl ?_
      cases hm
      exact v_aret dD_wordsOf_33 rfl
    · replace hm := ie hc hm
      refine v_selc (fun hc => ?_) (fun hc => ?_)
      · replace hm := it hc hm
        refine v_ldcS (i := 2) dD_wordsOf_34 rfl ?_
        cases hm
        exact v_aret dD_wordsOf_36 rfl
      · replace hm := ie hc hm
        refine v_seln ?_
        refine v_ldcS (i := 3) dD_wordsOf_37 rfl ?_
        cases hm
        exact v_aret dD_wordsOf_39 rfl
theorem wordsOf_lt {p0 : Int32} {h0 : PH} (r : Nat) (_ : Unit) (hm : mD_wordsOf p0 h0 = some r) : r < 5 := by
  unfold mD_wordsOf at hm
  split at hm
  · cases hm; decide
  · split at hm
    · cases hm; decide
    · split at hm
      · cases hm; decide
      · cases hm; decide
def mD_advance (h0 : PH) : Option (PH) :=
  lt (up h0 90 5 ((h0 90 5) + 1)) fun h1 =>
  jn1 (fun (x3 : Int32) =>
    jn1 (fun (x5 : Int32) =>
      lt (up h1 90 6 x5) fun h6 =>
      jn1 (fun (x8 : Int32) =>
        lt (up h6 90 7 x8) fun h9 =>
        some h9) fun j7 =>
      if x3 = 0 then
        j7 0
      else
        ck (h6 90 5) 401 <|
        j7 (h6 88 (ix (h6 90 5)))) fun j4 =>
    if x3 = 0 then
      j4 0
    else
      ck (h1 90 5) 401 <|
      j4 (h1 87 (ix (h1 90 5)))) fun j2 =>
  if (h1 90 5) < 0 then
    j2 0
  else
    if (h1 85 5) ≤ (h1 90 5) then
      j2 0
    else
      if 400 < (h1 90 5) then
        j2 0
      else
        j2 1
theorem ctD_advance (G : GG) (d : Nat) (h0 : PH) (r : PH) (hm : mD_advance h0 = some r) : Kx G tD_advance d [.ref (gB G + 90)] h0 none r := by
  refine K_of_V (by decide) (by simp [cat_i, cat_r, fmtV_cat]) (by simp [tD_advance]) ?_
  change Vx G tD_advance d 0 [some (.ref (gB G + 90)), none] [] h0 none r
  unfold mD_advance at hm
  refine v_ald_0 dD_advance_0 ?_
  refine v_dup dD_advance_1 rfl ?_
  refine v_getI dD_advance_2 fuD_51 sh_90 rf_90_5 ?_
  refine v_iconst (x := 1) dD_advance_5 rfl ?_
  refine v_iadd dD_advance_6 ?_
  refine v_putIl dD_advance_7 fuD_51 ft_5_5 sh_90 rf_90_5 hm (fun h1 hm => ?_)
  refine v_ald_0 dD_advance_10 ?_
  refine v_getI dD_advance_11 fuD_51 sh_90 rf_90_5 ?_
  refine v_j1 (fun (x3 : Int32) => Vx G tD_advance d 46 [some (.ref (gB G + 90)), none] [.int x3] h1 none r) hm (fun x3 hm => ?_) (fun j2 kj2 hm => ?_)
  · refine v_ist_1 dD_advance_46 (by decide) rfl ?_
    refine v_ald_0 dD_advance_47 ?_
    refine v_ild_1 dD_advance_48 ?_
    refine v_j1 (fun (x5 : Int32) => Vx G tD_advance d 68 [some (.ref (gB G + 90)), some (.int x3)] [.int x5, .ref (gB G + 90)] h1 none r) hm (fun x5 hm => ?_) (fun j4 kj4 hm => ?_)
    · refine v_putIl dD_advance_68 fuD_57 ft_5_6 sh_90 rf_90_6 hm (fun h6 hm => ?_)
      refine v_ald_0 dD_advance_71 ?_
      refine v_ild_1 dD_advance_72 ?_
      refine v_j1 (fun (x8 : Int32) => Vx G tD_advance d 92 [none, none] [.int x8, .ref (gB G + 90)] h6 none r) hm (fun x8 hm => ?_) (fun j7 kj7 hm => ?_)
      · refine v_putIl dD_advance_92 fuD_60 ft_5_7 sh_90 rf_90_7 hm (fun h9 hm => ?_)
        cases hm
        exact v_ret dD_advance_95 rfl
      · refine v_if_eq dD_advance_73 (fun hc => ?_) (fun hc => ?_)
        · replace hm := it hc hm
          refine v_iconst (x := 0) dD_advance_91 rfl ?_
          exact v_kw (kj7 _ hm) (wk_n (wk_n wk_e))
        · replace hm := ie hc hm
          refine v_ald_0 dD_advance_76 ?_
          refine v_getR dD_advance_77 fuD_32 sh_90 rf_90_4 ?_
          refine v_getR dD_advance_80 fuD_137 sh_85 rf_85_2 ?_
          refine v_ald_0 dD_advance_83 ?_
          refine v_getI dD_advance_84 fuD_51 sh_90 rf_90_5 ?_
          obtain ⟨hi, hm⟩ := ck_s hm
          refine v_iald dD_advance_87 sh_88 hi ?_
          refine v_goto dD_advance_88 ?_
          exact v_kw (kj7 _ hm) (wk_n (wk_n wk_e))
    · refine v_if_eq dD_advance_49 (fun hc => ?_) (fun hc => ?_)
      · replace hm := it hc hm
        refine v_iconst (x := 0) dD_advance_67 rfl ?_
        exact v_kw (kj4 _ hm) (wk_s (wk_s wk_e))
      · replace hm := ie hc hm
        refine v_ald_0 dD_advance_52 ?_
        refine v_getR dD_advance_53 fuD_32 sh_90 rf_90_4 ?_
        refine v_getR dD_advance_56 fuD_133 sh_85 rf_85_1 ?_
        refine v_ald_0 dD_advance_59 ?_
        refine v_getI dD_advance_60 fuD_51 sh_90 rf_90_5 ?_
        obtain ⟨hi, hm⟩ := ck_s hm
        refine v_iald dD_advance_63 sh_87 hi ?_
        refine v_goto dD_advance_64 ?_
        exact v_kw (kj4 _ hm) (wk_s (wk_s wk_e))
  · refine v_if_lt dD_advance_14 (fun hc => ?_) (fun hc => ?_)
    · replace hm := it hc hm
      refine v_iconst (x := 0) dD_advance_45 rfl ?_
      exact v_kw (kj2 _ hm) (wk_s (wk_n wk_e))
    · replace hm := ie hc hm
      refine v_ald_0 dD_advance_17 ?_
      refine v_getI dD_advance_18 fuD_51 sh_90 rf_90_5 ?_
      refine v_ald_0 dD_advance_21 ?_
      refine v_getR dD_advance_22 fuD_32 sh_90 rf_90_4 ?_
      refine v_getI dD_advance_25 fuD_130 sh_85 rf_85_5 ?_
      refine v_cmp_ge dD_advance_28 (fun hc => ?_) (fun hc => ?_)
      · replace hm := it hc hm
        refine v_iconst (x := 0) dD_advance_45 rfl ?_
        exact v_kw (kj2 _ hm) (wk_s (wk_n wk_e))
      · replace hm := ie hc hm
        refine v_ald_0 dD_advance_31 ?_
        refine v_getI dD_advance_32 fuD_51 sh_90 rf_90_5 ?_
        refine v_sipush (x := 400) dD_advance_35 rfl ?_
        refine v_cmp_gt dD_advance_38 (fun hc => ?_) (fun hc => ?_)
        · replace hm := it hc hm
          refine v_iconst (x := 0) dD_advance_45 rfl ?_
          exact v_kw (kj2 _ hm) (wk_s (wk_n wk_e))
        · replace hm := ie hc hm
          refine v_iconst (x := 1) dD_advance_41 rfl ?_
          refine v_goto dD_advance_42 ?_
          exact v_kw (kj2 _ hm) (wk_s (wk_n wk_e))
def mD_refuse (p1 : Int32) (h0 : PH) : Option (Int32 × PH) :=
  lt (up h0 90 2 p1) fun h1 =>
  jn1 (fun (x3 : Int32) =>
    lt (up h1 90 3 x3) fun h4 =>
    some (0, h4)) fun j2 =>
  if (h1 90 5) < 0 then
    j2 (h1 85 4)
  else
    if (h1 85 5) ≤ (h1 90 5) then
      j2 (h1 85 4)
    else
      if 400 < (h1 90 5) then
        j2 (h1 85 4)
      else
        ck (h1 90 5) 401 <|
        j2 (h1 89 (ix (h1 90 5)))
theorem ctD_refuse (G : GG) (d : Nat) (p1 : Int32) (h0 : PH) (r : Int32 × PH) (hm : mD_refuse p1 h0 = some r) : Kx G tD_refuse d [.ref (gB G + 90), .int p1] h0 (some (.int r.1)) r.2 := by
  refine K_of_V (by decide) (by simp [cat_i, cat_r, fmtV_cat]) (by simp [tD_refuse]) ?_
  change Vx G tD_refuse d 0 [some (.ref (gB G + 90)), some (.int p1)] [] h0 (some (.int r.1)) r.2
  unfold mD_refuse at hm
  refine v_ald_0 dD_refuse_0 ?_
  refine v_ild_1 dD_refuse_1 ?_
  refine v_putIl dD_refuse_2 fuD_25 ft_5_2 sh_90 rf_90_2 hm (fun h1 hm => ?_)
  refine v_ald_0 dD_refuse_5 ?_
  refine v_ald_0 dD_refuse_6 ?_
  refine v_getI dD_refuse_7 fuD_51 sh_90 rf_90_5 ?_
  refine v_j1 (fun (x3 : Int32) => Vx G tD_refuse d 59 [none, none] [.int x3, .ref (gB G + 90)] h1 (some (.int r.1)) r.2) hm (fun x3 hm => ?_) (fun j2 kj2 hm => ?_)
  · refine v_putIl dD_refuse_59 fuD_29 ft_5_3 sh_90 rf_90_3 hm (fun h4 hm => ?_)
    refine v_iconst (x := 0) dD_refuse_62 rfl ?_
    cases hm
    exact v_zret0 dD_refuse_63 rfl
  · refine v_if_lt dD_refuse_10 (fun hc => ?_) (fun hc => ?_)
    · replace hm := it hc hm
      refine v_ald_0 dD_refuse_52 ?_
      refine v_getR dD_refuse_53 fuD_32 sh_90 rf_90_4 ?_
      refine v_getI dD_refuse_56 fuD_143 sh_85 rf_85_4 ?_
      exact v_kw (kj2 _ hm) (wk_n (wk_n wk_e))
    · replace hm := ie hc hm
      refine v_ald_0 dD_refuse_13 ?_
      refine v_getI dD_refuse_14 fuD_51 sh_90 rf_90_5 ?_
      refine v_ald_0 dD_refuse_17 ?_
      refine v_getR dD_refuse_18 fuD_32 sh_90 rf_90_4 ?_
      refine v_getI dD_refuse_21 fuD_130 sh_85 rf_85_5 ?_
      refine v_cmp_ge dD_refuse_24 (fun hc => ?_) (fun hc => ?_)
      · replace hm := it hc hm
        refine v_ald_0 dD_refuse_52 ?_
        refine v_getR dD_refuse_53 fuD_32 sh_90 rf_90_4 ?_
        refine v_getI dD_refuse_56 fuD_143 sh_85 rf_85_4 ?_
        exact v_kw (kj2 _ hm) (wk_n (wk_n wk_e))
      · replace hm := ie hc hm
        refine v_ald_0 dD_refuse_27 ?_
        refine v_getI dD_refuse_28 fuD_51 sh_90 rf_90_5 ?_
        refine v_sipush (x := 400) dD_refuse_31 rfl ?_
        refine v_cmp_gt dD_refuse_34 (fun hc => ?_) (fun hc => ?_)
        · replace hm := it hc hm
          refine v_ald_0 dD_refuse_52 ?_
          refine v_getR dD_refuse_53 fuD_32 sh_90 rf_90_4 ?_
          refine v_getI dD_refuse_56 fuD_143 sh_85 rf_85_4 ?_
          exact v_kw (kj2 _ hm) (wk_n (wk_n wk_e))
        · replace hm := ie hc hm
          refine v_ald_0 dD_refuse_37 ?_
          refine v_getR dD_refuse_38 fuD_32 sh_90 rf_90_4 ?_
          refine v_getR dD_refuse_41 fuD_140 sh_85 rf_85_3 ?_
          refine v_ald_0 dD_refuse_44 ?_
          refine v_getI dD_refuse_45 fuD_51 sh_90 rf_90_5 ?_
          obtain ⟨hi, hm⟩ := ck_s hm
          refine v_iald dD_refuse_48 sh_89 hi ?_
          refine v_goto dD_refuse_49 ?_
          exact v_kw (kj2 _ hm) (wk_n (wk_n wk_e))
def mD_unit (h0 : PH) : Option (Int32 × PH) :=
  jn1 (fun (h2 : PH) =>
    bd (mD_advance h2) fun h3 =>
    some (1, h3)) fun j1 =>
  if (h0 90 6) = 2 then
    bd2 (mR_add 93 0 (h0 90 7) 0 0 0 h0) fun r4 h5 =>
    j1 h5
  else
    jn0 (bd2 (mD_refuse 1 h0) fun r7 h8 =>
      some (nb r7, h8)) fun j6 =>
    if (h0 90 6) = 1 then
      if (h0 90 7) < 7 then
        j6
      else
        bd2 (mR_add 93 1 ((h0 90 7) - 7) 0 0 0 h0) fun r9 h10 =>
        j1 h10
    else
      j6
theorem ctD_unit (G : GG) (d : Nat) (h0 : PH) (r : Int32 × PH) (hm : mD_unit h0 = some r) : Kx G tD_unit (d + 1) [.ref (gB G + 90)] h0 (some (.int r.1)) r.2 := by
  refine K_of_V (by decide) (by simp [cat_i, cat_r, fmtV_cat]) (by simp [tD_unit]) ?_
  change Vx G tD_unit (d + 1) 0 [some (.ref (gB G + 90))] [] h0 (some (.int r.1)) r.2
  unfold mD_unit at hm
  refine v_ald_0 dD_unit_0 ?_
  refine v_getI dD_unit_1 fuD_57 sh_90 rf_90_6 ?_
  refine v_iconst (x := 2) dD_unit_4 rfl ?_
  refine v_j1 (fun (h2 : PH) => Vx G tD_unit (d + 1) 72 [some (.ref (gB G + 90))] [] h2 (some (.int r.1)) r.2) hm (fun h2 hm => ?_) (fun j1 kj1 hm => ?_)
  · refine v_ald_0 dD_unit_72 ?_
    obtain ⟨h3, he, hm⟩ := bd_s hm
    refine v_cv0v (M' := tD_advance) dD_unit_73 mlD_54 okD_advance sh_90 hc_5 (Nat.le_of_ble_eq_true rfl) (ctD_advance G d _ _ he) ?_
    refine v_iconst (x := 1) dD_unit_76 rfl ?_
    cases hm
    exact v_zret1 dD_unit_77 rfl
  · refine v_cmp_ne dD_unit_5 (fun hc => ?_) (fun hc => ?_)
    · replace hm := it hc hm
      refine v_ald_0 dD_unit_8 ?_
      refine v_getR dD_unit_9 fuD_22 sh_90 rf_90_1 ?_
      refine v_iconst (x := 0) dD_unit_12 rfl ?_
      refine v_ald_0 dD_unit_13 ?_
      refine v_getI dD_unit_14 fuD_60 sh_90 rf_90_7 ?_
      refine v_iconst (x := 0) dD_unit_17 rfl ?_
      refine v_iconst (x := 0) dD_unit_18 rfl ?_
      refine v_iconst (x := 0) dD_unit_19 rfl ?_
      obtain ⟨r4, h5, he, hm⟩ := bd2_s hm
      refine v_cv5i (M' := tR_add) dD_unit_20 mlD_101 okR_add sh_93 hc_6 (Nat.le_of_ble_eq_true rfl) (ctR_add G d _ _ _ _ _ _ sh_93 _ _ he) ?_
      refine v_pop dD_unit_23 rfl ?_
      refine v_goto dD_unit_24 ?_
      exact v_kw (kj1 _ hm) (wk_s wk_e)
    · replace hm := ie hc hm
      refine v_ald_0 dD_unit_27 ?_
      refine v_getI dD_unit_28 fuD_57 sh_90 rf_90_6 ?_
      refine v_iconst (x := 1) dD_unit_31 rfl ?_
      refine v_j0 (Vx G tD_unit (d + 1) 66 [some (.ref (gB G + 90))] [] h0 (some (.int r.1)) r.2) hm (fun hm => ?_) (fun j6 kj6 hm => ?_)
      · refine v_ald_0 dD_unit_66 ?_
        refine v_iconst (x := 1) dD_unit_67 rfl ?_
        obtain ⟨r7, h8, he, hm⟩ := bd2_s hm
        refine v_cv1i (M' := tD_refuse) dD_unit_68 mlD_63 okD_refuse sh_90 hc_5 (Nat.le_of_ble_eq_true rfl) (ctD_refuse G d _ _ _ he) ?_
        cases hm
        exact v_zret dD_unit_71 rfl
      · refine v_cmp_ne dD_unit_32 (fun hc => ?_) (fun hc => ?_)
        · replace hm := it hc hm
          refine v_ald_0 dD_unit_35 ?_
          refine v_getI dD_unit_36 fuD_60 sh_90 rf_90_7 ?_
          refine v_bipush (x := 7) dD_unit_39 rfl ?_
          refine v_cmp_lt dD_unit_41 (fun hc => ?_) (fun hc => ?_)
          · replace hm := it hc hm
            exact v_kw (kj6 hm) (wk_s wk_e)
          · replace hm := ie hc hm
            refine v_ald_0 dD_unit_44 ?_
            refine v_getR dD_unit_45 fuD_22 sh_90 rf_90_1 ?_
            refine v_iconst (x := 1) dD_unit_48 rfl ?_
            refine v_ald_0 dD_unit_49 ?_
            refine v_getI dD_unit_50 fuD_60 sh_90 rf_90_7 ?_
            refine v_bipush (x := 7) dD_unit_53 rfl ?_
            refine v_isub dD_unit_55 ?_
            refine v_iconst (x := 0) dD_unit_56 rfl ?_
            refine v_iconst (x := 0) dD_unit_57 rfl ?_
            refine v_iconst (x := 0) dD_unit_58 rfl ?_
            obtain ⟨r9, h10, he, hm⟩ := bd2_s hm
            refine v_cv5i (M' := tR_add) dD_unit_59 mlD_101 okR_add sh_93 hc_6 (Nat.le_of_ble_eq_true rfl) (ctR_add G d _ _ _ _ _ _ sh_93 _ _ he) ?_
            refine v_pop dD_unit_62 rfl ?_
            refine v_goto dD_unit_63 ?_
            exact v_kw (kj1 _ hm) (wk_s wk_e)
        · replace hm := ie hc hm
          exact v_kw (kj6 hm) (wk_s wk_e)
def mD_isSign (p1 : Int32) (h0 : PH) : Option (Int32) :=
  if (h0 90 6) = 3 then
    if (h0 90 7) = p1 then
      some 1
    else
      some 0
  else
    some 0
theorem ctD_isSign (G : GG) (d : Nat) (p1 : Int32) (h0 : PH) (r : Int32) (hm : mD_isSign p1 h0 = some r) : Kx G tD_isSign d [.ref (gB G + 90), .int p1] h0 (some (.int r)) h0 := by
  refine K_of_V (by decide) (by simp [cat_i, cat_r, fmtV_cat]) (by simp [tD_isSign]) ?_
  change Vx G tD_isSign d 0 [some (.ref (gB G + 90)), some (.int p1)] [] h0 (some (.int r)) h0
  unfold mD_isSign at hm
  refine v_ald_0 dD_isSign_0 ?_
  refine v_getI dD_isSign_1 fuD_57 sh_90 rf_90_6 ?_
  refine v_iconst (x := 3) dD_isSign_4 rfl ?_
  refine v_cmp_ne dD_isSign_5 (fun hc => ?_) (fun hc => ?_)
  · replace hm := it hc hm
    refine v_ald_0 dD_isSign_8 ?_
    refine v_getI dD_isSign_9 fuD_60 sh_90 rf_90_7 ?_
    refine v_ild_1 dD_isSign_12 ?_
    refine v_cmp_ne dD_isSign_13 (fun hc => ?_) (fun hc => ?_)
    · replace hm := it hc hm
      refine v_iconst (x := 1) dD_isSign_16 rfl ?_
      refine v_goto dD_isSign_17 ?_
      cases hm
      exact v_zret1 dD_isSign_21 rfl
    · replace hm := ie hc hm
      refine v_iconst (x := 0) dD_isSign_20 rfl ?_
      cases hm
      exact v_zret0 dD_isSign_21 rfl
  · replace hm := ie hc hm
    refine v_iconst (x := 0) dD_isSign_20 rfl ?_
    cases hm
    exact v_zret0 dD_isSign_21 rfl
def mD_takesNumber (p1 : Int32) (p2 : Int32) (h0 : PH) : Option (Int32 × PH) :=
  if (h0 90 6) = 2 then
    bd (mX_within (h0 90 7) p1 p2 h0) fun r1 =>
    if r1 = 0 then
      bd2 (mD_refuse 2 h0) fun r2 h3 =>
      some (nb r2, h3)
    else
      lt (up h0 90 9 (h0 90 7)) fun h4 =>
      bd (mD_advance h4) fun h5 =>
      some (1, h5)
  else
    bd2 (mD_refuse 1 h0) fun r6 h7 =>
    some (nb r6, h7)
theorem ctD_takesNumber (G : GG) (d : Nat) (p1 : Int32) (p2 : Int32) (h0 : PH) (r : Int32 × PH) (hm : mD_takesNumber p1 p2 h0 = some r) : Kx G tD_takesNumber (d + 1) [.ref (gB G + 90), .int p1, .int p2] h0 (some (.int r.1)) r.2 := by
  refine K_of_V (by decide) (by simp [cat_i, cat_r, fmtV_cat]) (by simp [tD_takesNumber]) ?_
  change Vx G tD_takesNumber (d + 1) 0 [some (.ref (gB G + 90)), some (.int p1), some (.int p2)] [] h0 (some (.int r.1)) r.2
  unfold mD_takesNumber at hm
  refine v_ald_0 dD_takesNumber_0 ?_
  refine v_getI dD_takesNumber_1 fuD_57 sh_90 rf_90_6 ?_
  refine v_iconst (x := 2) dD_takesNumber_4 rfl ?_
  refine v_cmp_eq dD_takesNumber_5 (fun hc => ?_) (fun hc => ?_)
  · replace hm := it hc hm
    refine v_ald_0 dD_takesNumber_14 ?_
    refine v_getI dD_takesNumber_15 fuD_60 sh_90 rf_90_7 ?_
    refine v_ild_1 dD_takesNumber_18 ?_
    refine v_ild_2 dD_takesNumber_19 ?_
    obtain ⟨r1, he, hm⟩ := bd_s hm
    refine v_cn3i (M' := tX_within) dD_takesNumber_20 mlD_112 okX_within (Nat.le_of_ble_eq_true rfl) (ctX_within G d _ _ _ _ _ he) ?_
    refine v_if_ne dD_takesNumber_23 (fun hc => ?_) (fun hc => ?_)
    · replace hm := it hc hm
      refine v_ald_0 dD_takesNumber_26 ?_
      refine v_iconst (x := 2) dD_takesNumber_27 rfl ?_
      obtain ⟨r2, h3, he, hm⟩ := bd2_s hm
      refine v_cv1i (M' := tD_refuse) dD_takesNumber_28 mlD_63 okD_refuse sh_90 hc_5 (Nat.le_of_ble_eq_true rfl) (ctD_refuse G d _ _ _ he) ?_
      cases hm
      exact v_zret dD_takesNumber_31 rfl
    · replace hm := ie hc hm
      refine v_ald_0 dD_takesNumber_32 ?_
      refine v_ald_0 dD_takesNumber_33 ?_
      refine v_getI dD_takesNumber_34 fuD_60 sh_90 rf_90_7 ?_
      refine v_putIl dD_takesNumber_37 fuD_109 ft_5_9 sh_90 rf_90_9 hm (fun h4 hm => ?_)
      refine v_ald_0 dD_takesNumber_40 ?_
      obtain ⟨h5, he, hm⟩ := bd_s hm
      refine v_cv0v (M' := tD_advance) dD_takesNumber_41 mlD_54 okD_advance sh_90 hc_5 (Nat.le_of_ble_eq_true rfl) (ctD_advance G d _ _ he) ?_
      refine v_iconst (x := 1) dD_takesNumber_44 rfl ?_
      cases hm
      exact v_zret1 dD_takesNumber_45 rfl
  · replace hm := ie hc hm
    refine v_ald_0 dD_takesNumber_8 ?_
    refine v_iconst (x := 1) dD_takesNumber_9 rfl ?_
    obtain ⟨r6, h7, he, hm⟩ := bd2_s hm
    refine v_cv1i (M' := tD_refuse) dD_takesNumber_10 mlD_63 okD_refuse sh_90 hc_5 (Nat.le_of_ble_eq_true rfl) (ctD_refuse G d _ _ _ he) ?_
    cases hm
    exact v_zret dD_takesNumber_13 rfl
def mD_emit (p1 : Int32) (p2 : Int32) (h0 : PH) : Option (Int32 × PH) :=
  bd2 (mR_add 93 p1 p2 0 0 0 h0) fun r1 h2 =>
  some (nb r1, h2)
theorem ctD_emit (G : GG) (d : Nat) (p1 : Int32) (p2 : Int32) (h0 : PH) (r : Int32 × PH) (hm : mD_emit p1 p2 h0 = some r) : Kx G tD_emit (d + 1) [.ref (gB G + 90), .int p1, .int p2] h0 (some (.int r.1)) r.2 := by
  refine K_of_V (by decide) (by simp [cat_i, cat_r, fmtV_cat]) (by simp [tD_emit]) ?_
  change Vx G tD_emit (d + 1) 0 [some (.ref (gB G + 90)), some (.int p1), some (.int p2)] [] h0 (some (.int r.1)) r.2
  unfold mD_emit at hm
  refine v_ald_0 dD_emit_0 ?_
  refine v_getR dD_emit_1 fuD_22 sh_90 rf_90_1 ?_
  refine v_ild_1 dD_emit_4 ?_
  refine v_ild_2 dD_emit_5 ?_
  refine v_iconst (x := 0) dD_emit_6 rfl ?_
  refine v_iconst (x := 0) dD_emit_7 rfl ?_
  refine v_iconst (x := 0) dD_emit_8 rfl ?_
  obtain ⟨r1, h2, he, hm⟩ := bd2_s hm
  refine v_cv5i (M' := tR_add) dD_emit_9 mlD_101 okR_add sh_93 hc_6 (Nat.le_of_ble_eq_true rfl) (ctR_add G d _ _ _ _ _ _ sh_93 _ _ he) ?_
  cases hm
  exact v_zret dD_emit_12 rfl
def mD_expression_L13 (k0 : Int32 → PH → Option (Int32 × PH)) : Nat → Int32 → Int32 → PH → Option (Int32 × PH)
  | 0, _, _, _ => none
  | n + 1, v1, v2, hv =>
    if 400 ≤ v2 then
      k0 v1 hv
    else
      bd (mD_isSign 43 hv) fun r3 =>
      jn0 (lt (hv 90 7) fun x5 =>
        bd (mD_advance hv) fun h6 =>
        if x5 = 47 then
          bd2 (mD_takesNumber 1 9999 h6) fun r7 h8 =>
          if r7 = 0 then
            some (0, h8)
          else
            bd2 (mD_emit 5 (h8 90 9) h8) fun r9 h10 =>
            mD_expression_L13 k0 n v1 (v2 + 1) h10
        else
          jn2 (fun (x12 : Int32) (h13 : PH) =>
            bd2 (mD_unit h13) fun r14 h15 =>
            if r14 = 0 then
              some (0, h15)
            else
              if x5 = 42 then
                bd2 (mD_emit 4 0 h15) fun r16 h17 =>
                mD_expression_L13 k0 n x12 (v2 + 1) h17
              else
                mD_expression_L13 k0 n x12 (v2 + 1) h15) fun j11 =>
          if x5 = 42 then
            j11 v1 h6
          else
            jn1 (fun (h19 : PH) =>
              if x5 = 43 then
                j11 2 h19
              else
                j11 3 h19) fun j18 =>
            if v1 = (-1) then
              j18 h6
            else
              bd2 (mD_emit v1 0 h6) fun r20 h21 =>
              j18 h21) fun j4 =>
      if r3 = 0 then
        bd (mD_isSign 45 hv) fun r22 =>
        if r22 = 0 then
          bd (mD_isSign 42 hv) fun r23 =>
          if r23 = 0 then
            bd (mD_isSign 47 hv) fun r24 =>
            if r24 = 0 then
              k0 v1 hv
            else
              j4
          else
            j4
        else
          j4
      else
        j4
