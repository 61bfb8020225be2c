def mQ_checkIndex (p0 : Int32) (p1 : Int32) (h0 : PH) : Option (Int32) :=
  jn0 (none) fun j1 =>
  if p0 < 0 then
    j1
  else
    if p0 < p1 then
      some p0
    else
      j1
theorem ctQ_checkIndex (G : GG) (d : Nat) (p0 : Int32) (p1 : Int32) (h0 : PH) (r : Int32) (hm : mQ_checkIndex p0 p1 h0 = some r) : Kx G tQ_checkIndex d [.int p0, .int p1, fmtV G] h0 (some (.int r)) h0 := by
  refine K_of_V (by decide) (by simp [cat_i, cat_r, fmtV_cat]) (by simp [tQ_checkIndex]) ?_
  change Vx G tQ_checkIndex d 0 [some (.int p0), some (.int p1), some (fmtV G)] [] h0 (some (.int r)) h0
  unfold mQ_checkIndex at hm
  refine v_ild_0 dQ_checkIndex_0 ?_
  refine v_j0 (Vx G tQ_checkIndex d 9 [some (.int p0), some (.int p1), some (fmtV G)] [] h0 (some (.int r)) h0) hm (fun hm => ?_) (fun j1 kj1 hm => ?_)
  · cases hm
  · refine v_if_lt dQ_checkIndex_1 (fun hc => ?_) (fun hc => ?_)
    · replace hm := it hc hm
      exact v_kw (kj1 hm) (wk_s (wk_s (wk_s wk_e)))
    · replace hm := ie hc hm
      refine v_ild_0 dQ_checkIndex_4 ?_
      refine v_ild_1 dQ_checkIndex_5 ?_
      refine v_cmp_lt dQ_checkIndex_6 (fun hc => ?_) (fun hc => ?_)
      · replace hm := it hc hm
        refine v_ild_0 dQ_checkIndex_16 ?_
        cases hm
        exact v_iret dQ_checkIndex_17 rfl
      · replace hm := ie hc hm
        exact v_kw (kj1 hm) (wk_s (wk_s (wk_s wk_e)))
def mG_isLatin1 (s0 : Nat) (h0 : PH) : Option (Int32) :=
  if (1 : Int32) = 0 then
    some 0
  else
    if (0 : Int32) = 0 then
      some 1
    else
      some 0
theorem ctG_isLatin1 (G : GG) (d : Nat) (s0 : Nat) (q0 : s0 < 5) (h0 : PH) (r : Int32) (hm : mG_isLatin1 s0 h0 = some r) : Kx G tG_isLatin1 d [.ref (gS G s0)] h0 (some (.int r)) h0 := by
  refine K_of_V (by decide) (by simp [cat_i, cat_r, fmtV_cat]) (by simp [tG_isLatin1]) ?_
  change Vx G tG_isLatin1 d 0 [some (.ref (gS G s0))] [] h0 (some (.int r)) h0
  unfold mG_isLatin1 at hm
  refine v_getCS dG_isLatin1_0 flG_38 ?_
  refine v_if_eq dG_isLatin1_3 (fun hc => ?_) (fun hc => ?_)
  · replace hm := it hc hm
    refine v_iconst (x := 0) dG_isLatin1_17 rfl ?_
    cases hm
    exact v_zret0 dG_isLatin1_18 rfl
  · replace hm := ie hc hm
    refine v_ald_0 dG_isLatin1_6 ?_
    refine v_getCoder dG_isLatin1_7 flG_15 q0 ?_
    refine v_if_ne dG_isLatin1_10 (fun hc => ?_) (fun hc => ?_)
    · replace hm := it hc hm
      refine v_iconst (x := 1) dG_isLatin1_13 rfl ?_
      refine v_goto dG_isLatin1_14 ?_
      cases hm
      exact v_zret1 dG_isLatin1_18 rfl
    · replace hm := ie hc hm
      refine v_iconst (x := 0) dG_isLatin1_17 rfl ?_
      cases hm
      exact v_zret0 dG_isLatin1_18 rfl
def mG_checkIndex (p0 : Int32) (p1 : Int32) (h0 : PH) : Option (Unit) :=
  bd (mQ_checkIndex p0 p1 h0) fun r1 =>
  some ()
theorem ctG_checkIndex (G : GG) (d : Nat) (p0 : Int32) (p1 : Int32) (h0 : PH) (r : Unit) (hm : mG_checkIndex p0 p1 h0 = some r) : Kx G tG_checkIndex (d + 1) [.int p0, .int p1] h0 none h0 := by
  refine K_of_V (by decide) (by simp [cat_i, cat_r, fmtV_cat]) (by simp [tG_checkIndex]) ?_
  change Vx G tG_checkIndex (d + 1) 0 [some (.int p0), some (.int p1)] [] h0 none h0
  unfold mG_checkIndex at hm
  refine v_ild_0 dG_checkIndex_0 ?_
  refine v_ild_1 dG_checkIndex_1 ?_
  refine v_getFm dG_checkIndex_2 flG_1053 ?_
  obtain ⟨r1, he, hm⟩ := bd_s hm
  refine v_cs3i (M' := tQ_checkIndex) dG_checkIndex_5 mlG_1059 okQ_checkIndex (Nat.le_of_ble_eq_true rfl) (ctQ_checkIndex G d _ _ _ _ he) ?_
  refine v_pop dG_checkIndex_8 rfl ?_
  cases hm
  exact v_ret dG_checkIndex_9 rfl
def mH_charAt (s0 : Nat) (p1 : Int32) (h0 : PH) : Option (Int32) :=
  bd (mG_checkIndex p1 (Int32.ofNat (sln s0)) h0) fun _ =>
  ck p1 (sln s0) <|
  some (nc (i2c ((sby s0 (ix p1)) &&& 255)))
theorem ctH_charAt (G : GG) (d : Nat) (s0 : Nat) (p1 : Int32) (q0 : s0 < 5) (h0 : PH) (r : Int32) (hm : mH_charAt s0 p1 h0 = some r) : Kx G tH_charAt (d + 2) [.ref (gV G s0), .int p1] h0 (some (.int r)) h0 := by
  refine K_of_V (by decide) (by simp [cat_i, cat_r, fmtV_cat]) (by simp [tH_charAt]) ?_
  change Vx G tH_charAt (d + 2) 0 [some (.ref (gV G s0)), some (.int p1)] [] h0 (some (.int r)) h0
  unfold mH_charAt at hm
  refine v_ild_1 dH_charAt_0 ?_
  refine v_ald_0 dH_charAt_1 ?_
  refine v_alenT dH_charAt_2 q0 ?_
  obtain ⟨_, he, hm⟩ := bd_s hm
  refine v_cs2v (M' := tG_checkIndex) dH_charAt_3 mlH_9 okG_checkIndex (Nat.le_of_ble_eq_true rfl) (ctG_checkIndex G d _ _ _ _ he) ?_
  refine v_ald_0 dH_charAt_6 ?_
  refine v_ild_1 dH_charAt_7 ?_
  obtain ⟨hi, hm⟩ := ck_s hm
  refine v_baldT dH_charAt_8 q0 hi ?_
  refine v_sipush (x := 255) dH_charAt_9 rfl ?_
  refine v_iand dH_charAt_12 ?_
  refine v_i2c dH_charAt_13 ?_
  cases hm
  exact v_cret dH_charAt_14 rfl
def mG_charAt (s0 : Nat) (p1 : Int32) (h0 : PH) : Option (Int32) :=
  bd (mG_isLatin1 s0 h0) fun r1 =>
  if r1 = 0 then
    none
  else
    bd (mH_charAt s0 p1 h0) fun r2 =>
    some (nc r2)
theorem ctG_charAt (G : GG) (d : Nat) (s0 : Nat) (p1 : Int32) (q0 : s0 < 5) (h0 : PH) (r : Int32) (hm : mG_charAt s0 p1 h0 = some r) : Kx G tG_charAt (d + 3) [.ref (gS G s0), .int p1] h0 (some (.int r)) h0 := by
  refine K_of_V (by decide) (by simp [cat_i, cat_r, fmtV_cat]) (by simp [tG_charAt]) ?_
  change Vx G tG_charAt (d + 3) 0 [some (.ref (gS G s0)), some (.int p1)] [] h0 (some (.int r)) h0
  unfold mG_charAt at hm
  refine v_ald_0 dG_charAt_0 ?_
  obtain ⟨r1, he, hm⟩ := bd_s hm
  refine v_ct0i (M' := tG_isLatin1) dG_charAt_1 mlG_492 okG_isLatin1 q0 rfl (Nat.le_of_ble_eq_true rfl) (ctG_isLatin1 G (d + 2) _ q0 _ _ he) ?_
  refine v_if_eq dG_charAt_4 (fun hc => ?_) (fun hc => ?_)
  · replace hm := it hc hm
    cases hm
  · replace hm := ie hc hm
    refine v_ald_0 dG_charAt_7 ?_
    refine v_getVal dG_charAt_8 flG_9 q0 ?_
    refine v_ild_1 dG_charAt_11 ?_
    obtain ⟨r2, he, hm⟩ := bd_s hm
    refine v_cs2i (M' := tH_charAt) dG_charAt_12 mlG_495 okH_charAt (Nat.le_of_ble_eq_true rfl) (ctH_charAt G d _ _ q0 _ _ he) ?_
    cases hm
    exact v_cret dG_charAt_15 rfl
def mG_coder (s0 : Nat) (h0 : PH) : Option (Int32) :=
  if (1 : Int32) = 0 then
    some (i2b 1)
  else
    some (i2b 0)
theorem ctG_coder (G : GG) (d : Nat) (s0 : Nat) (q0 : s0 < 5) (h0 : PH) (r : Int32) (hm : mG_coder s0 h0 = some r) : Kx G tG_coder d [.ref (gS G s0)] h0 (some (.int r)) h0 := by
  refine K_of_V (by decide) (by simp [cat_i, cat_r, fmtV_cat]) (by simp [tG_coder]) ?_
  change Vx G tG_coder d 0 [some (.ref (gS G s0))] [] h0 (some (.int r)) h0
  unfold mG_coder at hm
  refine v_getCS dG_coder_0 flG_38 ?_
  refine v_if_eq dG_coder_3 (fun hc => ?_) (fun hc => ?_)
  · replace hm := it hc hm
    refine v_iconst (x := 1) dG_coder_13 rfl ?_
    cases hm
    exact v_bret dG_coder_14 rfl
  · replace hm := ie hc hm
    refine v_ald_0 dG_coder_6 ?_
    refine v_getCoder dG_coder_7 flG_15 q0 ?_
    refine v_goto dG_coder_10 ?_
    cases hm
    exact v_bret dG_coder_14 rfl
def mG_length (s0 : Nat) (h0 : PH) : Option (Int32) :=
  bd (mG_coder s0 h0) fun r1 =>
  some ((Int32.ofNat (sln s0)) >>> (r1 &&& 31))
theorem ctG_length (G : GG) (d : Nat) (s0 : Nat) (q0 : s0 < 5) (h0 : PH) (r : Int32) (hm : mG_length s0 h0 = some r) : Kx G tG_length (d + 1) [.ref (gS G s0)] h0 (some (.int r)) h0 := by
  refine K_of_V (by decide) (by simp [cat_i, cat_r, fmtV_cat]) (by simp [tG_length]) ?_
  change Vx G tG_length (d + 1) 0 [some (.ref (gS G s0))] [] h0 (some (.int r)) h0
  unfold mG_length at hm
  refine v_ald_0 dG_length_0 ?_
  refine v_getVal dG_length_1 flG_9 q0 ?_
  refine v_alenT dG_length_4 q0 ?_
  refine v_ald_0 dG_length_5 ?_
  obtain ⟨r1, he, hm⟩ := bd_s hm
  refine v_ct0i (M' := tG_coder) dG_length_6 mlG_335 okG_coder q0 rfl (Nat.le_of_ble_eq_true rfl) (ctG_coder G d _ q0 _ _ he) ?_
  refine v_ishr dG_length_9 ?_
  cases hm
  exact v_iret dG_length_10 rfl
def mH_canEncode (p0 : Int32) (h0 : PH) : Option (Int32) :=
  if p0 < 0 then
    some 0
  else
    if 255 < p0 then
      some 0
    else
      some 1
theorem ctH_canEncode (G : GG) (d : Nat) (p0 : Int32) (h0 : PH) (r : Int32) (hm : mH_canEncode p0 h0 = some r) : Kx G tH_canEncode d [.int p0] h0 (some (.int r)) h0 := by
  refine K_of_V (by decide) (by simp [cat_i, cat_r, fmtV_cat]) (by simp [tH_canEncode]) ?_
  change Vx G tH_canEncode d 0 [some (.int p0)] [] h0 (some (.int r)) h0
  unfold mH_canEncode at hm
  refine v_ild_0 dH_canEncode_0 ?_
  refine v_if_lt dH_canEncode_1 (fun hc => ?_) (fun hc => ?_)
  · replace hm := it hc hm
    refine v_iconst (x := 0) dH_canEncode_15 rfl ?_
    cases hm
    exact v_zret0 dH_canEncode_16 rfl
  · replace hm := ie hc hm
    refine v_ild_0 dH_canEncode_4 ?_
    refine v_sipush (x := 255) dH_canEncode_5 rfl ?_
    refine v_cmp_gt dH_canEncode_8 (fun hc => ?_) (fun hc => ?_)
    · replace hm := it hc hm
      refine v_iconst (x := 0) dH_canEncode_15 rfl ?_
      cases hm
      exact v_zret0 dH_canEncode_16 rfl
    · replace hm := ie hc hm
      refine v_iconst (x := 1) dH_canEncode_11 rfl ?_
      refine v_goto dH_canEncode_12 ?_
      cases hm
      exact v_zret1 dH_canEncode_16 rfl
def mH_indexOfChar_L7 (s0 : Nat) (p3 : Int32) (p4 : Int32) (h0 : PH) : Nat → Int32 → Option (Int32)
  | 0, _ => none
  | n + 1, v5 =>
    if p3 ≤ v5 then
      some (-1)
    else
      ck v5 (sln s0) <|
      if (sby s0 (ix v5)) = p4 then
        some v5
      else
        mH_indexOfChar_L7 s0 p3 p4 h0 n (v5 + 1)
def mH_indexOfChar (s0 : Nat) (p1 : Int32) (p2 : Int32) (p3 : Int32) (h0 : PH) : Option (Int32) :=
  lt (i2b p1) fun x1 =>
  mH_indexOfChar_L7 s0 p3 x1 h0 FU p2
theorem wH_indexOfChar_L7 (G : GG) (d : Nat) (s0 : Nat) (p3 : Int32) (p4 : Int32) (h0 : PH) (q0 : s0 < 5) (r : Int32) : ∀ (n : Nat) (v5 : Int32), mH_indexOfChar_L7 s0 p3 p4 h0 n v5 = some r → Vx G tH_indexOfChar d 7 [some (.ref (gV G s0)), none, none, some (.int p3), some (.int p4), some (.int v5)] [] h0 (some (.int r)) h0 := by
  intro n
  induction n with
  | zero => intro v5 hm; cases hm
  | succ n ih =>
    intro v5 hm
    unfold mH_indexOfChar_L7 at hm
    refine v_ild_5 dH_indexOfChar_7 ?_
    refine v_ild_3 dH_indexOfChar_9 ?_
    refine v_cmp_ge dH_indexOfChar_10 (fun hc => ?_) (fun hc => ?_)
    · replace hm := it hc hm
      refine v_iconst (x := (-1)) dH_indexOfChar_31 rfl ?_
      cases hm
      exact v_iret dH_indexOfChar_32 rfl
    · replace hm := ie hc hm
      refine v_ald_0 dH_indexOfChar_13 ?_
      refine v_ild_5 dH_indexOfChar_14 ?_
      obtain ⟨hi, hm⟩ := ck_s hm
      refine v_baldT dH_indexOfChar_16 q0 hi ?_
      refine v_ild_4 dH_indexOfChar_17 ?_
      refine v_cmp_ne dH_indexOfChar_19 (fun hc => ?_) (fun hc => ?_)
      · replace hm := it hc hm
        refine v_ild_5 dH_indexOfChar_22 ?_
        cases hm
        exact v_iret dH_indexOfChar_24 rfl
      · replace hm := ie hc hm
        refine v_inc_5 1 dH_indexOfChar_25 rfl (by decide) rfl ?_
        refine v_goto dH_indexOfChar_28 ?_
        exact v_kw (ih _ hm) (wk_s (wk_n (wk_n (wk_s (wk_s (wk_s wk_e))))))
theorem ctH_indexOfChar (G : GG) (d : Nat) (s0 : Nat) (p1 : Int32) (p2 : Int32) (p3 : Int32) (q0 : s0 < 5) (h0 : PH) (r : Int32) (hm : mH_indexOfChar s0 p1 p2 p3 h0 = some r) : Kx G tH_indexOfChar d [.ref (gV G s0), .int p1, .int p2, .int p3] h0 (some (.int r)) h0 := by
  refine K_of_V (by decide) (by simp [cat_i, cat_r, fmtV_cat]) (by simp [tH_indexOfChar]) ?_
  change Vx G tH_indexOfChar d 0 [some (.ref (gV G s0)), some (.int p1), some (.int p2), some (.int p3), none, none] [] h0 (some (.int r)) h0
  unfold mH_indexOfChar at hm
  refine v_ild_1 dH_indexOfChar_0 ?_
  refine v_i2b dH_indexOfChar_1 ?_
  refine v_top hm (fun x1 hm => ?_)
  refine v_ist_4 dH_indexOfChar_2 (by decide) rfl ?_
  refine v_ild_2 dH_indexOfChar_4 ?_
  refine v_ist_5 dH_indexOfChar_5 (by decide) rfl ?_
  exact v_kw (wH_indexOfChar_L7 G d _ _ _ _ q0 _ FU _ hm) (wk_s (wk_n (wk_n (wk_s (wk_s (wk_s wk_e))))))
def mH_indexOf (s0 : Nat) (p1 : Int32) (p2 : Int32) (p3 : Int32) (h0 : PH) : Option (Int32) :=
  bd (mH_canEncode p1 h0) fun r1 =>
  if r1 = 0 then
    some (-1)
  else
    lt (imax p2 0) fun x2 =>
    lt (imin p3 (Int32.ofNat (sln s0))) fun x3 =>
    if x2 < x3 then
      bd (mH_indexOfChar s0 p1 x2 x3 h0) fun r4 =>
      some r4
    else
      some (-1)
theorem ctH_indexOf (G : GG) (d : Nat) (s0 : Nat) (p1 : Int32) (p2 : Int32) (p3 : Int32) (q0 : s0 < 5) (h0 : PH) (r : Int32) (hm : mH_indexOf s0 p1 p2 p3 h0 = some r) : Kx G tH_indexOf (d + 1) [.ref (gV G s0), .int p1, .int p2, .int p3] h0 (some (.int r)) h0 := by
  refine K_of_V (by decide) (by simp [cat_i, cat_r, fmtV_cat]) (by simp [tH_indexOf]) ?_
  change Vx G tH_indexOf (d + 1) 0 [some (.ref (gV G s0)), some (.int p1), some (.int p2), some (.int p3)] [] h0 (some (.int r)) h0
  unfold mH_indexOf at hm
  refine v_ild_1 dH_indexOf_0 ?_
  obtain ⟨r1, he, hm⟩ := bd_s hm
  refine v_cs1i (M' := tH_canEncode) dH_indexOf_1 mlH_88 okH_canEncode (Nat.le_of_ble_eq_true rfl) (ctH_canEncode G d _ _ _ he) ?_
  refine v_if_ne dH_indexOf_4 (fun hc => ?_) (fun hc => ?_)
  · replace hm := it hc hm
    refine v_iconst (x := (-1)) dH_indexOf_7 rfl ?_
    cases hm
    exact v_iret dH_indexOf_8 rfl
  · replace hm := ie hc hm
    refine v_ild_2 dH_indexOf_9 ?_
    refine v_iconst (x := 0) dH_indexOf_10 rfl ?_
    refine v_mmax dH_indexOf_11 mlH_92 (Nat.le_of_ble_eq_true rfl) ?_
    refine v_top hm (fun x2 hm => ?_)
    refine v_ist_2 dH_indexOf_14 (by decide) rfl ?_
    refine v_ild_3 dH_indexOf_15 ?_
    refine v_ald_0 dH_indexOf_16 ?_
    refine v_alenT dH_indexOf_17 q0 ?_
    refine v_mmin dH_indexOf_18 mlH_38 (Nat.le_of_ble_eq_true rfl) ?_
    refine v_top hm (fun x3 hm => ?_)
    refine v_ist_3 dH_indexOf_21 (by decide) rfl ?_
    refine v_ild_2 dH_indexOf_22 ?_
    refine v_ild_3 dH_indexOf_23 ?_
    refine v_cmp_lt dH_indexOf_24 (fun hc => ?_) (fun hc => ?_)
    · replace hm := it hc hm
      refine v_ald_0 dH_indexOf_29 ?_
      refine v_ild_1 dH_indexOf_30 ?_
      refine v_ild_2 dH_indexOf_31 ?_
      refine v_ild_3 dH_indexOf_32 ?_
      obtain ⟨r4, he, hm⟩ := bd_s hm
      refine v_cs4i (M' := tH_indexOfChar) dH_indexOf_33 mlH_95 okH_indexOfChar (Nat.le_of_ble_eq_true rfl) (ctH_indexOfChar G d _ _ _ _ q0 _ _ he) ?_
      cases hm
      exact v_iret dH_indexOf_36 rfl
    · replace hm := ie hc hm
      refine v_iconst (x := (-1)) dH_indexOf_27 rfl ?_
      cases hm
      exact v_iret dH_indexOf_28 rfl
def mG_indexOf2 (s0 : Nat) (p1 : Int32) (p2 : Int32) (h0 : PH) : Option (Int32) :=
  bd (mG_isLatin1 s0 h0) fun r1 =>
  if r1 = 0 then
    bd (mG_length s0 h0) fun r2 =>
    none
  else
    bd (mG_length s0 h0) fun r3 =>
    bd (mH_indexOf s0 p1 p2 r3 h0) fun r4 =>
    some r4
theorem ctG_indexOf2 (G : GG) (d : Nat) (s0 : Nat) (p1 : Int32) (p2 : Int32) (q0 : s0 < 5) (h0 : PH) (r : Int32) (hm : mG_indexOf2 s0 p1 p2 h0 = some r) : Kx G tG_indexOf2 (d + 2) [.ref (gS G s0), .int p1, .int p2] h0 (some (.int r)) h0 := by
  refine K_of_V (by decide) (by simp [cat_i, cat_r, fmtV_cat]) (by simp [tG_indexOf2]) ?_
  change Vx G tG_indexOf2 (d + 2) 0 [some (.ref (gS G s0)), some (.int p1), some (.int p2)] [] h0 (some (.int r)) h0
  unfold mG_indexOf2 at hm
  refine v_ald_0 dG_indexOf2_0 ?_
  obtain ⟨r1, he, hm⟩ := bd_s hm
  refine v_ct0i (M' := tG_isLatin1) dG_indexOf2_1 mlG_492 okG_isLatin1 q0 rfl (Nat.le_of_ble_eq_true rfl) (ctG_isLatin1 G (d + 1) _ q0 _ _ he) ?_
  refine v_if_eq dG_indexOf2_4 (fun hc => ?_) (fun hc => ?_)
  · replace hm := it hc hm
    refine v_ald_0 dG_indexOf2_23 ?_
    refine v_getVal dG_indexOf2_24 flG_9 q0 ?_
    refine v_ild_1 dG_indexOf2_27 ?_
    refine v_ild_2 dG_indexOf2_28 ?_
    refine v_ald_0 dG_indexOf2_29 ?_
    obtain ⟨r2, he, hm⟩ := bd_s hm
    refine v_ct0i (M' := tG_length) dG_indexOf2_30 mlG_505 okG_length q0 rfl (Nat.le_of_ble_eq_true rfl) (ctG_length G d _ q0 _ _ he) ?_
    cases hm
  · replace hm := ie hc hm
    refine v_ald_0 dG_indexOf2_7 ?_
    refine v_getVal dG_indexOf2_8 flG_9 q0 ?_
    refine v_ild_1 dG_indexOf2_11 ?_
    refine v_ild_2 dG_indexOf2_12 ?_
    refine v_ald_0 dG_indexOf2_13 ?_
    obtain ⟨r3, he, hm⟩ := bd_s hm
    refine v_ct0i (M' := tG_length) dG_indexOf2_14 mlG_505 okG_length q0 rfl (Nat.le_of_ble_eq_true rfl) (ctG_length G d _ q0 _ _ he) ?_
    obtain ⟨r4, he, hm⟩ := bd_s hm
    refine v_cs4i (M' := tH_indexOf) dG_indexOf2_17 mlG_637 okH_indexOf (Nat.le_of_ble_eq_true rfl) (ctH_indexOf G d _ _ _ _ q0 _ _ he) ?_
    refine v_goto dG_indexOf2_20 ?_
    cases hm
    exact v_iret dG_indexOf2_36 rfl
def mG_indexOf (s0 : Nat) (p1 : Int32) (h0 : PH) : Option (Int32) :=
  bd (mG_indexOf2 s0 p1 0 h0) fun r1 =>
  some r1
theorem ctG_indexOf (G : GG) (d : Nat) (s0 : Nat) (p1 : Int32) (q0 : s0 < 5) (h0 : PH) (r : Int32) (hm : mG_indexOf s0 p1 h0 = some r) : Kx G tG_indexOf (d + 3) [.ref (gS G s0), .int p1] h0 (some (.int r)) h0 := by
  refine K_of_V (by decide) (by simp [cat_i, cat_r, fmtV_cat]) (by simp [tG_indexOf]) ?_
  change Vx G tG_indexOf (d + 3) 0 [some (.ref (gS G s0)), some (.int p1)] [] h0 (some (.int r)) h0
  unfold mG_indexOf at hm
  refine v_ald_0 dG_indexOf_0 ?_
  refine v_ild_1 dG_indexOf_1 ?_
  refine v_iconst (x := 0) dG_indexOf_2 rfl ?_
  obtain ⟨r1, he, hm⟩ := bd_s hm
  refine v_ct2i (M' := tG_indexOf2) dG_indexOf_3 mlG_633 okG_indexOf2 q0 rfl (Nat.le_of_ble_eq_true rfl) (ctG_indexOf2 G d _ _ _ q0 _ _ he) ?_
  cases hm
  exact v_iret dG_indexOf_6 rfl
def mN_bitCount (p0 : Int64) (h0 : PH) : Option (Int32) :=
  lt (p0 - ((lushr p0 1) &&& 6148914691236517205)) fun (x1 : Int64) =>
  lt ((x1 &&& 3689348814741910323) + ((lushr x1 2) &&& 3689348814741910323)) fun (x2 : Int64) =>
  lt ((x2 + (lushr x2 4)) &&& 1085102592571150095) fun (x3 : Int64) =>
  lt (x3 + (lushr x3 8)) fun (x4 : Int64) =>
  lt (x4 + (lushr x4 16)) fun (x5 : Int64) =>
  lt (x5 + (lushr x5 32)) fun (x6 : Int64) =>
  some (((x6).toInt32) &&& 127)
theorem ctN_bitCount (G : GG) (d : Nat) (p0 : Int64) (h0 : PH) (r : Int32) (hm : mN_bitCount p0 h0 = some r) : Kx G tN_bitCount d [.long p0] h0 (some (.int r)) h0 := by
  refine K_of_VL (by decide) (by decide) ?_
  change Vx G tN_bitCount d 0 [some (.long p0), none] [] h0 (some (.int r)) h0
  unfold mN_bitCount at hm
  refine v_lld_0 dN_bitCount_0 ?_
  refine v_lld_0 dN_bitCount_1 ?_
  refine v_iconst (x := 1) dN_bitCount_2 rfl ?_
  refine v_lushr dN_bitCount_3 ?_
  refine v_ldc2 (x := 6148914691236517205) dN_bitCount_4 lcN_314 ?_
  refine v_land dN_bitCount_7 ?_
  refine v_lsub dN_bitCount_8 ?_
  refine v_topl hm (fun x1 hm => ?_)
  refine v_lst_0 dN_bitCount_9 (by decide) ?_
  refine v_lld_0 dN_bitCount_10 ?_
  refine v_ldc2 (x := 3689348814741910323) dN_bitCount_11 lcN_316 ?_
  refine v_land dN_bitCount_14 ?_
  refine v_lld_0 dN_bitCount_15 ?_
  refine v_iconst (x := 2) dN_bitCount_16 rfl ?_
  refine v_lushr dN_bitCount_17 ?_
  refine v_ldc2 (x := 3689348814741910323) dN_bitCount_18 lcN_316 ?_
  refine v_land dN_bitCount_21 ?_
  refine v_ladd dN_bitCount_22 ?_
  refine v_topl hm (fun x2 hm => ?_)
  refine v_lst_0 dN_bitCount_23 (by decide) ?_
  refine v_lld_0 dN_bitCount_24 ?_
  refine v_lld_0 dN_bitCount_25 ?_
  refine v_iconst (x := 4) dN_bitCount_26 rfl ?_
  refine v_lushr dN_bitCount_27 ?_
  refine v_ladd dN_bitCount_28 ?_
  refine v_ldc2 (x := 1085102592571150095) dN_bitCount_29 lcN_318 ?_
  refine v_land dN_bitCount_32 ?_
  refine v_topl hm (fun x3 hm => ?_)
  refine v_lst_0 dN_bitCount_33 (by decide) ?_
  refine v_lld_0 dN_bitCount_34 ?_
  refine v_lld_0 dN_bitCount_35 ?_
  refine v_bipush (x := 8) dN_bitCount_36 rfl ?_
  refine v_lushr dN_bitCount_38 ?_
  refine v_ladd dN_bitCount_39 ?_
  refine v_topl hm (fun x4 hm => ?_)
  refine v_lst_0 dN_bitCount_40 (by decide) ?_
  refine v_lld_0 dN_bitCount_41 ?_
  refine v_lld_0 dN_bitCount_42 ?_
  refine v_bipush (x := 16) dN_bitCount_43 rfl ?_
  refine v_lushr dN_bitCount_45 ?_
  refine v_ladd dN_bitCount_46 ?_
  refine v_topl hm (fun x5 hm => ?_)
  refine v_lst_0 dN_bitCount_47 (by decide) ?_
  refine v_lld_0 dN_bitCount_48 ?_
  refine v_lld_0 dN_bitCount_49 ?_
  refine v_bipush (x := 32) dN_bitCount_50 rfl ?_
  refine v_lushr dN_bitCount_52 ?_
  refine v_ladd dN_bitCount_53 ?_
  refine v_topl hm (fun x6 hm => ?_)
  refine v_lst_0 dN_bitCount_54 (by decide) ?_
  refine v_lld_0 dN_bitCount_55 ?_
  refine v_l2i dN_bitCount_56 ?_
  refine v_bipush (x := 127) dN_bitCount_57 rfl ?_
  refine v_iand dN_bitCount_59 ?_
  cases hm
  exact v_iret dN_bitCount_60 rfl
def mJ_bitCount (p0 : Int32) (h0 : PH) : Option (Int32) :=
  lt (p0 - ((ushr p0 1) &&& 1431655765)) fun x1 =>
  lt ((x1 &&& 858993459) + ((ushr x1 2) &&& 858993459)) fun x2 =>
  lt ((x2 + (ushr x2 4)) &&& 252645135) fun x3 =>
  lt (x3 + (ushr x3 8)) fun x4 =>
  lt (x4 + (ushr x4 16)) fun x5 =>
  some (x5 &&& 63)
theorem ctJ_bitCount (G : GG) (d : Nat) (p0 : Int32) (h0 : PH) (r : Int32) (hm : mJ_bitCount p0 h0 = some r) : Kx G tJ_bitCount d [.int p0] h0 (some (.int r)) h0 := by
  refine K_of_V (by decide) (by simp [cat_i, cat_r, fmtV_cat]) (by simp [tJ_bitCount]) ?_
  change Vx G tJ_bitCount d 0 [some (.int p0)] [] h0 (some (.int r)) h0
  unfold mJ_bitCount at hm
  refine v_ild_0 dJ_bitCount_0 ?_
  refine v_ild_0 dJ_bitCount_1 ?_
  refine v_iconst (x := 1) dJ_bitCount_2 rfl ?_
  refine v_iushr dJ_bitCount_3 ?_
  refine v_ldcw (x := 1431655765) dJ_bitCount_4 lcJ_265 ?_
  refine v_iand dJ_bitCount_7 ?_
  refine v_isub dJ_bitCount_8 ?_
  refine v_top hm (fun x1 hm => ?_)
  refine v_ist_0 dJ_bitCount_9 (by decide) rfl ?_
  refine v_ild_0 dJ_bitCount_10 ?_
  refine v_ldcw (x := 858993459) dJ_bitCount_11 lcJ_266 ?_
  refine v_iand dJ_bitCount_14 ?_
  refine v_ild_0 dJ_bitCount_15 ?_
  refine v_iconst (x := 2) dJ_bitCount_16 rfl ?_
  refine v_iushr dJ_bitCount_17 ?_
  refine v_ldcw (x := 858993459) dJ_bitCount_18 lcJ_266 ?_
  refine v_iand dJ_bitCount_21 ?_
  refine v_iadd dJ_bitCount_22 ?_
  refine v_top hm (fun x2 hm => ?_)
  refine v_ist_0 dJ_bitCount_23 (by decide) rfl ?_
  refine v_ild_0 dJ_bitCount_24 ?_
  refine v_ild_0 dJ_bitCount_25 ?_
  refine v_iconst (x := 4) dJ_bitCount_26 rfl ?_
  refine v_iushr dJ_bitCount_27 ?_
  refine v_iadd dJ_bitCount_28 ?_
  refine v_ldcw (x := 252645135) dJ_bitCount_29 lcJ_267 ?_
  refine v_iand dJ_bitCount_32 ?_
  refine v_top hm (fun x3 hm => ?_)
  refine v_ist_0 dJ_bitCount_33 (by decide) rfl ?_
  refine v_ild_0 dJ_bitCount_34 ?_
  refine v_ild_0 dJ_bitCount_35 ?_
  refine v_bipush (x := 8) dJ_bitCount_36 rfl ?_
  refine v_iushr dJ_bitCount_38 ?_
  refine v_iadd dJ_bitCount_39 ?_
  refine v_top hm (fun x4 hm => ?_)
  refine v_ist_0 dJ_bitCount_40 (by decide) rfl ?_
  refine v_ild_0 dJ_bitCount_41 ?_
  refine v_ild_0 dJ_bitCount_42 ?_
  refine v_bipush (x := 16) dJ_bitCount_43 rfl ?_
  refine v_iushr dJ_bitCount_45 ?_
  refine v_iadd dJ_bitCount_46 ?_
  refine v_top hm (fun x5 hm => ?_)
  refine v_ist_0 dJ_bitCount_47 (by decide) rfl ?_
  refine v_ild_0 dJ_bitCount_48 ?_
  refine v_bipush (x := 63) dJ_bitCount_49 rfl ?_
  refine v_iand dJ_bitCount_51 ?_
  cases hm
  exact v_iret dJ_bitCount_52 rfl
def mB_has (a0 : Nat) (p1 : Int32) (h0 : PH) : Option (Int32) :=
  if p1 < 0 then
    some 0
  else
    if (h0 a0 1) ≤ p1 then
      some 0
    else
      some 1
theorem ctB_has (G : GG) (d : Nat) (a0 : Nat) (p1 : Int32) (q0 : shL[a0]? = some (1, 8)) (h0 : PH) (r : Int32) (hm : mB_has a0 p1 h0 = some r) : Kx G tB_has d [.ref (gB G + a0), .int p1] h0 (some (.int r)) h0 := by
  refine K_of_V (by decide) (by simp [cat_i, cat_r, fmtV_cat]) (by simp [tB_has]) ?_
  change Vx G tB_has d 0 [some (.ref (gB G + a0)), some (.int p1)] [] h0 (some (.int r)) h0
  unfold mB_has at hm
  refine v_ild_1 dB_has_0 ?_
  refine v_if_lt dB_has_1 (fun hc => ?_) (fun hc => ?_)
  · replace hm := it hc hm
    refine v_iconst (x := 0) dB_has_16 rfl ?_
    cases hm
    exact v_zret0 dB_has_17 rfl
  · replace hm := ie hc hm
    refine v_ild_1 dB_has_4 ?_
    refine v_ald_0 dB_has_5 ?_
    refine v_getI dB_has_6 fuB_15 q0 (rf_bor_1 q0) ?_
    refine v_cmp_ge dB_has_9 (fun hc => ?_) (fun hc => ?_)
    · replace hm := it hc hm
      refine v_iconst (x := 0) dB_has_16 rfl ?_
      cases hm
      exact v_zret0 dB_has_17 rfl
    · replace hm := ie hc hm
      refine v_iconst (x := 1) dB_has_12 rfl ?_
      refine v_goto dB_has_13 ?_
      cases hm
      exact v_zret1 dB_has_17 rfl
def mB_read (a0 : Nat) (p1 : Int32) (p2 : Int32) (h0 : PH) : Option (Int32) :=
  if p1 < 0 then
    some 0
  else
    if (h0 a0 1) ≤ p1 then
      some 0
    else
      if p2 < 0 then
        some 0
      else
        if p2 < 11 then
          ck ((p1 * 11) + p2) 132 <|
          some (h0 (a0 + 1) (ix ((p1 * 11) + p2)))
        else
          some 0
theorem ctB_read (G : GG) (d : Nat) (a0 : Nat) (p1 : Int32) (p2 : Int32) (q0 : shL[a0]? = some (1, 8)) (h0 : PH) (r : Int32) (hm : mB_read a0 p1 p2 h0 = some r) : Kx G tB_read d [.ref (gB G + a0), .int p1, .int p2] h0 (some (.int r)) h0 := by
  refine K_of_V (by decide) (by simp [cat_i, cat_r, fmtV_cat]) (by simp [tB_read]) ?_
  change Vx G tB_read d 0 [some (.ref (gB G + a0)), some (.int p1), some (.int p2)] [] h0 (some (.int r)) h0
  unfold mB_read at hm
  refine v_ild_1 dB_read_0 ?_
  refine v_if_lt dB_read_1 (fun hc => ?_) (fun hc => ?_)
  · replace hm := it hc hm
    refine v_iconst (x := 0) dB_read_22 rfl ?_
    cases hm
    exact v_iret dB_read_23 rfl
  · replace hm := ie hc hm
    refine v_ild_1 dB_read_4 ?_
    refine v_ald_0 dB_read_5 ?_
    refine v_getI dB_read_6 fuB_15 q0 (rf_bor_1 q0) ?_
    refine v_cmp_ge dB_read_9 (fun hc => ?_) (fun hc => ?_)
    · replace hm := it hc hm
      refine v_iconst (x := 0) dB_read_22 rfl ?_
      cases hm
      exact v_iret dB_read_23 rfl
    · replace hm := ie hc hm
      refine v_ild_2 dB_read_12 ?_
      refine v_if_lt dB_read_13 (fun hc => ?_) (fun hc => ?_)
      · replace hm := it hc hm
        refine v_iconst (x := 0) dB_read_22 rfl ?_
        cases hm
        exact v_iret dB_read_23 rfl
      · replace hm := ie hc hm
        refine v_ild_2 dB_read_16 ?_
        refine v_bipush (x := 11) dB_read_17 rfl ?_
        refine v_cmp_lt dB_read_19 (fun hc => ?_) (fun hc => ?_)
        · replace hm := it hc hm
          refine v_ald_0 dB_read_24 ?_
          refine v_getR dB_read_25 fuB_11 q0 (rf_bor_0 q0) ?_
          refine v_ild_1 dB_read_28 ?_
          refine v_bipush (x := 11) dB_read_29 rfl ?_
          refine v_imul dB_read_31 ?_
          refine v_ild_2 dB_read_32 ?_
          refine v_iadd dB_read_33 ?_
          obtain ⟨hi, hm⟩ := ck_s hm
          refine v_iald dB_read_34 (sh_bor q0) hi ?_
          cases hm
          exact v_iret dB_read_35 rfl
        · replace hm := ie hc hm
          refine v_iconst (x := 0) dB_read_22 rfl ?_
          cases hm
          exact v_iret dB_read_23 rfl
def mB_write (a0 : Nat) (p1 : Int32) (p2 : Int32) (p3 : Int32) (h0 : PH) : Option (PH) :=
  if p1 < 0 then
    some h0
  else
    if (h0 a0 1) ≤ p1 then
      some h0
    else
      if p2 < 0 then
        some h0
      else
        if 11 ≤ p2 then
          some h0
        else
          ck ((p1 * 11) + p2) 132 <|
          lt (up h0 (a0 + 1) (ix ((p1 * 11) + p2)) p3) fun h1 =>
          some h1
theorem ctB_write (G : GG) (d : Nat) (a0 : Nat) (p1 : Int32) (p2 : Int32) (p3 : Int32) (q0 : shL[a0]? = some (1, 8)) (h0 : PH) (r : PH) (hm : mB_write a0 p1 p2 p3 h0 = some r) : Kx G tB_write d [.ref (gB G + a0), .int p1, .int p2, .int p3] h0 none r := by
  refine K_of_V (by decide) (by simp [cat_i, cat_r, fmtV_cat]) (by simp [tB_write]) ?_
  change Vx G tB_write d 0 [some (.ref (gB G + a0)), some (.int p1), some (.int p2), some (.int p3)] [] h0 none r
  unfold mB_write at hm
  refine v_ild_1 dB_write_0 ?_
  refine v_if_lt dB_write_1 (fun hc => ?_) (fun hc => ?_)
  · replace hm := it hc hm
    cases hm
    exact v_ret dB_write_34 rfl
  · replace hm := ie hc hm
    refine v_ild_1 dB_write_4 ?_
    refine v_ald_0 dB_write_5 ?_
    refine v_getI dB_write_6 fuB_15 q0 (rf_bor_1 q0) ?_
    refine v_cmp_ge dB_write_9 (fun hc => ?_) (fun hc => ?_)
    · replace hm := it hc hm
      cases hm
      exact v_ret dB_write_34 rfl
    · replace hm := ie hc hm
      refine v_ild_2 dB_write_12 ?_
      refine v_if_lt dB_write_13 (fun hc => ?_) (fun hc => ?_)
      · replace hm := it hc hm
        cases hm
        exact v_ret dB_write_34 rfl
      · replace hm := ie hc hm
        refine v_ild_2 dB_write_16 ?_
        refine v_bipush (x := 11) dB_write_17 rfl ?_
        refine v_cmp_ge dB_write_19 (fun hc => ?_) (fun hc => ?_)
        · replace hm := it hc hm
          cases hm
          exact v_ret dB_write_34 rfl
        · replace hm := ie hc hm
          refine v_ald_0 dB_write_22 ?_
          refine v_getR dB_write_23 fuB_11 q0 (rf_bor_0 q0) ?_
          refine v_ild_1 dB_write_26 ?_
          refine v_bipush (x := 11) dB_write_27 rfl ?_
          refine v_imul dB_write_29 ?_
          refine v_ild_2 dB_write_30 ?_
          refine v_iadd dB_write_31 ?_
          refine v_ild_3 dB_write_32 ?_
          obtain ⟨hi, hm⟩ := ck_s hm
          refine v_iastl dB_write_33 (sh_bor q0) hi hm (fun h1 hm => ?_)
          cases hm
          exact v_ret dB_write_34 rfl
def mB_build_L19 (a0 : Nat) (p1 : Int32) (p2 : Int32) (p3 : Int32) (p4 : Int32) (k0 : PH → Option (Int32 × PH)) : Nat → Int32 → PH → Option (Int32 × PH)
  | 0, _, _ => none
  | n + 1, v5, hv =>
    if 4 ≤ v5 then
      k0 hv
    else
      bd (mB_write a0 p4 v5 p1 hv) fun h3 =>
      mB_build_L19 a0 p1 p2 p3 p4 k0 n (v5 + 1) h3
def mB_build (a0 : Nat) (p1 : Int32) (p2 : Int32) (p3 : Int32) (h0 : PH) : Option (Int32 × PH) :=
  lt (h0 a0 1) fun x1 =>
  lt (up h0 a0 1 ((h0 a0 1) + 1)) fun h2 =>
  mB_build_L19 a0 p1 p2 p3 x1 (fun (h4 : PH) =>
    bd (mB_write a0 x1 4 p2 h4) fun h5 =>
    bd (mB_write a0 x1 5 p3 h5) fun h6 =>
    bd (mB_write a0 x1 6 0 h6) fun h7 =>
    bd (mB_write a0 x1 7 1 h7) fun h8 =>
    bd (mB_write a0 x1 8 0 h8) fun h9 =>
    bd (mB_write a0 x1 9 0 h9) fun h10 =>
    bd (mB_write a0 x1 10 0 h10) fun h11 =>
    some (x1, h11)) FU 0 h2
theorem wB_build_L19 (G : GG) (d : Nat) (a0 : Nat) (p1 : Int32) (p2 : Int32) (p3 : Int32) (p4 : Int32) (q0 : shL[a0]? = some (1, 8)) (k0 : PH → Option (Int32 × PH)) (r : Int32 × PH) (kk0 : ∀ (hy : PH), k0 hy = some r → Vx G tB_build (d + 1) 40 [some (.ref (gB G + a0)), none, some (.int p2), some (.int p3), some (.int p4), none] [] hy (some (.int r.1)) r.2) : ∀ (n : Nat) (v5 : Int32) (hv : PH), mB_build_L19 a0 p1 p2 p3 p4 k0 n v5 hv = some r → Vx G tB_build (d + 1) 19 [some (.ref (gB G + a0)), some (.int p1), some (.int p2), some (.int p3), some (.int p4), some (.int v5)] [] hv (some (.int r.1)) r.2 := by
  intro n
  induction n with
  | zero => intro v5 hv hm; cases hm
  | succ n ih =>
    intro v5 hv hm
    unfold mB_build_L19 at hm
    refine v_ild_5 dB_build_19 ?_
    refine v_iconst (x := 4) dB_build_21 rfl ?_
    refine v_cmp_ge dB_build_22 (fun hc => ?_) (fun hc => ?_)
    · replace hm := it hc hm
      exact v_kw (kk0 _ hm) (wk_s (wk_n (wk_s (wk_s (wk_s (wk_n wk_e))))))
    · replace hm := ie hc hm
      refine v_ald_0 dB_build_25 ?_
      refine v_ild_4 dB_build_26 ?_
      refine v_ild_5 dB_build_28 ?_
      refine v_ild_1 dB_build_30 ?_
      obtain ⟨h3, he, hm⟩ := bd_s hm
      refine v_cv3v (M' := tB_write) dB_build_31 mlB_19 okB_write q0 hc_1 (Nat.le_of_ble_eq_true rfl) (ctB_write G d _ _ _ _ q0 _ _ he) ?_
      refine v_inc_5 1 dB_build_34 rfl (by decide) rfl ?_
      refine v_goto dB_build_37 ?_
      exact v_kw (ih _ _ hm) (wk_s (wk_s (wk_s (wk_s (wk_s (wk_s wk_e))))))
theorem ctB_build (G : GG) (d : Nat) (a0 : Nat) (p1 : Int32) (p2 : Int32) (p3 : Int32) (q0 : shL[a0]? = some (1, 8)) (h0 : PH) (r : Int32 × PH) (hm : mB_build a0 p1 p2 p3 h0 = some r) : Kx G tB_build (d + 1) [.ref (gB G + a0), .int p1, .int p2, .int p3] h0 (some (.int r.1)) r.2 := by
  refine K_of_V (by decide) (by simp [cat_i, cat_r, fmtV_cat]) (by simp [tB_build]) ?_
  change Vx G tB_build (d + 1) 0 [some (.ref (gB G + a0)), some (.int p1), some (.int p2), some (.int p3), none, none] [] h0 (some (.int r.1)) r.2
  unfold mB_build at hm
  refine v_ald_0 dB_build_0 ?_
  refine v_getI dB_build_1 fuB_15 q0 (rf_bor_1 q0) ?_
  refine v_top hm (fun x1 hm => ?_)
  refine v_ist_4 dB_build_4 (by decide) rfl ?_
  refine v_ald_0 dB_build_6 ?_
  refine v_dup dB_build_7 rfl ?_
  refine v_getI dB_build_8 fuB_15 q0 (rf_bor_1 q0) ?_
  refine v_iconst (x := 1) dB_build_11 rfl ?_
  refine v_iadd dB_build_12 ?_
  refine v_putIl dB_build_13 fuB_15 ft_1_1 q0 (rf_bor_1 q0) hm (fun h2 hm => ?_)
  refine v_iconst (x := 0) dB_build_16 rfl ?_
  refine v_ist_5 dB_build_17 (by decide) rfl ?_
  refine v_kw (wB_build_L19 G d _ _ _ _ _ q0 _ _ (fun h4 hm => ?_) FU _ _ hm) (wk_s (wk_s (wk_s (wk_s (wk_s (wk_s wk_e))))))
  refine v_ald_0 dB_build_40 ?_
  refine v_ild_4 dB_build_41 ?_
  refine v_iconst (x := 4) dB_build_43 rfl ?_
  refine v_ild_2 dB_build_44 ?_
  obtain ⟨h5, he, hm⟩ := bd_s hm
  refine v_cv3v (M' := tB_write) dB_build_45 mlB_19 okB_write q0 hc_1 (Nat.le_of_ble_eq_true rfl) (ctB_write G d _ _ _ _ q0 _ _ he) ?_
  refine v_ald_0 dB_build_48 ?_
  refine v_ild_4 dB_build_49 ?_
  refine v_iconst (x := 5) dB_build_51 rfl ?_
  refine v_ild_3 dB_build_52 ?_
  obtain ⟨h6, he, hm⟩ := bd_s hm
  refine v_cv3v (M' := tB_write) dB_build_53 mlB_19 okB_write q0 hc_1 (Nat.le_of_ble_eq_true rfl) (ctB_write G d _ _ _ _ q0 _ _ he) ?_
  refine v_ald_0 dB_build_56 ?_
  refine v_ild_4 dB_build_57 ?_
  refine v_bipush (x := 6) dB_build_59 rfl ?_
  refine v_iconst (x := 0) dB_build_61 rfl ?_
  obtain ⟨h7, he, hm⟩ := bd_s hm
  refine v_cv3v (M' := tB_write) dB_build_62 mlB_19 okB_write q0 hc_1 (Nat.le_of_ble_eq_true rfl) (ctB_write G d _ _ _ _ q0 _ _ he) ?_
  refine v_ald_0 dB_build_65 ?_
  refine v_ild_4 dB_build_66 ?_
  refine v_bipush (x := 7) dB_build_68 rfl ?_
  refine v_iconst (x := 1) dB_build_70 rfl ?_
  obtain ⟨h8, he, hm⟩ := bd_s hm
  refine v_cv3v (M' := tB_write) dB_build_71 mlB_19 okB_write q0 hc_1 (Nat.le_of_ble_eq_true rfl) (ctB_write G d _ _ _ _ q0 _ _ he) ?_
  refine v_ald_0 dB_build_74 ?_
  refine v_ild_4 dB_build_75 ?_
  refine v_bipush (x := 8) dB_build_77 rfl ?_
  refine v_iconst (x := 0) dB_build_79 rfl ?_
  obtain ⟨h9, he, hm⟩ := bd_s hm
  refine v_cv3v (M' := tB_write) dB_build_80 mlB_19 okB_write q0 hc_1 (Nat.le_of_ble_eq_true rfl) (ctB_write G d _ _ _ _ q0 _ _ he) ?_
  refine v_ald_0 dB_build_83 ?_
  refine v_ild_4 dB_build_84 ?_
  refine v_bipush (x := 9) dB_build_86 rfl ?_
  refine v_iconst (x := 0) dB_build_88 rfl ?_
  obtain ⟨h10, he, hm⟩ := bd_s hm
  refine v_cv3v (M' := tB_write) dB_build_89 mlB_19 okB_write q0 hc_1 (Nat.le_of_ble_eq_true rfl) (ctB_write G d _ _ _ _ q0 _ _ he) ?_
  refine v_ald_0 dB_build_92 ?_
  refine v_ild_4 dB_build_93 ?_
  refine v_bipush (x := 10) dB_build_95 rfl ?_
  refine v_iconst (x := 0) dB_build_97 rfl ?_
  obtain ⟨h11, he, hm⟩ := bd_s hm
  refine v_cv3v (M' := tB_write) dB_build_98 mlB_19 okB_write q0 hc_1 (Nat.le_of_ble_eq_true rfl) (ctB_write G d _ _ _ _ q0 _ _ he) ?_
  refine v_ild_4 dB_build_101 ?_
  cases hm
  exact v_iret dB_build_103 rfl
def mB_sumOf (a0 : Nat) (p1 : Int32) (h0 : PH) : Option (Int32) :=
  if p1 < 0 then
    some 0
  else
    if p1 < (h0 a0 1) then
      lt (p1 * 11) fun x1 =>
      ck x1 132 <|
      ck (x1 + 1) 132 <|
      ck (x1 + 2) 132 <|
      ck (x1 + 3) 132 <|
      some ((((h0 (a0 + 1) (ix x1)) + (h0 (a0 + 1) (ix (x1 + 1)))) + (h0 (a0 + 1) (ix (x1 + 2)))) + (h0 (a0 + 1) (ix (x1 + 3))))
    else
      some 0
theorem ctB_sumOf (G : GG) (d : Nat) (a0 : Nat) (p1 : Int32) (q0 : shL[a0]? = some (1, 8)) (h0 : PH) (r : Int32) (hm : mB_sumOf a0 p1 h0 = some r) : Kx G tB_sumOf d [.ref (gB G + a0), .int p1] h0 (some (.int r)) h0 := by
  refine K_of_V (by decide) (by simp [cat_i, cat_r, fmtV_cat]) (by simp [tB_sumOf]) ?_
  change Vx G tB_sumOf d 0 [some (.ref (gB G + a0)), some (.int p1), none] [] h0 (some (.int r)) h0
  unfold mB_sumOf at hm
  refine v_ild_1 dB_sumOf_0 ?_
  refine v_if_lt dB_sumOf_1 (fun hc => ?_) (fun hc => ?_)
  · replace hm := it hc hm
    refine v_iconst (x := 0) dB_sumOf_12 rfl ?_
    cases hm
    exact v_iret dB_sumOf_13 rfl
  · replace hm := ie hc hm
    refine v_ild_1 dB_sumOf_4 ?_
    refine v_ald_0 dB_sumOf_5 ?_
    refine v_getI dB_sumOf_6 fuB_15 q0 (rf_bor_1 q0) ?_
    refine v_cmp_lt dB_sumOf_9 (fun hc => ?_) (fun hc => ?_)
    · replace hm := it hc hm
      refine v_ild_1 dB_sumOf_14 ?_
      refine v_bipush (x := 11) dB_sumOf_15 rfl ?_
      refine v_imul dB_sumOf_17 ?_
      refine v_top hm (fun x1 hm => ?_)
      refine v_ist_2 dB_sumOf_18 (by decide) rfl ?_
      refine v_ald_0 dB_sumOf_19 ?_
      refine v_getR dB_sumOf_20 fuB_11 q0 (rf_bor_0 q0) ?_
      refine v_ild_2 dB_sumOf_23 ?_
      obtain ⟨hi, hm⟩ := ck_s hm
      refine v_iald dB_sumOf_24 (sh_bor q0) hi ?_
      refine v_ald_0 dB_sumOf_25 ?_
      refine v_getR dB_sumOf_26 fuB_11 q0 (rf_bor_0 q0) ?_
      refine v_ild_2 dB_sumOf_29 ?_
      refine v_iconst (x := 1) dB_sumOf_30 rfl ?_
      refine v_iadd dB_sumOf_31 ?_
      obtain ⟨hi, hm⟩ := ck_s hm
      refine v_iald dB_sumOf_32 (sh_bor q0) hi ?_
      refine v_iadd dB_sumOf_33 ?_
      refine v_ald_0 dB_sumOf_34 ?_
      refine v_getR dB_sumOf_35 fuB_11 q0 (rf_bor_0 q0) ?_
      refine v_ild_2 dB_sumOf_38 ?_
      refine v_iconst (x := 2) dB_sumOf_39 rfl ?_
      refine v_iadd dB_sumOf_40 ?_
      obtain ⟨hi, hm⟩ := ck_s hm
      refine v_iald dB_sumOf_41 (sh_bor q0) hi ?_
      refine v_iadd dB_sumOf_42 ?_
      refine v_ald_0 dB_sumOf_43 ?_
      refine v_getR dB_sumOf_44 fuB_11 q0 (rf_bor_0 q0) ?_
      refine v_ild_2 dB_sumOf_47 ?_
      refine v_iconst (x := 3) dB_sumOf_48 rfl ?_
      refine v_iadd dB_sumOf_49 ?_
      obtain ⟨hi, hm⟩ := ck_s hm
      refine v_iald dB_sumOf_50 (sh_bor q0) hi ?_
      refine v_iadd dB_sumOf_51 ?_
      cases hm
      exact v_iret dB_sumOf_52 rfl
    · replace hm := ie hc hm
      refine v_iconst (x := 0) dB_sumOf_12 rfl ?_
      cases hm
      exact v_iret dB_sumOf_13 rfl
def mB_isUp (a0 : Nat) (p1 : Int32) (h0 : PH) : Option (Int32) :=
  bd (mB_sumOf a0 p1 h0) fun r1 =>
  if r1 ≤ 0 then
    some 0
  else
    some 1
theorem ctB_isUp (G : GG) (d : Nat) (a0 : Nat) (p1 : Int32) (q0 : shL[a0]? = some (1, 8)) (h0 : PH) (r : Int32) (hm : mB_isUp a0 p1 h0 = some r) : Kx G tB_isUp (d + 1) [.ref (gB G + a0), .int p1] h0 (some (.int r)) h0 := by
  refine K_of_V (by decide) (by simp [cat_i, cat_r, fmtV_cat]) (by simp [tB_isUp]) ?_
  change Vx G tB_isUp (d + 1) 0 [some (.ref (gB G + a0)), some (.int p1)] [] h0 (some (.int r)) h0
  unfold mB_isUp at hm
  refine v_ald_0 dB_isUp_0 ?_
  refine v_ild_1 dB_isUp_1 ?_
  obtain ⟨r1, he, hm⟩ := bd_s hm
  refine v_cv1i (M' := tB_sumOf) dB_isUp_2 mlB_23 okB_sumOf q0 hc_1 (Nat.le_of_ble_eq_true rfl) (ctB_sumOf G d _ _ q0 _ _ he) ?_
  refine v_if_le dB_isUp_5 (fun hc => ?_) (fun hc => ?_)
  · replace hm := it hc hm
    refine v_iconst (x := 0) dB_isUp_12 rfl ?_
    cases hm
    exact v_zret0 dB_isUp_13 rfl
  · replace hm := ie hc hm
    refine v_iconst (x := 1) dB_isUp_8 rfl ?_
    refine v_goto dB_isUp_9 ?_
    cases hm
    exact v_zret1 dB_isUp_13 rfl
def mB_thickest_L4 (a0 : Nat) (p1 : Int32) (h0 : PH) : Nat → Int32 → Int32 → Option (Int32)
  | 0, _, _ => none
  | n + 1, v2, v3 =>
    if 4 ≤ v3 then
      some v2
    else
      bd (mB_read a0 p1 v3 h0) fun r1 =>
      bd (mB_read a0 p1 v2 h0) fun r2 =>
      if r1 ≤ r2 then
        mB_thickest_L4 a0 p1 h0 n v2 (v3 + 1)
      else
        mB_thickest_L4 a0 p1 h0 n v3 (v3 + 1)
def mB_thickest (a0 : Nat) (p1 : Int32) (h0 : PH) : Option (Int32) :=
  mB_thickest_L4 a0 p1 h0 FU 0 1
theorem wB_thickest_L4 (G : GG) (d : Nat) (a0 : Nat) (p1 : Int32) (h0 : PH) (q0 : shL[a0]? = some (1, 8)) (r : Int32) : ∀ (n : Nat) (v2 : Int32) (v3 : Int32), mB_thickest_L4 a0 p1 h0 n v2 v3 = some r → Vx G tB_thickest (d + 1) 4 [some (.ref (gB G + a0)), some (.int p1), some (.int v2), some (.int v3)] [] h0 (some (.int r)) h0 := by
  intro n
  induction n with
  | zero => intro v2 v3 hm; cases hm
  | succ n ih =>
    intro v2 v3 hm
    unfold mB_thickest_L4 at hm
    refine v_ild_3 dB_thickest_4 ?_
    refine v_iconst (x := 4) dB_thickest_5 rfl ?_
    refine v_cmp_ge dB_thickest_6 (fun hc => ?_) (fun hc => ?_)
    · replace hm := it hc hm
      refine v_ild_2 dB_thickest_32 ?_
      cases hm
      exact v_iret dB_thickest_33 rfl
    · replace hm := ie hc hm
      refine v_ald_0 dB_thickest_9 ?_
      refine v_ild_1 dB_thickest_10 ?_
      refine v_ild_3 dB_thickest_11 ?_
      obtain ⟨r1, he, hm⟩ := bd_s hm
      refine v_cv2i (M' := tB_read) dB_thickest_12 mlB_27 okB_read q0 hc_1 (Nat.le_of_ble_eq_true rfl) (ctB_read G d _ _ _ q0 _ _ he) ?_
      refine v_ald_0 dB_thickest_15 ?_
      refine v_ild_1 dB_thickest_16 ?_
      refine v_ild_2 dB_thickest_17 ?_
      obtain ⟨r2, he, hm⟩ := bd_s hm
      refine v_cv2i (M' := tB_read) dB_thickest_18 mlB_27 okB_read q0 hc_1 (Nat.le_of_ble_eq_true rfl) (ctB_read G d _ _ _ q0 _ _ he) ?_
      refine v_cmp_le dB_thickest_21 (fun hc => ?_) (fun hc => ?_)
      · replace hm := it hc hm
        refine v_inc_3 1 dB_thickest_26 rfl (by decide) rfl ?_
        refine v_goto dB_thickest_29 ?_
        exact v_kw (ih _ _ hm) (wk_s (wk_s (wk_s (wk_s wk_e))))
      · replace hm := ie hc hm
        refine v_ild_3 dB_thickest_24 ?_
        refine v_ist_2 dB_thickest_25 (by decide) rfl ?_
        refine v_inc_3 1 dB_thickest_26 rfl (by decide) rfl ?_
        refine v_goto dB_thickest_29 ?_
        exact v_kw (ih _ _ hm) (wk_s (wk_s (wk_s (wk_s wk_e))))
theorem ctB_thickest (G : GG) (d : Nat) (a0 : Nat) (p1 : Int32) (q0 : shL[a0]? = some (1, 8)) (h0 : PH) (r : Int32) (hm : mB_thickest a0 p1 h0 = some r) : Kx G tB_thickest (d + 1) [.ref (gB G + a0), .int p1] h0 (some (.int r)) h0 := by
  refine K_of_V (by decide) (by simp [cat_i, cat_r, fmtV_cat]) (by simp [tB_thickest]) ?_
  change Vx G tB_thickest (d + 1) 0 [some (.ref (gB G + a0)), some (.int p1), none, none] [] h0 (some (.int r)) h0
  unfold mB_thickest at hm
  refine v_iconst (x := 0) dB_thickest_0 rfl ?_
  refine v_ist_2 dB_thickest_1 (by decide) rfl ?_
  refine v_iconst (x := 1) dB_thickest_2 rfl ?_
  refine v_ist_3 dB_thickest_3 (by decide) rfl ?_
  exact v_kw (wB_thickest_L4 G d _ _ _ q0 _ FU _ _ hm) (wk_s (wk_s (wk_s (wk_s wk_e))))
def mB_upSet_L4 (a0 : Nat) (h0 : PH) : Nat → Int32 → Int32 → Option (Int32)
  | 0, _, _ => none
  | n + 1, v1, v2 =>
    if (h0 a0 1) ≤ v2 then
      some v1
    else
      bd (mB_isUp a0 v2 h0) fun r1 =>
      if r1 = 0 then
        mB_upSet_L4 a0 h0 n v1 (v2 + 1)
      else
        lt (v1 ||| (1 <<< (v2 &&& 31))) fun x2 =>
        mB_upSet_L4 a0 h0 n x2 (v2 + 1)
def mB_upSet (a0 : Nat) (h0 : PH) : Option (Int32) :=
  mB_upSet_L4 a0 h0 FU 0 0
theorem wB_upSet_L4 (G : GG) (d : Nat) (a0 : Nat) (h0 : PH) (q0 : shL[a0]? = some (1, 8)) (r : Int32) : ∀ (n : Nat) (v1 : Int32) (v2 : Int32), mB_upSet_L4 a0 h0 n v1 v2 = some r → Vx G tB_upSet (d + 2) 4 [some (.ref (gB G + a0)), some (.int v1), some (.int v2)] [] h0 (some (.int r)) h0 := by
  intro n
  induction n with
  | zero => intro v1 v2 hm; cases hm
  | succ n ih =>
    intro v1 v2 hm
    unfold mB_upSet_L4 at hm
    refine v_ild_2 dB_upSet_4 ?_
    refine v_ald_0 dB_upSet_5 ?_
    refine v_getI dB_upSet_6 fuB_15 q0 (rf_bor_1 q0) ?_
    refine v_cmp_ge dB_upSet_9 (fun hc => ?_) (fun hc => ?_)
    · replace hm := it hc hm
      refine v_ild_1 dB_upSet_32 ?_
      cases hm
      exact v_iret dB_upSet_33 rfl
    · replace hm := ie hc hm
      refine v_ald_0 dB_upSet_12 ?_
      refine v_ild_2 dB_upSet_13 ?_
      obtain ⟨r1, he, hm⟩ := bd_s hm
      refine v_cv1i (M' := tB_isUp) dB_upSet_14 mlB_40 okB_isUp q0 hc_1 (Nat.le_of_ble_eq_true rfl) (ctB_isUp G d _ _ q0 _ _ he) ?_
      refine v_if_eq dB_upSet_17 (fun hc => ?_) (fun hc => ?_)
      · replace hm := it hc hm
        refine v_inc_2 1 dB_upSet_26 rfl (by decide) rfl ?_
        refine v_goto dB_upSet_29 ?_
        exact v_kw (ih _ _ hm) (wk_s (wk_s (wk_s wk_e)))
      · replace hm := ie hc hm
        refine v_ild_1 dB_upSet_20 ?_
        refine v_iconst (x := 1) dB_upSet_21 rfl ?_
        refine v_ild_2 dB_upSet_22 ?_
        refine v_ishl dB_upSet_23 ?_
        refine v_ior dB_upSet_24 ?_
        refine v_top hm (fun x2 hm => ?_)
        refine v_ist_1 dB_upSet_25 (by decide) rfl ?_
        refine v_inc_2 1 dB_upSet_26 rfl (by decide) rfl ?_
        refine v_goto dB_upSet_29 ?_
        exact v_kw (ih _ _ hm) (wk_s (wk_s (wk_s wk_e)))
theorem ctB_upSet (G : GG) (d : Nat) (a0 : Nat) (q0 : shL[a0]? = some (1, 8)) (h0 : PH) (r : Int32) (hm : mB_upSet a0 h0 = some r) : Kx G tB_upSet (d + 2) [.ref (gB G + a0)] h0 (some (.int r)) h0 := by
  refine K_of_V (by decide) (by simp [cat_i, cat_r, fmtV_cat]) (by simp [tB_upSet]) ?_
  change Vx G tB_upSet (d + 2) 0 [some (.ref (gB G + a0)), none, none] [] h0 (some (.int r)) h0
  unfold mB_upSet at hm
  refine v_iconst (x := 0) dB_upSet_0 rfl ?_
  refine v_ist_1 dB_upSet_1 (by decide) rfl ?_
  refine v_iconst (x := 0) dB_upSet_2 rfl ?_
  refine v_ist_2 dB_upSet_3 (by decide) rfl ?_
  exact v_kw (wB_upSet_L4 G d _ _ q0 _ FU _ _ hm) (wk_s (wk_s (wk_s wk_e)))
def mB_countUp (a0 : Nat) (h0 : PH) : Option (Int32) :=
  bd (mB_upSet a0 h0) fun r1 =>
  bd (mJ_bitCount r1 h0) fun r2 =>
  some r2
theorem ctB_countUp (G : GG) (d : Nat) (a0 : Nat) (q0 : shL[a0]? = some (1, 8)) (h0 : PH) (r : Int32) (hm : mB_countUp a0 h0 = some r) : Kx G tB_countUp (d + 3) [.ref (gB G + a0)] h0 (some (.int r)) h0 := by
  refine K_of_V (by decide) (by simp [cat_i, cat_r, fmtV_cat]) (by simp [tB_countUp]) ?_
  change Vx G tB_countUp (d + 3) 0 [some (.ref (gB G + a0))] [] h0 (some (.int r)) h0
  unfold mB_countUp at hm
  refine v_ald_0 dB_countUp_0 ?_
  obtain ⟨r1, he, hm⟩ := bd_s hm
  refine v_cv0i (M' := tB_upSet) dB_countUp_1 mlB_31 okB_upSet q0 hc_1 (Nat.le_of_ble_eq_true rfl) (ctB_upSet G d _ q0 _ _ he) ?_
  obtain ⟨r2, he, hm⟩ := bd_s hm
  refine v_cs1i (M' := tJ_bitCount) dB_countUp_4 mlB_35 okJ_bitCount (Nat.le_of_ble_eq_true rfl) (ctJ_bitCount G (d + 2) _ _ _ he) ?_
  cases hm
  exact v_iret dB_countUp_7 rfl
def mB_total_L4 (a0 : Nat) (p1 : Int32) (h0 : PH) : Nat → Int32 → Int32 → Option (Int32)
  | 0, _, _ => none
  | n + 1, v2, v3 =>
    if (h0 a0 1) ≤ v3 then
      some v2
    else
      bd (mB_read a0 v3 p1 h0) fun r1 =>
      lt (v2 + r1) fun x2 =>
      mB_total_L4 a0 p1 h0 n x2 (v3 + 1)
def mB_total (a0 : Nat) (p1 : Int32) (h0 : PH) : Option (Int32) :=
  mB_total_L4 a0 p1 h0 FU 0 0
theorem wB_total_L4 (G : GG) (d : Nat) (a0 : Nat) (p1 : Int32) (h0 : PH) (q0 : shL[a0]? = some (1, 8)) (r : Int32) : ∀ (n : Nat) (v2 : Int32) (v3 : Int32), mB_total_L4 a0 p1 h0 n v2 v3 = some r → Vx G tB_total (d + 1) 4 [some (.ref (gB G + a0)), some (.int p1), some (.int v2), some (.int v3)] [] h0 (some (.int r)) h0 := by
  intro n
  induction n with
  | zero => intro v2 v3 hm; cases hm
  | succ n ih =>
    intro v2 v3 hm
    unfold mB_total_L4 at hm
    refine v_ild_3 dB_total_4 ?_
    refine v_ald_0 dB_total_5 ?_
    refine v_getI dB_total_6 fuB_15 q0 (rf_bor_1 q0) ?_
    refine v_cmp_ge dB_total_9 (fun hc => ?_) (fun hc => ?_)
    · replace hm := it hc hm
      refine v_ild_2 dB_total_27 ?_
      cases hm
      exact v_iret dB_total_28 rfl
    · replace hm := ie hc hm
      refine v_ild_2 dB_total_12 ?_
      refine v_ald_0 dB_total_13 ?_
      refine v_ild_3 dB_total_14 ?_
      refine v_ild_1 dB_total_15 ?_
      obtain ⟨r1, he, hm⟩ := bd_s hm
      refine v_cv2i (M' := tB_read) dB_total_16 mlB_27 okB_read q0 hc_1 (Nat.le_of_ble_eq_true rfl) (ctB_read G d _ _ _ q0 _ _ he) ?_
      refine v_iadd dB_total_19 ?_
      refine v_top hm (fun x2 hm => ?_)
      refine v_ist_2 dB_total_20 (by decide) rfl ?_
      refine v_inc_3 1 dB_total_21 rfl (by decide) rfl ?_
      refine v_goto dB_total_24 ?_
      exact v_kw (ih _ _ hm) (wk_s (wk_s (wk_s (wk_s wk_e))))
theorem ctB_total (G : GG) (d : Nat) (a0 : Nat) (p1 : Int32) (q0 : shL[a0]? = some (1, 8)) (h0 : PH) (r : Int32) (hm : mB_total a0 p1 h0 = some r) : Kx G tB_total (d + 1) [.ref (gB G + a0), .int p1] h0 (some (.int r)) h0 := by
  refine K_of_V (by decide) (by simp [cat_i, cat_r, fmtV_cat]) (by simp [tB_total]) ?_
  change Vx G tB_total (d + 1) 0 [some (.ref (gB G + a0)), some (.int p1), none, none] [] h0 (some (.int r)) h0
  unfold mB_total at hm
  refine v_iconst (x := 0) dB_total_0 rfl ?_
  refine v_ist_2 dB_total_1 (by decide) rfl ?_
  refine v_iconst (x := 0) dB_total_2 rfl ?_
  refine v_ist_3 dB_total_3 (by decide) rfl ?_
  exact v_kw (wB_total_L4 G d _ _ _ q0 _ FU _ _ hm) (wk_s (wk_s (wk_s (wk_s wk_e))))
def mB_thin (a0 : Nat) (p1 : Int32) (p2 : Int32) (p3 : Int32) (h0 : PH) : Option (Int32 × PH) :=
  bd (mB_read a0 p1 p2 h0) fun r1 =>
  lt (imin r1 p3) fun x2 =>
  bd (mB_write a0 p1 p2 (r1 - x2) h0) fun h3 =>
  some (x2, h3)
theorem ctB_thin (G : GG) (d : Nat) (a0 : Nat) (p1 : Int32) (p2 : Int32) (p3 : Int32) (q0 : shL[a0]? = some (1, 8)) (h0 : PH) (r : Int32 × PH) (hm : mB_thin a0 p1 p2 p3 h0 = some r) : Kx G tB_thin (d + 1) [.ref (gB G + a0), .int p1, .int p2, .int p3] h0 (some (.int r.1)) r.2 := by
  refine K_of_V (by decide) (by simp [cat_i, cat_r, fmtV_cat]) (by simp [tB_thin]) ?_
  change Vx G tB_thin (d + 1) 0 [some (.ref (gB G + a0)), some (.int p1), some (.int p2), some (.int p3), none, none] [] h0 (some (.int r.1)) r.2
  unfold mB_thin at hm
  refine v_ald_0 dB_thin_0 ?_
  refine v_ild_1 dB_thin_1 ?_
  refine v_ild_2 dB_thin_2 ?_
  obtain ⟨r1, he, hm⟩ := bd_s hm
  refine v_cv2i (M' := tB_read) dB_thin_3 mlB_27 okB_read q0 hc_1 (Nat.le_of_ble_eq_true rfl) (ctB_read G d _ _ _ q0 _ _ he) ?_
  refine v_ist_4 dB_thin_6 (by decide) rfl ?_
  refine v_ild_4 dB_thin_8 ?_
  refine v_ild_3 dB_thin_10 ?_
  refine v_mmin dB_thin_11 mlB_44 (Nat.le_of_ble_eq_true rfl) ?_
  refine v_top hm (fun x2 hm => ?_)
  refine v_ist_5 dB_thin_14 (by decide) rfl ?_
  refine v_ald_0 dB_thin_16 ?_
  refine v_ild_1 dB_thin_17 ?_
  refine v_ild_2 dB_thin_18 ?_
  refine v_ild_4 dB_thin_19 ?_
  refine v_ild_5 dB_thin_21 ?_
  refine v_isub dB_thin_23 ?_
  obtain ⟨h3, he, hm⟩ := bd_s hm
  refine v_cv3v (M' := tB_write) dB_thin_24 mlB_19 okB_write q0 hc_1 (Nat.le_of_ble_eq_true rfl) (ctB_write G d _ _ _ _ q0 _ _ he) ?_
  refine v_ild_5 dB_thin_27 ?_
  cases hm
  exact v_iret dB_thin_29 rfl
def mB_thicken (a0 : Nat) (p1 : Int32) (p2 : Int32) (p3 : Int32) (h0 : PH) : Option (PH) :=
  bd (mB_read a0 p1 p2 h0) fun r1 =>
  bd (mB_write a0 p1 p2 (imin 99 (r1 + p3)) h0) fun h2 =>
  some h2
theorem ctB_thicken (G : GG) (d : Nat) (a0 : Nat) (p1 : Int32) (p2 : Int32) (p3 : Int32) (q0 : shL[a0]? = some (1, 8)) (h0 : PH) (r : PH) (hm : mB_thicken a0 p1 p2 p3 h0 = some r) : Kx G tB_thicken (d + 1) [.ref (gB G + a0), .int p1, .int p2, .int p3] h0 none r := by
  refine K_of_V (by decide) (by simp [cat_i, cat_r, fmtV_cat]) (by simp [tB_thicken]) ?_
  change Vx G tB_thicken (d + 1) 0 [some (.ref (gB G + a0)), some (.int p1), some (.int p2), some (.int p3)] [] h0 none r
  unfold mB_thicken at hm
  refine v_ald_0 dB_thicken_0 ?_
  refine v_ild_1 dB_thicken_1 ?_
  refine v_ild_2 dB_thicken_2 ?_
  refine v_bipush (x := 99) dB_thicken_3 rfl ?_
  refine v_ald_0 dB_thicken_5 ?_
  refine v_ild_1 dB_thicken_6 ?_
  refine v_ild_2 dB_thicken_7 ?_
  obtain ⟨r1, he, hm⟩ := bd_s hm
  refine v_cv2i (M' := tB_read) dB_thicken_8 mlB_27 okB_read q0 hc_1 (Nat.le_of_ble_eq_true rfl) (ctB_read G d _ _ _ q0 _ _ he) ?_
  refine v_ild_3 dB_thicken_11 ?_
  refine v_iadd dB_thicken_12 ?_
  refine v_mmin dB_thicken_13 mlB_44 (Nat.le_of_ble_eq_true rfl) ?_
  obtain ⟨h2, he, hm⟩ := bd_s hm
  refine v_cv3v (M' := tB_write) dB_thicken_16 mlB_19 okB_write q0 hc_1 (Nat.le_of_ble_eq_true rfl) (ctB_write G d _ _ _ _ q0 _ _ he) ?_
  cases hm
  exact v_ret dB_thicken_19 rfl
def mB_draw (a0 : Nat) (p1 : Int32) (h0 : PH) : Option (Int32 × PH) :=
  lt (up h0 a0 7 ((1664525 * (h0 a0 7)) + 1013904223)) fun h1 =>
  if p1 ≤ 0 then
    some (0, h1)
  else
    dz p1 <|
    some (irm (ushr (h1 a0 7) 8) p1, h1)
theorem ctB_draw (G : GG) (d : Nat) (a0 : Nat) (p1 : Int32) (q0 : shL[a0]? = some (1, 8)) (h0 : PH) (r : Int32 × PH) (hm : mB_draw a0 p1 h0 = some r) : Kx G tB_draw d [.ref (gB G + a0), .int p1] h0 (some (.int r.1)) r.2 := by
  refine K_of_V (by decide) (by simp [cat_i, cat_r, fmtV_cat]) (by simp [tB_draw]) ?_
  change Vx G tB_draw d 0 [some (.ref (gB G + a0)), some (.int p1)] [] h0 (some (.int r.1)) r.2
  unfold mB_draw at hm
  refine v_ald_0 dB_draw_0 ?_
  refine v_ldc (x := 1664525) dB_draw_1 lcB_49 ?_
  refine v_ald_0 dB_draw_3 ?_
  refine v_getI dB_draw_4 fuB_50 q0 (rf_bor_7 q0) ?_
  refine v_imul dB_draw_7 ?_
  refine v_ldc (x := 1013904223) dB_draw_8 lcB_53 ?_
  refine v_iadd dB_draw_10 ?_
  refine v_putIl dB_draw_11 fuB_50 ft_1_7 q0 (rf_bor_7 q0) hm (fun h1 hm => ?_)
  refine v_ild_1 dB_draw_14 ?_
  refine v_if_le dB_draw_15 (fun hc => ?_) (fun hc => ?_)
  · replace hm := it hc hm
    refine v_iconst (x := 0) dB_draw_30 rfl ?_
    cases hm
    exact v_iret dB_draw_31 rfl
  · replace hm := ie hc hm
    refine v_ald_0 dB_draw_18 ?_
    refine v_getI dB_draw_19 fuB_50 q0 (rf_bor_7 q0) ?_
    refine v_bipush (x := 8) dB_draw_22 rfl ?_
    refine v_iushr dB_draw_24 ?_
    refine v_ild_1 dB_draw_25 ?_
    obtain ⟨hz, hm⟩ := dz_s hm
    refine v_irem dB_draw_26 hz ?_
    refine v_goto dB_draw_27 ?_
    cases hm
    exact v_iret dB_draw_31 rfl
def mB_copyFrom (a0 : Nat) (a1 : Nat) (h0 : PH) : Option (PH) :=
  cc 132 132 0 0 132 <|
  lt (cpy h0 (a1 + 1) (a0 + 1) (ix 0) (ix 0) (ix 132)) fun h1 =>
  lt (up h1 a0 1 (h1 a1 1)) fun h2 =>
  lt (up h2 a0 2 (h2 a1 2)) fun h3 =>
  lt (up h3 a0 3 (h3 a1 3)) fun h4 =>
  lt (up h4 a0 4 (h4 a1 4)) fun h5 =>
  lt (up h5 a0 5 (h5 a1 5)) fun h6 =>
  lt (up h6 a0 6 (h6 a1 6)) fun h7 =>
  lt (up h7 a0 7 (h7 a1 7)) fun h8 =>
  some h8
theorem ctB_copyFrom (G : GG) (d : Nat) (a0 : Nat) (a1 : Nat) (q0 : shL[a0]? = some (1, 8)) (q1 : shL[a1]? = some (1, 8)) (h0 : PH) (r : PH) (hm : mB_copyFrom a0 a1 h0 = some r) : Kx G tB_copyFrom d [.ref (gB G + a0), .ref (gB G + a1)] h0 none r := by
  refine K_of_V (by decide) (by simp [cat_i, cat_r, fmtV_cat]) (by simp [tB_copyFrom]) ?_
  change Vx G tB_copyFrom d 0 [some (.ref (gB G + a0)), some (.ref (gB G + a1))] [] h0 none r
  unfold mB_copyFrom at hm
  refine v_ald_1 dB_copyFrom_0 ?_
  refine v_getR dB_copyFrom_1 fuB_11 q1 (rf_bor_0 q1) ?_
  refine v_iconst (x := 0) dB_copyFrom_4 rfl ?_
  refine v_ald_0 dB_copyFrom_5 ?_
  refine v_getR dB_copyFrom_6 fuB_11 q0 (rf_bor_0 q0) ?_
  refine v_iconst (x := 0) dB_copyFrom_9 rfl ?_
  refine v_ald_0 dB_copyFrom_10 ?_
  refine v_getR dB_copyFrom_11 fuB_11 q0 (rf_bor_0 q0) ?_
  refine v_alen (x := 132) dB_copyFrom_14 (sh_bor q0) rfl ?_
  obtain ⟨hq, hm⟩ := cc_s hm
  refine v_cpy dB_copyFrom_15 mlB_54 (sh_bor q1) (sh_bor q0) (Nat.le_of_ble_eq_true rfl) hq hm (fun h1 hm => ?_)
  refine v_ald_0 dB_copyFrom_18 ?_
  refine v_ald_1 dB_copyFrom_19 ?_
  refine v_getI dB_copyFrom_20 fuB_15 q1 (rf_bor_1 q1) ?_
  refine v_putIl dB_copyFrom_23 fuB_15 ft_1_1 q0 (rf_bor_1 q0) hm (fun h2 hm => ?_)
  refine v_ald_0 dB_copyFrom_26 ?_
  refine v_ald_1 dB_copyFrom_27 ?_
  refine v_getI dB_copyFrom_28 fuB_60 q1 (rf_bor_2 q1) ?_
  refine v_putIl dB_copyFrom_31 fuB_60 ft_1_2 q0 (rf_bor_2 q0) hm (fun h3 hm => ?_)
  refine v_ald_0 dB_copyFrom_34 ?_
  refine v_ald_1 dB_copyFrom_35 ?_
  refine v_getI dB_copyFrom_36 fuB_63 q1 (rf_bor_3 q1) ?_
  refine v_putIl dB_copyFrom_39 fuB_63 ft_1_3 q0 (rf_bor_3 q0) hm (fun h4 hm => ?_)
  refine v_ald_0 dB_copyFrom_42 ?_
  refine v_ald_1 dB_copyFrom_43 ?_
  refine v_getI dB_copyFrom_44 fuB_66 q1 (rf_bor_4 q1) ?_
  refine v_putIl dB_copyFrom_47 fuB_66 ft_1_4 q0 (rf_bor_4 q0) hm (fun h5 hm => ?_)
  refine v_ald_0 dB_copyFrom_50 ?_
  refine v_ald_1 dB_copyFrom_51 ?_
  refine v_getI dB_copyFrom_52 fuB_69 q1 (rf_bor_5 q1) ?_
  refine v_putIl dB_copyFrom_55 fuB_69 ft_1_5 q0 (rf_bor_5 q0) hm (fun h6 hm => ?_)
  refine v_ald_0 dB_copyFrom_58 ?_
  refine v_ald_1 dB_copyFrom_59 ?_
  refine v_getI dB_copyFrom_60 fuB_72 q1 (rf_bor_6 q1) ?_
  refine v_putIl dB_copyFrom_63 fuB_72 ft_1_6 q0 (rf_bor_6 q0) hm (fun h7 hm => ?_)
  refine v_ald_0 dB_copyFrom_66 ?_
  refine v_ald_1 dB_copyFrom_67 ?_
  refine v_getI dB_copyFrom_68 fuB_50 q1 (rf_bor_7 q1) ?_
  refine v_putIl dB_copyFrom_71 fuB_50 ft_1_7 q0 (rf_bor_7 q0) hm (fun h8 hm => ?_)
  cases hm
  exact v_ret dB_copyFrom_74 rfl
def mR_at (a0 : Nat) (p1 : Int32) (p2 : Int32) (h0 : PH) : Option (Int32) :=
  if p1 < 0 then
    some (-1)
  else
    if (h0 a0 3) ≤ p1 then
      some (-1)
    else
      if p2 < 0 then
        some (-1)
      else
        if p2 < (h0 a0 1) then
          ck ((p1 * (h0 a0 1)) + p2) (ln (a0 + 1)) <|
          some (h0 (a0 + 1) (ix ((p1 * (h0 a0 1)) + p2)))
        else
          some (-1)
theorem ctR_at (G : GG) (d : Nat) (a0 : Nat) (p1 : Int32) (p2 : Int32) (q0 : shL[a0]? = some (6, 4)) (h0 : PH) (r : Int32) (hm : mR_at a0 p1 p2 h0 = some r) : Kx G tR_at d [.ref (gB G + a0), .int p1, .int p2] h0 (some (.int r)) h0 := by
  refine K_of_V (by decide) (by simp [cat_i, cat_r, fmtV_cat]) (by simp [tR_at]) ?_
  change Vx G tR_at d 0 [some (.ref (gB G + a0)), some (.int p1), some (.int p2)] [] h0 (some (.int r)) h0
  unfold mR_at at hm
  refine v_ild_1 dR_at_0 ?_
  refine v_if_lt dR_at_1 (fun hc => ?_) (fun hc => ?_)
  · replace hm := it hc hm
    refine v_iconst (x := (-1)) dR_at_24 rfl ?_
    cases hm
    exact v_iret dR_at_25 rfl
  · replace hm := ie hc hm
    refine v_ild_1 dR_at_4 ?_
    refine v_ald_0 dR_at_5 ?_
    refine v_getI dR_at_6 fuR_28 q0 (rf_rows_3 q0) ?_
    refine v_cmp_ge dR_at_9 (fun hc => ?_) (fun hc => ?_)
    · replace hm := it hc hm
      refine v_iconst (x := (-1)) dR_at_24 rfl ?_
      cases hm
      exact v_iret dR_at_25 rfl
    · replace hm := ie hc hm
      refine v_ild_2 dR_at_12 ?_
      refine v_if_lt dR_at_13 (fun hc => ?_) (fun hc => ?_)
      · replace hm := it hc hm
        refine v_iconst (x := (-1)) dR_at_24 rfl ?_
        cases hm
        exact v_iret dR_at_25 rfl
      · replace hm := ie hc hm
        refine v_ild_2 dR_at_16 ?_
        refine v_ald_0 dR_at_17 ?_
        refine v_getI dR_at_18 fuR_21 q0 (rf_rows_1 q0) ?_
        refine v_cmp_lt dR_at_21 (fun hc => ?_) (fun hc => ?_)
        · replace hm := it hc hm
          refine v_ald_0 dR_at_26 ?_
          refine v_getR dR_at_27 fuR_24 q0 (rf_rows_2 q0) ?_
          refine v_ild_1 dR_at_30 ?_
          refine v_ald_0 dR_at_31 ?_
          refine v_getI dR_at_32 fuR_21 q0 (rf_rows_1 q0) ?_
          refine v_imul dR_at_35 ?_
          refine v_ild_2 dR_at_36 ?_
          refine v_iadd dR_at_37 ?_
          obtain ⟨hi, hm⟩ := ck_s hm
          refine v_iald dR_at_38 (sh_rows q0) hi ?_
          cases hm
          exact v_iret dR_at_39 rfl
        · replace hm := ie hc hm
          refine v_iconst (x := (-1)) dR_at_24 rfl ?_
          cases hm
          exact v_iret dR_at_25 rfl
def mR_add (a0 : Nat) (p1 : Int32) (p2 : Int32) (p3 : Int32) (p4 : Int32) (p5 : Int32) (h0 : PH) : Option (Int32 × PH) :=
  if (h0 a0 3) < (h0 a0 0) then
    lt ((h0 a0 3) * (h0 a0 1)) fun x1 =>
    ck x1 (ln (a0 + 1)) <|
    lt (up h0 (a0 + 1) (ix x1) p1) fun h2 =>
    jn1 (fun (h4 : PH) =>
      jn1 (fun (h6 : PH) =>
        jn1 (fun (h8 : PH) =>
          jn1 (fun (h10 : PH) =>
            lt (up h10 a0 3 ((h10 a0 3) + 1)) fun h11 =>
            some (1, h11)) fun j9 =>
          if (h8 a0 1) ≤ 4 then
            j9 h8
          else
            ck (x1 + 4) (ln (a0 + 1)) <|
            lt (up h8 (a0 + 1) (ix (x1 + 4)) p5) fun h12 =>
            j9 h12) fun j7 =>
        if (h6 a0 1) ≤ 3 then
          j7 h6
        else
          ck (x1 + 3) (ln (a0 + 1)) <|
          lt (up h6 (a0 + 1) (ix (x1 + 3)) p4) fun h13 =>
          j7 h13) fun j5 =>
      if (h4 a0 1) ≤ 2 then
        j5 h4
      else
        ck (x1 + 2) (ln (a0 + 1)) <|
        lt (up h4 (a0 + 1) (ix (x1 + 2)) p3) fun h14 =>
        j5 h14) fun j3 =>
    if (h2 a0 1) ≤ 1 then
      j3 h2
    else
      ck (x1 + 1) (ln (a0 + 1)) <|
      lt (up h2 (a0 + 1) (ix (x1 + 1)) p2) fun h15 =>
      j3 h15
  else
    some (0, h0)
theorem ctR_add (G : GG) (d : Nat) (a0 : Nat) (p1 : Int32) (p2 : Int32) (p3 : Int32) (p4 : Int32) (p5 : Int32) (q0 : shL[a0]? = some (6, 4)) (h0 : PH) (r : Int32 × PH) (hm : mR_add a0 p1 p2 p3 p4 p5 h0 = some r) : Kx G tR_add d [.ref (gB G + a0), .int p1, .int p2, .int p3, .int p4, .int p5] h0 (some (.int r.1)) r.2 := by
  refine K_of_V (by decide) (by simp [cat_i, cat_r, fmtV_cat]) (by simp [tR_add]) ?_
  change Vx G tR_add d 0 [some (.ref (gB G + a0)), some (.int p1), some (.int p2), some (.int p3), some (.int p4), some (.int p5), none] [] h0 (some (.int r.1)) r.2
  unfold mR_add at hm
  refine v_ald_0 dR_add_0 ?_
  refine v_getI dR_add_1 fuR_28 q0 (rf_rows_3 q0) ?_
  refine v_ald_0 dR_add_4 ?_
  refine v_getI dR_add_5 fuR_15 q0 (rf_rows_0 q0) ?_
  refine v_cmp_lt dR_add_8 (fun hc => ?_) (fun hc => ?_)
  · replace hm := it hc hm
    refine v_ald_0 dR_add_13 ?_
    refine v_getI dR_add_14 fuR_28 q0 (rf_rows_3 q0) ?_
    refine v_ald_0 dR_add_17 ?_
    refine v_getI dR_add_18 fuR_21 q0 (rf_rows_1 q0) ?_
    refine v_imul dR_add_21 ?_
    refine v_top hm (fun x1 hm => ?_)
    refine v_ist_6 dR_add_22 (by decide) rfl ?_
    refine v_ald_0 dR_add_24 ?_
    refine v_getR dR_add_25 fuR_24 q0 (rf_rows_2 q0) ?_
    refine v_ild_6 dR_add_28 ?_
    refine v_ild_1 dR_add_30 ?_
    obtain ⟨hi, hm⟩ := ck_s hm
    refine v_iastl dR_add_31 (sh_rows q0) hi hm (fun h2 hm => ?_)
    refine v_ald_0 dR_add_32 ?_
    refine v_getI dR_add_33 fuR_21 q0 (rf_rows_1 q0) ?_
    refine v_iconst (x := 1) dR_add_36 rfl ?_
    refine v_j1 (fun (h4 : PH) => Vx G tR_add d 50 [some (.ref (gB G + a0)), none, none, some (.int p3), some (.int p4), some (.int p5), some (.int x1)] [] h4 (some (.int r.1)) r.2) hm (fun h4 hm => ?_) (fun j3 kj3 hm => ?_)
    · refine v_ald_0 dR_add_50 ?_
      refine v_getI dR_add_51 fuR_21 q0 (rf_rows_1 q0) ?_
      refine v_iconst (x := 2) dR_add_54 rfl ?_
      refine v_j1 (fun (h6 : PH) => Vx G tR_add d 68 [some (.ref (gB G + a0)), none, none, none, some (.int p4), some (.int p5), some (.int x1)] [] h6 (some (.int r.1)) r.2) hm (fun h6 hm => ?_) (fun j5 kj5 hm => ?_)
      · refine v_ald_0 dR_add_68 ?_
        refine v_getI dR_add_69 fuR_21 q0 (rf_rows_1 q0) ?_
        refine v_iconst (x := 3) dR_add_72 rfl ?_
        refine v_j1 (fun (h8 : PH) => Vx G tR_add d 87 [some (.ref (gB G + a0)), none, none, none, none, some (.int p5), some (.int x1)] [] h8 (some (.int r.1)) r.2) hm (fun h8 hm => ?_) (fun j7 kj7 hm => ?_)
        · refine v_ald_0 dR_add_87 ?_
          refine v_getI dR_add_88 fuR_21 q0 (rf_rows_1 q0) ?_
          refine v_iconst (x := 4) dR_add_91 rfl ?_
          refine v_j1 (fun (h10 : PH) => Vx G tR_add d 106 [some (.ref (gB G + a0)), none, none, none, none, none, none] [] h10 (some (.int r.1)) r.2) hm (fun h10 hm => ?_) (fun j9 kj9 hm => ?_)
          · refine v_ald_0 dR_add_106 ?_
            refine v_dup dR_add_107 rfl ?_
            refine v_getI dR_add_108 fuR_28 q0 (rf_rows_3 q0) ?_
            refine v_iconst (x := 1) dR_add_111 rfl ?_
            refine v_iadd dR_add_112 ?_
            refine v_putIl dR_add_113 fuR_28 ft_6_3 q0 (rf_rows_3 q0) hm (fun h11 hm => ?_)
            refine v_iconst (x := 1) dR_add_116 rfl ?_
            cases hm
            exact v_zret1 dR_add_117 rfl
          · refine v_cmp_le dR_add_92 (fun hc => ?_) (fun hc => ?_)
            · replace hm := it hc hm
              exact v_kw (kj9 _ hm) (wk_s (wk_n (wk_n (wk_n (wk_n (wk_n (wk_n wk_e)))))))
            · replace hm := ie hc hm
              refine v_ald_0 dR_add_95 ?_
              refine v_getR dR_add_96 fuR_24 q0 (rf_rows_2 q0) ?_
              refine v_ild_6 dR_add_99 ?_
              refine v_iconst (x := 4) dR_add_101 rfl ?_
              refine v_iadd dR_add_102 ?_
              refine v_ild_5 dR_add_103 ?_
              obtain ⟨hi, hm⟩ := ck_s hm
              refine v_iastl dR_add_105 (sh_rows q0) hi hm (fun h12 hm => ?_)
              exact v_kw (kj9 _ hm) (wk_s (wk_n (wk_n (wk_n (wk_n (wk_n (wk_n wk_e)))))))
        · refine v_cmp_le dR_add_73 (fun hc => ?_) (fun hc => ?_)
          · replace hm := it hc hm
            exact v_kw (kj7 _ hm) (wk_s (wk_n (wk_n (wk_n (wk_n (wk_s (wk_s wk_e)))))))
          · replace hm := ie hc hm
            refine v_ald_0 dR_add_76 ?_
            refine v_getR dR_add_77 fuR_24 q0 (rf_rows_2 q0) ?_
            refine v_ild_6 dR_add_80 ?_
            refine v_iconst (x := 3) dR_add_82 rfl ?_
            refine v_iadd dR_add_83 ?_
            refine v_ild_4 dR_add_84 ?_
            obtain ⟨hi, hm⟩ := ck_s hm
            refine v_iastl dR_add_86 (sh_rows q0) hi hm (fun h13 hm => ?_)
            exact v_kw (kj7 _ hm) (wk_s (wk_n (wk_n (wk_n (wk_n (wk_s (wk_s wk_e)))))))
      · refine v_cmp_le dR_add_55 (fun hc => ?_) (fun hc => ?_)
        · replace hm := it hc hm
          exact v_kw (kj5 _ hm) (wk_s (wk_n (wk_n (wk_n (wk_s (wk_s (wk_s wk_e)))))))
        · replace hm := ie hc hm
          refine v_ald_0 dR_add_58 ?_
          refine v_getR dR_add_59 fuR_24 q0 (rf_rows_2 q0) ?_
          refine v_ild_6 dR_add_62 ?_
          refine v_iconst (x := 2) dR_add_64 rfl ?_
          refine v_iadd dR_add_65 ?_
          refine v_ild_3 dR_add_66 ?_
          obtain ⟨hi, hm⟩ := ck_s hm
          refine v_iastl dR_add_67 (sh_rows q0) hi hm (fun h14 hm => ?_)
          exact v_kw (kj5 _ hm) (wk_s (wk_n (wk_n (wk_n (wk_s (wk_s (wk_s wk_e)))))))
    · refine v_cmp_le dR_add_37 (fun hc => ?_) (fun hc => ?_)
      · replace hm := it hc hm
        exact v_kw (kj3 _ hm) (wk_s (wk_n (wk_n (wk_s (wk_s (wk_s (wk_s wk_e)))))))
      · replace hm := ie hc hm
        refine v_ald_0 dR_add_40 ?_
        refine v_getR dR_add_41 fuR_24 q0 (rf_rows_2 q0) ?_
        refine v_ild_6 dR_add_44 ?_
        refine v_iconst (x := 1) dR_add_46 rfl ?_
        refine v_iadd dR_add_47 ?_
        refine v_ild_2 dR_add_48 ?_
        obtain ⟨hi, hm⟩ := ck_s hm
        refine v_iastl dR_add_49 (sh_rows q0) hi hm (fun h15 hm => ?_)
        exact v_kw (kj3 _ hm) (wk_s (wk_n (wk_n (wk_s (wk_s (wk_s (wk_s wk_e)))))))
  · replace hm := ie hc hm
    refine v_iconst (x := 0) dR_add_11 rfl ?_
    cases hm
    exact v_zret0 dR_add_12 rfl
def mR_copyFrom (a0 : Nat) (a1 : Nat) (h0 : PH) : Option (PH) :=
  lt ((h0 a1 3) * (h0 a1 1)) fun x1 =>
  if (h0 a1 1) = (h0 a0 1) then
    if (Int32.ofNat (ln (a0 + 1))) < x1 then
      some h0
    else
      cc (ln (a1 + 1)) (ln (a0 + 1)) 0 0 x1 <|
      lt (cpy h0 (a1 + 1) (a0 + 1) (ix 0) (ix 0) (ix x1)) fun h2 =>
      lt (up h2 a0 3 (h2 a1 3)) fun h3 =>
      some h3
  else
    some h0
theorem ctR_copyFrom (G : GG) (d : Nat) (a0 : Nat) (a1 : Nat) (q0 : shL[a0]? = some (6, 4)) (q1 : shL[a1]? = some (6, 4)) (h0 : PH) (r : PH) (hm : mR_copyFrom a0 a1 h0 = some r) : Kx G tR_copyFrom d [.ref (gB G + a0), .ref (gB G + a1)] h0 none r := by
  refine K_of_V (by decide) (by simp [cat_i, cat_r, fmtV_cat]) (by simp [tR_copyFrom]) ?_
  change Vx G tR_copyFrom d 0 [some (.ref (gB G + a0)), some (.ref (gB G + a1)), none] [] h0 none r
  unfold mR_copyFrom at hm
  refine v_ald_1 dR_copyFrom_0 ?_
  refine v_getI dR_copyFrom_1 fuR_28 q1 (rf_rows_3 q1) ?_
  refine v_ald_1 dR_copyFrom_4 ?_
  refine v_getI dR_copyFrom_5 fuR_21 q1 (rf_rows_1 q1) ?_
  refine v_imul dR_copyFrom_8 ?_
  refine v_top hm (fun x1 hm => ?_)
  refine v_ist_2 dR_copyFrom_9 (by decide) rfl ?_
  refine v_ald_1 dR_copyFrom_10 ?_
  refine v_getI dR_copyFrom_11 fuR_21 q1 (rf_rows_1 q1) ?_
  refine v_ald_0 dR_copyFrom_14 ?_
  refine v_getI dR_copyFrom_15 fuR_21 q0 (rf_rows_1 q0) ?_
  refine v_cmp_ne dR_copyFrom_18 (fun hc => ?_) (fun hc => ?_)
  · replace hm := it hc hm
    refine v_ild_2 dR_copyFrom_21 ?_
    refine v_ald_0 dR_copyFrom_22 ?_
    refine v_getR dR_copyFrom_23 fuR_24 q0 (rf_rows_2 q0) ?_
    refine v_alen (x := (Int32.ofNat (ln (a0 + 1)))) dR_copyFrom_26 (sh_rows q0) rfl ?_
    refine v_cmp_gt dR_copyFrom_27 (fun hc => ?_) (fun hc => ?_)
    · replace hm := it hc hm
      cases hm
      exact v_ret dR_copyFrom_52 rfl
    · replace hm := ie hc hm
      refine v_ald_1 dR_copyFrom_30 ?_
      refine v_getR dR_copyFrom_31 fuR_24 q1 (rf_rows_2 q1) ?_
      refine v_iconst (x := 0) dR_copyFrom_34 rfl ?_
      refine v_ald_0 dR_copyFrom_35 ?_
      refine v_getR dR_copyFrom_36 fuR_24 q0 (rf_rows_2 q0) ?_
      refine v_iconst (x := 0) dR_copyFrom_39 rfl ?_
      refine v_ild_2 dR_copyFrom_40 ?_
      obtain ⟨hq, hm⟩ := cc_s hm
      refine v_cpy dR_copyFrom_41 mlR_31 (sh_rows q1) (sh_rows q0) (Nat.le_of_ble_eq_true rfl) hq hm (fun h2 hm => ?_)
      refine v_ald_0 dR_copyFrom_44 ?_
      refine v_ald_1 dR_copyFrom_45 ?_
      refine v_getI dR_copyFrom_46 fuR_28 q1 (rf_rows_3 q1) ?_
      refine v_putIl dR_copyFrom_49 fuR_28 ft_6_3 q0 (rf_rows_3 q0) hm (fun h3 hm => ?_)
      cases hm
      exact v_ret dR_copyFrom_52 rfl
  · replace hm := ie hc hm
    cases hm
    exact v_ret dR_copyFrom_52 rfl
def mL_lengthOf (p0 : Int32) (p1 : Int32) (h0 : PH) : Option (Int32) :=
  some ((p0 >>> ((p1 * 3) &&& 31)) &&& 7)
theorem ctL_lengthOf (G : GG) (d : Nat) (p0 : Int32) (p1 : Int32) (h0 : PH) (r : Int32) (hm : mL_lengthOf p0 p1 h0 = some r) : Kx G tL_lengthOf d [.int p0, .int p1] h0 (some (.int r)) h0 := by
  refine K_of_V (by decide) (by simp [cat_i, cat_r, fmtV_cat]) (by simp [tL_lengthOf]) ?_
  change Vx G tL_lengthOf d 0 [some (.int p0), some (.int p1)] [] h0 (some (.int r)) h0
  unfold mL_lengthOf at hm
  refine v_ild_0 dL_lengthOf_0 ?_
  refine v_ild_1 dL_lengthOf_1 ?_
  refine v_iconst (x := 3) dL_lengthOf_2 rfl ?_
  refine v_imul dL_lengthOf_3 ?_
  refine v_ishr dL_lengthOf_4 ?_
  refine v_bipush (x := 7) dL_lengthOf_5 rfl ?_
  refine v_iand dL_lengthOf_7 ?_
  cases hm
  exact v_iret dL_lengthOf_8 rfl
def mL_isShape_L5 (p0 : Int32) (h0 : PH) : Nat → Int32 → Int32 → Option (Int32)
  | 0, _, _ => none
  | n + 1, v1, v2 =>
    if 5 ≤ v2 then
      some 1
    else
      bd (mL_lengthOf p0 v2 h0) fun r1 =>
      if r1 ≤ v1 then
        mL_isShape_L5 p0 h0 n r1 (v2 + 1)
      else
        some 0
def mL_isShape (p0 : Int32) (h0 : PH) : Option (Int32) :=
  mL_isShape_L5 p0 h0 FU 6 0
theorem wL_isShape_L5 (G : GG) (d : Nat) (p0 : Int32) (h0 : PH) (r : Int32) : ∀ (n : Nat) (v1 : Int32) (v2 : Int32), mL_isShape_L5 p0 h0 n v1 v2 = some r → Vx G tL_isShape (d + 1) 5 [some (.int p0), some (.int v1), some (.int v2), none] [] h0 (some (.int r)) h0 := by
  intro n
  induction n with
  | zero => intro v1 v2 hm; cases hm
  | succ n ih =>
    intro v1 v2 hm
    unfold mL_isShape_L5 at hm
    refine v_ild_2 dL_isShape_5 ?_
    refine v_iconst (x := 5) dL_isShape_6 rfl ?_
    refine v_cmp_ge dL_isShape_7 (fun hc => ?_) (fun hc => ?_)
    · replace hm := it hc hm
      refine v_iconst (x := 1) dL_isShape_31 rfl ?_
      cases hm
      exact v_zret1 dL_isShape_32 rfl
    · replace hm := ie hc hm
      refine v_ild_0 dL_isShape_10 ?_
      refine v_ild_2 dL_isShape_11 ?_
      obtain ⟨r1, he, hm⟩ := bd_s hm
      refine v_cs2i (M' := tL_lengthOf) dL_isShape_12 mlL_31 okL_lengthOf (Nat.le_of_ble_eq_true rfl) (ctL_lengthOf G d _ _ _ _ he) ?_
      refine v_ist_3 dL_isShape_15 (by decide) rfl ?_
      refine v_ild_3 dL_isShape_16 ?_
      refine v_ild_1 dL_isShape_17 ?_
      refine v_cmp_le dL_isShape_18 (fun hc => ?_) (fun hc => ?_)
      · replace hm := it hc hm
        refine v_ild_3 dL_isShape_23 ?_
        refine v_ist_1 dL_isShape_24 (by decide) rfl ?_
        refine v_inc_2 1 dL_isShape_25 rfl (by decide) rfl ?_
        refine v_goto dL_isShape_28 ?_
        exact v_kw (ih _ _ hm) (wk_s (wk_s (wk_s (wk_n wk_e))))
      · replace hm := ie hc hm
        refine v_iconst (x := 0) dL_isShape_21 rfl ?_
        cases hm
        exact v_zret0 dL_isShape_22 rfl
theorem ctL_isShape (G : GG) (d : Nat) (p0 : Int32) (h0 : PH) (r : Int32) (hm : mL_isShape p0 h0 = some r) : Kx G tL_isShape (d + 1) [.int p0] h0 (some (.int r)) h0 := by
  refine K_of_V (by decide) (by simp [cat_i, cat_r, fmtV_cat]) (by simp [tL_isShape]) ?_
  change Vx G tL_isShape (d + 1) 0 [some (.int p0), none, none, none] [] h0 (some (.int r)) h0
  unfold mL_isShape at hm
  refine v_bipush (x := 6) dL_isShape_0 rfl ?_
  refine v_ist_1 dL_isShape_2 (by decide) rfl ?_
  refine v_iconst (x := 0) dL_isShape_3 rfl ?_
  refine v_ist_2 dL_isShape_4 (by decide) rfl ?_
  exact v_kw (wL_isShape_L5 G d _ _ _ FU _ _ hm) (wk_s (wk_s (wk_s (wk_n wk_e))))
def mL_bitten_L5 (p0 : Int32) (p1 : Int32) (p2 : Int32) (h0 : PH) : Nat → Int32 → Int32 → Option (Int32)
  | 0, _, _ => none
  | n + 1, v3, v4 =>
    if 5 ≤ v4 then
      some v3
    else
      bd (mL_lengthOf p0 v4 h0) fun r1 =>
      jn1 (fun (x3 : Int32) =>
        lt (v3 ||| (x3 <<< ((v4 * 3) &&& 31))) fun x4 =>
        mL_bitten_L5 p0 p1 p2 h0 n x4 (v4 + 1)) fun j2 =>
      if p1 ≤ v4 then
        j2 (imin r1 p2)
      else
        j2 r1
def mL_bitten (p0 : Int32) (p1 : Int32) (p2 : Int32) (h0 : PH) : Option (Int32) :=
  mL_bitten_L5 p0 p1 p2 h0 FU 0 0
theorem wL_bitten_L5 (G : GG) (d : Nat) (p0 : Int32) (p1 : Int32) (p2 : Int32) (h0 : PH) (r : Int32) : ∀ (n : Nat) (v3 : Int32) (v4 : Int32), mL_bitten_L5 p0 p1 p2 h0 n v3 v4 = some r → Vx G tL_bitten (d + 1) 5 [some (.int p0), some (.int p1), some (.int p2), some (.int v3), some (.int v4), none] [] h0 (some (.int r)) h0 := by
  intro n
  induction n with
  | zero => intro v3 v4 hm; cases hm
  | succ n ih =>
    intro v3 v4 hm
    unfold mL_bitten_L5 at hm
    refine v_ild_4 dL_bitten_5 ?_
    refine v_iconst (x := 5) dL_bitten_7 rfl ?_
    refine v_cmp_ge dL_bitten_8 (fun hc => ?_) (fun hc => ?_)
    · replace hm := it hc hm
      refine v_ild_3 dL_bitten_50 ?_
      cases hm
      exact v_iret dL_bitten_51 rfl
    · replace hm := ie hc hm
      refine v_ild_0 dL_bitten_11 ?_
      refine v_ild_4 dL_bitten_12 ?_
      obtain ⟨r1, he, hm⟩ := bd_s hm
      refine v_cs2i (M' := tL_lengthOf) dL_bitten_14 mlL_31 okL_lengthOf (Nat.le_of_ble_eq_true rfl) (ctL_lengthOf G d _ _ _ _ he) ?_
      refine v_ist_5 dL_bitten_17 (by decide) rfl ?_
      refine v_ild_3 dL_bitten_19 ?_
      refine v_ild_4 dL_bitten_20 ?_
      refine v_ild_1 dL_bitten_22 ?_
      refine v_j1 (fun (x3 : Int32) => Vx G tL_bitten (d + 1) 37 [some (.int p0), some (.int p1), some (.int p2), none, some (.int v4), none] [.int x3, .int v3] h0 (some (.int r)) h0) hm (fun x3 hm => ?_) (fun j2 kj2 hm => ?_)
      · refine v_ild_4 dL_bitten_37 ?_
        refine v_iconst (x := 3) dL_bitten_39 rfl ?_
        refine v_imul dL_bitten_40 ?_
        refine v_ishl dL_bitten_41 ?_
        refine v_ior dL_bitten_42 ?_
        refine v_top hm (fun x4 hm => ?_)
        refine v_ist_3 dL_bitten_43 (by decide) rfl ?_
        refine v_inc_4 1 dL_bitten_44 rfl (by decide) rfl ?_
        refine v_goto dL_bitten_47 ?_
        exact v_kw (ih _ _ hm) (wk_s (wk_s (wk_s (wk_s (wk_s (wk_n wk_e))))))
      · refine v_cmp_ge dL_bitten_23 (fun hc => ?_) (fun hc => ?_)
        · replace hm := it hc hm
          refine v_ild_5 dL_bitten_31 ?_
          refine v_ild_2 dL_bitten_33 ?_
          refine v_mmin dL_bitten_34 mlL_42 (Nat.le_of_ble_eq_true rfl) ?_
          exact v_kw (kj2 _ hm) (wk_s (wk_s (wk_s (wk_n (wk_s (wk_n wk_e))))))
        · replace hm := ie hc hm
          refine v_ild_5 dL_bitten_26 ?_
          refine v_goto dL_bitten_28 ?_
          exact v_kw (kj2 _ hm) (wk_s (wk_s (wk_s (wk_n (wk_s (wk_n wk_e))))))
theorem ctL_bitten (G : GG) (d : Nat) (p0 : Int32) (p1 : Int32) (p2 : Int32) (h0 : PH) (r : Int32) (hm : mL_bitten p0 p1 p2 h0 = some r) : Kx G tL_bitten (d + 1) [.int p0, .int p1, .int p2] h0 (some (.int r)) h0 := by
  refine K_of_V (by decide) (by simp [cat_i, cat_r, fmtV_cat]) (by simp [tL_bitten]) ?_
  change Vx G tL_bitten (d + 1) 0 [some (.int p0), some (.int p1), some (.int p2), none, none, none] [] h0 (some (.int r)) h0
  unfold mL_bitten at hm
  refine v_iconst (x := 0) dL_bitten_0 rfl ?_
  refine v_ist_3 dL_bitten_1 (by decide) rfl ?_
  refine v_iconst (x := 0) dL_bitten_2 rfl ?_
  refine v_ist_4 dL_bitten_3 (by decide) rfl ?_
  exact v_kw (wL_bitten_L5 G d _ _ _ _ _ FU _ _ hm) (wk_s (wk_s (wk_s (wk_s (wk_s (wk_n wk_e))))))
def mL_isLost (p1 : Int32) (h0 : PH) : Option (Int32) :=
  lt (p1 >>> (5 &&& 31)) fun x1 =>
  if x1 < 0 then
    some 0
  else
    if 1024 ≤ x1 then
      some 0
    else
      ck x1 1024 <|
      if (((h0 103 (ix x1)) >>> ((p1 &&& 31) &&& 31)) &&& 1) = 1 then
        some 1
      else
        some 0
theorem ctL_isLost (G : GG) (d : Nat) (p1 : Int32) (h0 : PH) (r : Int32) (hm : mL_isLost p1 h0 = some r) : Kx G tL_isLost d [.ref (gB G + 102), .int p1] h0 (some (.int r)) h0 := by
  refine K_of_V (by decide) (by simp [cat_i, cat_r, fmtV_cat]) (by simp [tL_isLost]) ?_
  change Vx G tL_isLost d 0 [some (.ref (gB G + 102)), some (.int p1), none] [] h0 (some (.int r)) h0
  unfold mL_isLost at hm
  refine v_ild_1 dL_isLost_0 ?_
  refine v_iconst (x := 5) dL_isLost_1 rfl ?_
  refine v_ishr dL_isLost_2 ?_
  refine v_top hm (fun x1 hm => ?_)
  refine v_ist_2 dL_isLost_3 (by decide) rfl ?_
  refine v_ild_2 dL_isLost_4 ?_
  refine v_if_lt dL_isLost_5 (fun hc => ?_) (fun hc => ?_)
  · replace hm := it hc hm
    refine v_iconst (x := 0) dL_isLost_38 rfl ?_
    cases hm
    exact v_zret0 dL_isLost_39 rfl
  · replace hm := ie hc hm
    refine v_ild_2 dL_isLost_8 ?_
    refine v_ald_0 dL_isLost_9 ?_
    refine v_getR dL_isLost_10 fuL_11 sh_102 rf_102_0 ?_
    refine v_alen (x := 1024) dL_isLost_13 sh_103 rfl ?_
    refine v_cmp_ge dL_isLost_14 (fun hc => ?_) (fun hc => ?_)
    · replace hm := it hc hm
      refine v_iconst (x := 0) dL_isLost_38 rfl ?_
      cases hm
      exact v_zret0 dL_isLost_39 rfl
    · replace hm := ie hc hm
      refine v_ald_0 dL_isLost_17 ?_
      refine v_getR dL_isLost_18 fuL_11 sh_102 rf_102_0 ?_
      refine v_ild_2 dL_isLost_21 ?_
      obtain ⟨hi, hm⟩ := ck_s hm
      refine v_iald dL_isLost_22 sh_103 hi ?_
      refine v_ild_1 dL_isLost_23 ?_
      refine v_bipush (x := 31) dL_isLost_24 rfl ?_
      refine v_iand dL_isLost_26 ?_
      refine v_ishr dL_isLost_27 ?_
      refine v_iconst (x := 1) dL_isLost_28 rfl ?_
      refine v_iand dL_isLost_29 ?_
      refine v_iconst (x := 1) dL_isLost_30 rfl ?_
      refine v_cmp_ne dL_isLost_31 (fun hc => ?_) (fun hc => ?_)
      · replace hm := it hc hm
        refine v_iconst (x := 1) dL_isLost_34 rfl ?_
        refine v_goto dL_isLost_35 ?_
        cases hm
        exact v_zret1 dL_isLost_39 rfl
      · replace hm := ie hc hm
        refine v_iconst (x := 0) dL_isLost_38 rfl ?_
        cases hm
        exact v_zret0 dL_isLost_39 rfl
def mL_winningBite_L16 (p1 : Int32) (p2 : Int32) (p3 : Int32) (h0 : PH) (k0 : Option (Int32)) : Nat → Int32 → Option (Int32)
  | 0, _ => none
  | n + 1, v4 =>
    if p3 ≤ v4 then
      k0
    else
      bd (mL_bitten p1 p2 v4 h0) fun r2 =>
      bd (mL_isLost r2 h0) fun r3 =>
      if r3 = 0 then
        mL_winningBite_L16 p1 p2 p3 h0 k0 n (v4 + 1)
      else
        some ((10 * p2) + v4)
def mL_winningBite_L2 (p1 : Int32) (h0 : PH) : Nat → Int32 → Option (Int32)
  | 0, _ => none
  | n + 1, v2 =>
    if 5 ≤ v2 then
      some (-1)
    else
      bd (mL_lengthOf p1 v2 h0) fun r1 =>
      mL_winningBite_L16 p1 v2 r1 h0 (mL_winningBite_L2 p1 h0 n (v2 + 1)) FU 0
def mL_winningBite (p1 : Int32) (h0 : PH) : Option (Int32) :=
  mL_winningBite_L2 p1 h0 FU 0
theorem wL_winningBite_L16 (G : GG) (d : Nat) (p1 : Int32) (p2 : Int32) (p3 : Int32) (h0 : PH) (k0 : Option (Int32)) (r : Int32) (kk0 : k0 = some r → Vx G tL_winningBite (d + 2) 50 [some (.ref (gB G + 102)), some (.int p1), some (.int p2), none, none] [] h0 (some (.int r)) h0) : ∀ (n : Nat) (v4 : Int32), mL_winningBite_L16 p1 p2 p3 h0 k0 n v4 = some r → Vx G tL_winningBite (d + 2) 16 [some (.ref (gB G + 102)), some (.int p1), some (.int p2), some (.int p3), some (.int v4)] [] h0 (some (.int r)) h0 := by
  intro n
  induction n with
  | zero => intro v4 hm; cases hm
  | succ n ih =>
    intro v4 hm
    unfold mL_winningBite_L16 at hm
    refine v_ild_4 dL_winningBite_16 ?_
    refine v_ild_3 dL_winningBite_18 ?_
    refine v_cmp_ge dL_winningBite_19 (fun hc => ?_) (fun hc => ?_)
    · replace hm := it hc hm
      exact v_kw (kk0 hm) (wk_s (wk_s (wk_s (wk_n (wk_n wk_e)))))
    · replace hm := ie hc hm
      refine v_ald_0 dL_winningBite_22 ?_
      refine v_ild_1 dL_winningBite_23 ?_
      refine v_ild_2 dL_winningBite_24 ?_
      refine v_ild_4 dL_winningBite_25 ?_
      obtain ⟨r2, he, hm⟩ := bd_s hm
      refine v_cs3i (M' := tL_bitten) dL_winningBite_27 mlL_35 okL_bitten (Nat.le_of_ble_eq_true rfl) (ctL_bitten G d _ _ _ _ _ he) ?_
      obtain ⟨r3, he, hm⟩ := bd_s hm
      refine v_cv1i (M' := tL_isLost) dL_winningBite_30 mlL_39 okL_isLost sh_102 hc_8 (Nat.le_of_ble_eq_true rfl) (ctL_isLost G (d + 1) _ _ _ he) ?_
      refine v_if_eq dL_winningBite_33 (fun hc => ?_) (fun hc => ?_)
      · replace hm := it hc hm
        refine v_inc_4 1 dL_winningBite_44 rfl (by decide) rfl ?_
        refine v_goto dL_winningBite_47 ?_
        exact v_kw (ih _ hm) (wk_s (wk_s (wk_s (wk_s (wk_s wk_e)))))
      · replace hm := ie hc hm
        refine v_bipush (x := 10) dL_winningBite_36 rfl ?_
        refine v_ild_2 dL_winningBite_38 ?_
        refine v_imul dL_winningBite_39 ?_
        refine v_ild_4 dL_winningBite_40 ?_
        refine v_iadd dL_winningBite_42 ?_
        cases hm
        exact v_iret dL_winningBite_43 rfl
theorem wL_winningBite_L2 (G : GG) (d : Nat) (p1 : Int32) (h0 : PH) (r : Int32) : ∀ (n : Nat) (v2 : Int32), mL_winningBite_L2 p1 h0 n v2 = some r → Vx G tL_winningBite (d + 2) 2 [some (.ref (gB G + 102)), some (.int p1), some (.int v2), none, none] [] h0 (some (.int r)) h0 := by
  intro n
  induction n with
  | zero => intro v2 hm; cases hm
  | succ n ih =>
    intro v2 hm
    unfold mL_winningBite_L2 at hm
    refine v_ild_2 dL_winningBite_2 ?_
    refine v_iconst (x := 5) dL_winningBite_3 rfl ?_
    refine v_cmp_ge dL_winningBite_4 (fun hc => ?_) (fun hc => ?_)
    · replace hm := it hc hm
      refine v_iconst (x := (-1)) dL_winningBite_56 rfl ?_
      cases hm
      exact v_iret dL_winningBite_57 rfl
    · replace hm := ie hc hm
      refine v_ild_1 dL_winningBite_7 ?_
      refine v_ild_2 dL_winningBite_8 ?_
      obtain ⟨r1, he, hm⟩ := bd_s hm
      refine v_cs2i (M' := tL_lengthOf) dL_winningBite_9 mlL_31 okL_lengthOf (Nat.le_of_ble_eq_true rfl) (ctL_lengthOf G (d + 1) _ _ _ _ he) ?_
      refine v_ist_3 dL_winningBite_12 (by decide) rfl ?_
      refine v_iconst (x := 0) dL_winningBite_13 rfl ?_
      refine v_ist_4 dL_winningBite_14 (by decide) rfl ?_
      refine v_kw (wL_winningBite_L16 G d _ _ _ _ _ _ (fun hm => ?_) FU _ hm) (wk_s (wk_s (wk_s (wk_s (wk_s wk_e)))))
      refine v_inc_2 1 dL_winningBite_50 rfl (by decide) rfl ?_
      refine v_goto dL_winningBite_53 ?_
      exact v_kw (ih _ hm) (wk_s (wk_s (wk_s (wk_n (wk_n wk_e)))))
theorem ctL_winningBite (G : GG) (d : Nat) (p1 : Int32) (h0 : PH) (r : Int32) (hm : mL_winningBite p1 h0 = some r) : Kx G tL_winningBite (d + 2) [.ref (gB G + 102), .int p1] h0 (some (.int r)) h0 := by
  refine K_of_V (by decide) (by simp [cat_i, cat_r, fmtV_cat]) (by simp [tL_winningBite]) ?_
  change Vx G tL_winningBite (d + 2) 0 [some (.ref (gB G + 102)), some (.int p1), none, none, none] [] h0 (some (.int r)) h0
  unfold mL_winningBite at hm
  refine v_iconst (x := 0) dL_winningBite_0 rfl ?_
  refine v_ist_2 dL_winningBite_1 (by decide) rfl ?_
  exact v_kw (wL_winningBite_L2 G d _ _ _ FU _ hm) (wk_s (wk_s (wk_s (wk_n (wk_n wk_e)))))
def mL_learn_L2 : Nat → Int32 → PH → Option (PH)
  | 0, _, _ => none
  | n + 1, v1, hv =>
    if 32768 ≤ v1 then
      some hv
    else
      bd (mL_isShape v1 hv) fun r1 =>
      if r1 = 0 then
        mL_learn_L2 n (v1 + 1) hv
      else
        bd (mL_winningBite v1 hv) fun r2 =>
        if r2 = (-1) then
          ck (v1 >>> (5 &&& 31)) 1024 <|
          ck (v1 >>> (5 &&& 31)) 1024 <|
          lt (up hv 103 (ix (v1 >>> (5 &&& 31))) ((hv 103 (ix (v1 >>> (5 &&& 31)))) ||| (1 <<< ((v1 &&& 31) &&& 31)))) fun h3 =>
          mL_learn_L2 n (v1 + 1) h3
        else
          mL_learn_L2 n (v1 + 1) hv
def mL_learn (h0 : PH) : Option (PH) :=
  mL_learn_L2 FU 1 h0
theorem wL_learn_L2 (G : GG) (d : Nat)  (r : PH) : ∀ (n : Nat) (v1 : Int32) (hv : PH), mL_learn_L2  n v1 hv = some r → Vx G tL_learn (d + 3) 2 [some (.ref (gB G + 102)), some (.int v1)] [] hv none r := by
  intro n
  induction n with
  | zero => intro v1 hv hm; cases hm
  | succ n ih =>
    intro v1 hv hm
    unfold mL_learn_L2 at hm
    refine v_ild_1 dL_learn_2 ?_
    refine v_ldc (x := 32768) dL_learn_3 lcL_26 ?_
    refine v_cmp_ge dL_learn_5 (fun hc => ?_) (fun hc => ?_)
    · replace hm := it hc hm
      cases hm
      exact v_ret dL_learn_47 rfl
    · replace hm := ie hc hm
      refine v_ild_1 dL_learn_8 ?_
      obtain ⟨r1, he, hm⟩ := bd_s hm
      refine v_cs1i (M' := tL_isShape) dL_learn_9 mlL_27 okL_isShape (Nat.le_of_ble_eq_true rfl) (ctL_isShape G (d + 1) _ _ _ he) ?_
      refine v_if_eq dL_learn_12 (fun hc => ?_) (fun hc => ?_)
      · replace hm := it hc hm
        refine v_inc_1 1 dL_learn_41 rfl (by decide) rfl ?_
        refine v_goto dL_learn_44 ?_
        exact v_kw (ih _ _ hm) (wk_s (wk_s wk_e))
      · replace hm := ie hc hm
        refine v_ald_0 dL_learn_15 ?_
        refine v_ild_1 dL_learn_16 ?_
        obtain ⟨r2, he, hm⟩ := bd_s hm
        refine v_cv1i (M' := tL_winningBite) dL_learn_17 mlL_22 okL_winningBite sh_102 hc_8 (Nat.le_of_ble_eq_true rfl) (ctL_winningBite G d _ _ _ he) ?_
        refine v_iconst (x := (-1)) dL_learn_20 rfl ?_
        refine v_cmp_ne dL_learn_21 (fun hc => ?_) (fun hc => ?_)
        · replace hm := it hc hm
          refine v_ald_0 dL_learn_24 ?_
          refine v_getR dL_learn_25 fuL_11 sh_102 rf_102_0 ?_
          refine v_ild_1 dL_learn_28 ?_
          refine v_iconst (x := 5) dL_learn_29 rfl ?_
          refine v_ishr dL_learn_30 ?_
          refine v_dup2 dL_learn_31 rfl rfl ?_
          obtain ⟨hi, hm⟩ := ck_s hm
          refine v_iald dL_learn_32 sh_103 hi ?_
          refine v_iconst (x := 1) dL_learn_33 rfl ?_
          refine v_ild_1 dL_learn_34 ?_
          refine v_bipush (x := 31) dL_learn_35 rfl ?_
          refine v_iand dL_learn_37 ?_
          refine v_ishl dL_learn_38 ?_
          refine v_ior dL_learn_39 ?_
          obtain ⟨hi, hm⟩ := ck_s hm
          refine v_iastl dL_learn_40 sh_103 hi hm (fun h3 hm => ?_)
          refine v_inc_1 1 dL_learn_41 rfl (by decide) rfl ?_
          refine v_goto dL_learn_44 ?_
          exact v_kw (ih _ _ hm) (wk_s (wk_s wk_e))
        · replace hm := ie hc hm
          refine v_inc_1 1 dL_learn_41 rfl (by decide) rfl ?_
          refine v_goto dL_learn_44 ?_
          exact v_kw (ih _ _ hm) (wk_s (wk_s wk_e))
theorem ctL_learn (G : GG) (d : Nat) (h0 : PH) (r : PH) (hm : mL_learn h0 = some r) : Kx G tL_learn (d + 3) [.ref (gB G + 102)] h0 none r := by
  refine K_of_V (by decide) (by simp [cat_i, cat_r, fmtV_cat]) (by simp [tL_learn]) ?_
  change Vx G tL_learn (d + 3) 0 [some (.ref (gB G + 102)), none] [] h0 none r
  unfold mL_learn at hm
  refine v_iconst (x := 1) dL_learn_0 rfl ?_
  refine v_ist_1 dL_learn_1 (by decide) rfl ?_
  exact v_kw (wL_learn_L2 G d  _ FU _ _ hm) (wk_s (wk_s wk_e))
def mL_bestBite_L21 (p1 : Int32) (p2 : Int32) (h0 : PH) (k0 : Int32 → Option (Int32 × PH)) : Nat → Int32 → Int32 → Option (Int32 × PH)
  | 0, _, _ => none
  | n + 1, v3, v4 =>
    if p1 ≤ v4 then
      k0 v3
    else
      lt (v3 ||| (p2 <<< ((v4 * 3) &&& 31))) fun x3 =>
      mL_bestBite_L21 p1 p2 h0 k0 n x3 (v4 + 1)
def mL_bestBite (p1 : Int32) (p2 : Int32) (h0 : PH) : Option (Int32 × PH) :=
  jn1 (fun (h2 : PH) =>
    mL_bestBite_L21 p1 p2 h2 (fun (x4 : Int32) =>
      bd (mL_winningBite x4 h2) fun r5 =>
      some (r5, h2)) FU 0 0) fun j1 =>
  if (h0 102 1) = 0 then
    bd (mL_learn h0) fun h6 =>
    lt (up h6 102 1 1) fun h7 =>
    j1 h7
  else
    j1 h0
theorem wL_bestBite_L21 (G : GG) (d : Nat) (p1 : Int32) (p2 : Int32) (h0 : PH) (k0 : Int32 → Option (Int32 × PH)) (r : Int32 × PH) (kk0 : ∀ (y3 : Int32), k0 y3 = some r → Vx G tL_bestBite (d + 4) 42 [some (.ref (gB G + 102)), none, none, some (.int y3), none] [] h0 (some (.int r.1)) r.2) : ∀ (n : Nat) (v3 : Int32) (v4 : Int32), mL_bestBite_L21 p1 p2 h0 k0 n v3 v4 = some r → Vx G tL_bestBite (d + 4) 21 [some (.ref (gB G + 102)), some (.int p1), some (.int p2), some (.int v3), some (.int v4)] [] h0 (some (.int r.1)) r.2 := by
  intro n
  induction n with
  | zero => intro v3 v4 hm; cases hm
  | succ n ih =>
    intro v3 v4 hm
    unfold mL_bestBite_L21 at hm
    refine v_ild_4 dL_bestBite_21 ?_
    refine v_ild_1 dL_bestBite_23 ?_
    refine v_cmp_ge dL_bestBite_24 (fun hc => ?_) (fun hc => ?_)
    · replace hm := it hc hm
      exact v_kw (kk0 _ hm) (wk_s (wk_n (wk_n (wk_s (wk_n wk_e)))))
    · replace hm := ie hc hm
      refine v_ild_3 dL_bestBite_27 ?_
      refine v_ild_2 dL_bestBite_28 ?_
      refine v_ild_4 dL_bestBite_29 ?_
      refine v_iconst (x := 3) dL_bestBite_31 rfl ?_
      refine v_imul dL_bestBite_32 ?_
      refine v_ishl dL_bestBite_33 ?_
      refine v_ior dL_bestBite_34 ?_
      refine v_top hm (fun x3 hm => ?_)
      refine v_ist_3 dL_bestBite_35 (by decide) rfl ?_
      refine v_inc_4 1 dL_bestBite_36 rfl (by decide) rfl ?_
      refine v_goto dL_bestBite_39 ?_
      exact v_kw (ih _ _ hm) (wk_s (wk_s (wk_s (wk_s (wk_s wk_e)))))
theorem ctL_bestBite (G : GG) (d : Nat) (p1 : Int32) (p2 : Int32) (h0 : PH) (r : Int32 × PH) (hm : mL_bestBite p1 p2 h0 = some r) : Kx G tL_bestBite (d + 4) [.ref (gB G + 102), .int p1, .int p2] h0 (some (.int r.1)) r.2 := by
  refine K_of_V (by decide) (by simp [cat_i, cat_r, fmtV_cat]) (by simp [tL_bestBite]) ?_
  change Vx G tL_bestBite (d + 4) 0 [some (.ref (gB G + 102)), some (.int p1), some (.int p2), none, none] [] h0 (some (.int r.1)) r.2
  unfold mL_bestBite at hm
  refine v_ald_0 dL_bestBite_0 ?_
  refine v_getI dL_bestBite_1 fuL_15 sh_102 rf_102_1 ?_
  refine v_j1 (fun (h2 : PH) => Vx G tL_bestBite (d + 4) 16 [some (.ref (gB G + 102)), some (.int p1), some (.int p2), none, none] [] h2 (some (.int r.1)) r.2) hm (fun h2 hm => ?_) (fun j1 kj1 hm => ?_)
  · refine v_iconst (x := 0) dL_bestBite_16 rfl ?_
    refine v_ist_3 dL_bestBite_17 (by decide) rfl ?_
    refine v_iconst (x := 0) dL_bestBite_18 rfl ?_
    refine v_ist_4 dL_bestBite_19 (by decide) rfl ?_
    refine v_kw (wL_bestBite_L21 G d _ _ _ _ _ (fun x4 hm => ?_) FU _ _ hm) (wk_s (wk_s (wk_s (wk_s (wk_s wk_e)))))
    refine v_ald_0 dL_bestBite_42 ?_
    refine v_ild_3 dL_bestBite_43 ?_
    obtain ⟨r5, he, hm⟩ := bd_s hm
    refine v_cv1i (M' := tL_winningBite) dL_bestBite_44 mlL_22 okL_winningBite sh_102 hc_8 (Nat.le_of_ble_eq_true rfl) (ctL_winningBite G (d + 1) _ _ _ he) ?_
    cases hm
    exact v_iret dL_bestBite_47 rfl
  · refine v_if_ne dL_bestBite_4 (fun hc => ?_) (fun hc => ?_)
    · replace hm := it hc hm
      refine v_ald_0 dL_bestBite_7 ?_
      obtain ⟨h6, he, hm⟩ := bd_s hm
      refine v_cv0v (M' := tL_learn) dL_bestBite_8 mlL_19 okL_learn sh_102 hc_8 (Nat.le_of_ble_eq_true rfl) (ctL_learn G d _ _ he) ?_
      refine v_ald_0 dL_bestBite_11 ?_
      refine v_iconst (x := 1) dL_bestBite_12 rfl ?_
      refine v_putZl dL_bestBite_13 fuL_15 ft_8_1 sh_102 rf_102_1 (by decide) hm (fun h7 hm => ?_)
      exact v_kw (kj1 _ hm) (wk_s (wk_s (wk_s (wk_n (wk_n wk_e)))))
    · replace hm := ie hc hm
      exact v_kw (kj1 _ hm) (wk_s (wk_s (wk_s (wk_n (wk_n wk_e)))))
def mK_leastShare_L45 (a0 : Nat) (p2 : Int32) (f0 : Nat → Int32 → Int32 → PH → Option (Int32)) (h0 : PH) : Nat → Int32 → Int32 → Int32 → Option (Int32)
  | 0, _, _, _ => none
  | n + 1, v3, v4, v5 =>
    if ((h0 a0 3) - (p2 - 1)) < v5 then
      some v4
    else
      bd (mR_at a0 (v5 - 1) 0 h0) fun r2 =>
      lt (v3 + r2) fun x3 =>
      bd (f0 a0 v5 (p2 - 1) h0) fun r4 =>
      lt (imax v4 (imin x3 r4)) fun x5 =>
      mK_leastShare_L45 a0 p2 f0 h0 n x3 x5 (v5 + 1)
def mK_leastShare_L10 (a0 : Nat) (f0 : Nat → Int32 → Int32 → PH → Option (Int32)) (h0 : PH) : Nat → Int32 → Int32 → Option (Int32)
  | 0, _, _ => none
  | n + 1, v3, v4 =>
    if (h0 a0 3) ≤ v4 then
      some v3
    else
      bd (mR_at a0 v4 0 h0) fun r6 =>
      lt (v3 + r6) fun x7 =>
      mK_leastShare_L10 a0 f0 h0 n x7 (v4 + 1)
def mK_leastShare_F (f0 : Nat → Int32 → Int32 → PH → Option (Int32)) (a0 : Nat) (p1 : Int32) (p2 : Int32) (h0 : PH) : Option (Int32) :=
  if 1 < p2 then
    lt (p1 + 1) fun x1 =>
    mK_leastShare_L45 a0 p2 f0 h0 FU 0 (-1) x1
  else
    mK_leastShare_L10 a0 f0 h0 FU 0 p1
theorem wK_leastShare_L45 (G : GG) (d : Nat) (a0 : Nat) (p2 : Int32) (f0 : Nat → Int32 → Int32 → PH → Option (Int32)) (h0 : PH) (q0 : shL[a0]? = some (6, 4)) (g0 : ∀ (a0 : Nat) (p1 : Int32) (p2 : Int32) (q0 : shL[a0]? = some (6, 4)) (h0 : PH) (r : Int32), f0 a0 p1 p2 h0 = some r → Kx G tK_leastShare d [.ref (gB G + a0), .int p1, .int p2] h0 (some (.int r)) h0) (r : Int32) : ∀ (n : Nat) (v3 : Int32) (v4 : Int32) (v5 : Int32), mK_leastShare_L45 a0 p2 f0 h0 n v3 v4 v5 = some r → Vx G tK_leastShare (d + 1) 45 [some (.ref (gB G + a0)), none, some (.int p2), some (.int v3), some (.int v4), some (.int v5)] [] h0 (some (.int r)) h0 := by
  intro n
  induction n with
  | zero => intro v3 v4 v5 hm; cases hm
  | succ n ih =>
    intro v3 v4 v5 hm
    unfold mK_leastShare_L45 at hm
    refine v_ild_5 dK_leastShare_45 ?_
    refine v_ald_0 dK_leastShare_47 ?_
    refine v_getI dK_leastShare_48 fuK_21 q0 (rf_rows_3 q0) ?_
    refine v_ild_2 dK_leastShare_51 ?_
    refine v_iconst (x := 1) dK_leastShare_52 rfl ?_
    refine v_isub dK_leastShare_53 ?_
    refine v_isub dK_leastShare_54 ?_
    refine v_cmp_gt dK_leastShare_55 (fun hc => ?_) (fun hc => ?_)
    · replace hm := it hc hm
      refine v_ild_4 dK_leastShare_96 ?_
      cases hm
      exact v_iret dK_leastShare_98 rfl
    · replace hm := ie hc hm
      refine v_ild_3 dK_leastShare_58 ?_
      refine v_ald_0 dK_leastShare_59 ?_
      refine v_ild_5 dK_leastShare_60 ?_
      refine v_iconst (x := 1) dK_leastShare_62 rfl ?_
      refine v_isub dK_leastShare_63 ?_
      refine v_iconst (x := 0) dK_leastShare_64 rfl ?_
      obtain ⟨r2, he, hm⟩ := bd_s hm
      refine v_cv2i (M' := tR_at) dK_leastShare_65 mlK_27 okR_at q0 hc_6 (Nat.le_of_ble_eq_true rfl) (ctR_at G d _ _ _ q0 _ _ he) ?_
      refine v_iadd dK_leastShare_68 ?_
      refine v_top hm (fun x3 hm => ?_)
      refine v_ist_3 dK_leastShare_69 (by decide) rfl ?_
      refine v_ild_4 dK_leastShare_70 ?_
      refine v_ild_3 dK_leastShare_72 ?_
      refine v_ald_0 dK_leastShare_73 ?_
      refine v_ild_5 dK_leastShare_74 ?_
      refine v_ild_2 dK_leastShare_76 ?_
      refine v_iconst (x := 1) dK_leastShare_77 rfl ?_
      refine v_isub dK_leastShare_78 ?_
      obtain ⟨r4, he, hm⟩ := bd_s hm
      refine v_cs3i (M' := tK_leastShare) dK_leastShare_79 mlK_31 okK_leastShare (Nat.le_of_ble_eq_true rfl) (g0 _ _ _ q0 _ _ he) ?_
      refine v_mmin dK_leastShare_82 mlK_35 (Nat.le_of_ble_eq_true rfl) ?_
      refine v_mmax dK_leastShare_85 mlK_40 (Nat.le_of_ble_eq_true rfl) ?_
      refine v_top hm (fun x5 hm => ?_)
      refine v_ist_4 dK_leastShare_88 (by decide) rfl ?_
      refine v_inc_5 1 dK_leastShare_90 rfl (by decide) rfl ?_
      refine v_goto dK_leastShare_93 ?_
      exact v_kw (ih _ _ _ hm) (wk_s (wk_n (wk_s (wk_s (wk_s (wk_s wk_e))))))
theorem wK_leastShare_L10 (G : GG) (d : Nat) (a0 : Nat) (f0 : Nat → Int32 → Int32 → PH → Option (Int32)) (h0 : PH) (q0 : shL[a0]? = some (6, 4)) (g0 : ∀ (a0 : Nat) (p1 : Int32) (p2 : Int32) (q0 : shL[a0]? = some (6, 4)) (h0 : PH) (r : Int32), f0 a0 p1 p2 h0 = some r → Kx G tK_leastShare d [.ref (gB G + a0), .int p1, .int p2] h0 (some (.int r)) h0) (r : Int32) : ∀ (n : Nat) (v3 : Int32) (v4 : Int32), mK_leastShare_L10 a0 f0 h0 n v3 v4 = some r → Vx G tK_leastShare (d + 1) 10 [some (.ref (gB G + a0)), none, none, some (.int v3), some (.int v4), none] [] h0 (some (.int r)) h0 := by
  intro n
  induction n with
  | zero => intro v3 v4 hm; cases hm
  | succ n ih =>
    intro v3 v4 hm
    unfold mK_leastShare_L10 at hm
    refine v_ild_4 dK_leastShare_10 ?_
    refine v_ald_0 dK_leastShare_12 ?_
    refine v_getI dK_leastShare_13 fuK_21 q0 (rf_rows_3 q0) ?_
    refine v_cmp_ge dK_leastShare_16 (fun hc => ?_) (fun hc => ?_)
    · replace hm := it hc hm
      refine v_ild_3 dK_leastShare_35 ?_
      cases hm
      exact v_iret dK_leastShare_36 rfl
    · replace hm := ie hc hm
      refine v_ild_3 dK_leastShare_19 ?_
      refine v_ald_0 dK_leastShare_20 ?_
      refine v_ild_4 dK_leastShare_21 ?_
      refine v_iconst (x := 0) dK_leastShare_23 rfl ?_
      obtain ⟨r6, he, hm⟩ := bd_s hm
      refine v_cv2i (M' := tR_at) dK_leastShare_24 mlK_27 okR_at q0 hc_6 (Nat.le_of_ble_eq_true rfl) (ctR_at G d _ _ _ q0 _ _ he) ?_
      refine v_iadd dK_leastShare_27 ?_
      refine v_top hm (fun x7 hm => ?_)
      refine v_ist_3 dK_leastShare_28 (by decide) rfl ?_
      refine v_inc_4 1 dK_leastShare_29 rfl (by decide) rfl ?_
      refine v_goto dK_leastShare_32 ?_
      exact v_kw (ih _ _ hm) (wk_s (wk_n (wk_n (wk_s (wk_s (wk_n wk_e))))))
theorem ctK_leastShare_F (G : GG) (d : Nat) (f0 : Nat → Int32 → Int32 → PH → Option (Int32)) (g0 : ∀ (a0 : Nat) (p1 : Int32) (p2 : Int32) (q0 : shL[a0]? = some (6, 4)) (h0 : PH) (r : Int32), f0 a0 p1 p2 h0 = some r → Kx G tK_leastShare d [.ref (gB G + a0), .int p1, .int p2] h0 (some (.int r)) h0) (a0 : Nat) (p1 : Int32) (p2 : Int32) (q0 : shL[a0]? = some (6, 4)) (h0 : PH) (r : Int32) (hm : mK_leastShare_F f0 a0 p1 p2 h0 = some r) : Kx G tK_leastShare (d + 1) [.ref (gB G + a0), .int p1, .int p2] h0 (some (.int r)) h0 := by
  refine K_of_V (by decide) (by simp [cat_i, cat_r, fmtV_cat]) (by simp [tK_leastShare]) ?_
  change Vx G tK_leastShare (d + 1) 0 [some (.ref (gB G + a0)), some (.int p1), some (.int p2), none, none, none] [] h0 (some (.int r)) h0
  unfold mK_leastShare_F at hm
  refine v_iconst (x := 0) dK_leastShare_0 rfl ?_
  refine v_ist_3 dK_leastShare_1 (by decide) rfl ?_
  refine v_ild_2 dK_leastShare_2 ?_
  refine v_iconst (x := 1) dK_leastShare_3 rfl ?_
  refine v_cmp_gt dK_leastShare_4 (fun hc => ?_) (fun hc => ?_)
  · replace hm := it hc hm
    refine v_iconst (x := (-1)) dK_leastShare_37 rfl ?_
    refine v_ist_4 dK_leastShare_38 (by decide) rfl ?_
    refine v_ild_1 dK_leastShare_40 ?_
    refine v_iconst (x := 1) dK_leastShare_41 rfl ?_
    refine v_iadd dK_leastShare_42 ?_
    refine v_top hm (fun x1 hm => ?_)
    refine v_ist_5 dK_leastShare_43 (by decide) rfl ?_
    exact v_kw (wK_leastShare_L45 G d _ _ _ _ q0 g0 _ FU _ _ _ hm) (wk_s (wk_n (wk_s (wk_s (wk_s (wk_s wk_e))))))
  · replace hm := ie hc hm
    refine v_ild_1 dK_leastShare_7 ?_
    refine v_ist_4 dK_leastShare_8 (by decide) rfl ?_
    exact v_kw (wK_leastShare_L10 G d _ _ _ q0 g0 _ FU _ _ hm) (wk_s (wk_n (wk_n (wk_s (wk_s (wk_n wk_e))))))
def mK_leastShare : Nat → Nat → Int32 → Int32 → PH → Option (Int32)
  | 0, _, _, _, _ => none
  | n + 1, a0, p1, p2, h0 => mK_leastShare_F (mK_leastShare n) a0 p1 p2 h0
theorem ctK_leastShare (G : GG) : ∀ (n d : Nat) (a0 : Nat) (p1 : Int32) (p2 : Int32) (q0 : shL[a0]? = some (6, 4)) (h0 : PH) (r : Int32), mK_leastShare n a0 p1 p2 h0 = some r → Kx G tK_leastShare (d + n) [.ref (gB G + a0), .int p1, .int p2] h0 (some (.int r)) h0 := by
  intro n
  induction n with
  | zero => intro d a0 p1 p2 q0 h0 r hm; cases hm
  | succ n ih =>
    intro d a0 p1 p2 q0 h0 r hm
    exact ctK_leastShare_F G (d + n) (mK_leastShare n) (ih d) a0 p1 p2 q0 h0 r hm
def mK_secondShare_L19 (a0 : Nat) (p1 : Int32) (p2 : Int32) (h0 : PH) : Nat → Int32 → Int32 → Option (Int32)
  | 0, _, _ => none
  | n + 1, v3, v4 =>
    if (h0 a0 3) ≤ v4 then
      some (-1)
    else
      bd (mR_at a0 (v4 - 1) 0 h0) fun r2 =>
      lt (v3 + r2) fun x3 =>
      bd (mK_leastShare 30 a0 v4 (p1 - 1) h0) fun r4 =>
      if (imin x3 r4) = p2 then
        some v4
      else
        mK_secondShare_L19 a0 p1 p2 h0 n x3 (v4 + 1)
def mK_secondShare (a0 : Nat) (p1 : Int32) (h0 : PH) : Option (Int32) :=
  if 1 < p1 then
    bd (mK_leastShare 30 a0 0 p1 h0) fun r1 =>
    mK_secondShare_L19 a0 p1 r1 h0 FU 0 1
  else
    some (-1)
theorem wK_secondShare_L19 (G : GG) (d : Nat) (a0 : Nat) (p1 : Int32) (p2 : Int32) (h0 : PH) (q0 : shL[a0]? = some (6, 4)) (r : Int32) : ∀ (n : Nat) (v3 : Int32) (v4 : Int32), mK_secondShare_L19 a0 p1 p2 h0 n v3 v4 = some r → Vx G tK_secondShare (d + 31) 19 [some (.ref (gB G + a0)), some (.int p1), some (.int p2), some (.int v3), some (.int v4)] [] h0 (some (.int r)) h0 := by
  intro n
  induction n with
  | zero => intro v3 v4 hm; cases hm
  | succ n ih =>
    intro v3 v4 hm
    unfold mK_secondShare_L19 at hm
    refine v_ild_4 dK_secondShare_19 ?_
    refine v_ald_0 dK_secondShare_21 ?_
    refine v_getI dK_secondShare_22 fuK_21 q0 (rf_rows_3 q0) ?_
    refine v_cmp_ge dK_secondShare_25 (fun hc => ?_) (fun hc => ?_)
    · replace hm := it hc hm
      refine v_iconst (x := (-1)) dK_secondShare_66 rfl ?_
      cases hm
      exact v_iret dK_secondShare_67 rfl
    · replace hm := ie hc hm
      refine v_ild_3 dK_secondShare_28 ?_
      refine v_ald_0 dK_secondShare_29 ?_
      refine v_ild_4 dK_secondShare_30 ?_
      refine v_iconst (x := 1) dK_secondShare_32 rfl ?_
      refine v_isub dK_secondShare_33 ?_
      refine v_iconst (x := 0) dK_secondShare_34 rfl ?_
      obtain ⟨r2, he, hm⟩ := bd_s hm
      refine v_cv2i (M' := tR_at) dK_secondShare_35 mlK_27 okR_at q0 hc_6 (Nat.le_of_ble_eq_true rfl) (ctR_at G (d + 30) _ _ _ q0 _ _ he) ?_
      refine v_iadd dK_secondShare_38 ?_
      refine v_top hm (fun x3 hm => ?_)
      refine v_ist_3 dK_secondShare_39 (by decide) rfl ?_
      refine v_ild_3 dK_secondShare_40 ?_
      refine v_ald_0 dK_secondShare_41 ?_
      refine v_ild_4 dK_secondShare_42 ?_
      refine v_ild_1 dK_secondShare_44 ?_
      refine v_iconst (x := 1) dK_secondShare_45 rfl ?_
      refine v_isub dK_secondShare_46 ?_
      obtain ⟨r4, he, hm⟩ := bd_s hm
      refine v_cs3i (M' := tK_leastShare) dK_secondShare_47 mlK_31 okK_leastShare (Nat.le_of_ble_eq_true rfl) (ctK_leastShare G 30 d _ _ _ q0 _ _ he) ?_
      refine v_mmin dK_secondShare_50 mlK_35 (Nat.le_of_ble_eq_true rfl) ?_
      refine v_ild_2 dK_secondShare_53 ?_
      refine v_cmp_ne dK_secondShare_54 (fun hc => ?_) (fun hc => ?_)
      · replace hm := it hc hm
        refine v_ild_4 dK_secondShare_57 ?_
        cases hm
        exact v_iret dK_secondShare_59 rfl
      · replace hm := ie hc hm
        refine v_inc_4 1 dK_secondShare_60 rfl (by decide) rfl ?_
        refine v_goto dK_secondShare_63 ?_
        exact v_kw (ih _ _ hm) (wk_s (wk_s (wk_s (wk_s (wk_s wk_e)))))
theorem ctK_secondShare (G : GG) (d : Nat) (a0 : Nat) (p1 : Int32) (q0 : shL[a0]? = some (6, 4)) (h0 : PH) (r : Int32) (hm : mK_secondShare a0 p1 h0 = some r) : Kx G tK_secondShare (d + 31) [.ref (gB G + a0), .int p1] h0 (some (.int r)) h0 := by
  refine K_of_V (by decide) (by simp [cat_i, cat_r, fmtV_cat]) (by simp [tK_secondShare]) ?_
  change Vx G tK_secondShare (d + 31) 0 [some (.ref (gB G + a0)), some (.int p1), none, none, none] [] h0 (some (.int r)) h0
  unfold mK_secondShare at hm
  refine v_ild_1 dK_secondShare_0 ?_
  refine v_iconst (x := 1) dK_secondShare_1 rfl ?_
  refine v_cmp_gt dK_secondShare_2 (fun hc => ?_) (fun hc => ?_)
  · replace hm := it hc hm
    refine v_ald_0 dK_secondShare_7 ?_
    refine v_iconst (x := 0) dK_secondShare_8 rfl ?_
    refine v_ild_1 dK_secondShare_9 ?_
    obtain ⟨r1, he, hm⟩ := bd_s hm
    refine v_cs3i (M' := tK_leastShare) dK_secondShare_10 mlK_31 okK_leastShare (Nat.le_of_ble_eq_true rfl) (ctK_leastShare G 30 d _ _ _ q0 _ _ he) ?_
    refine v_ist_2 dK_secondShare_13 (by decide) rfl ?_
    refine v_iconst (x := 0) dK_secondShare_14 rfl ?_
    refine v_ist_3 dK_secondShare_15 (by decide) rfl ?_
    refine v_iconst (x := 1) dK_secondShare_16 rfl ?_
    refine v_ist_4 dK_secondShare_17 (by decide) rfl ?_
    exact v_kw (wK_secondShare_L19 G d _ _ _ _ q0 _ FU _ _ hm) (wk_s (wk_s (wk_s (wk_s (wk_s wk_e)))))
  · replace hm := ie hc hm
    refine v_iconst (x := (-1)) dK_secondShare_5 rfl ?_
    cases hm
    exact v_iret dK_secondShare_6 rfl
def mK_greatest_L4 (a0 : Nat) (h0 : PH) : Nat → Int32 → Int32 → Option (Int32)
  | 0, _, _ => none
  | n + 1, v1, v2 =>
    if (h0 a0 3) ≤ v2 then
      some v1
    else
      bd (mR_at a0 v2 0 h0) fun r1 =>
      lt (imax v1 r1) fun x2 =>
      mK_greatest_L4 a0 h0 n x2 (v2 + 1)
def mK_greatest (a0 : Nat) (h0 : PH) : Option (Int32) :=
  mK_greatest_L4 a0 h0 FU 0 0
theorem wK_greatest_L4 (G : GG) (d : Nat) (a0 : Nat) (h0 : PH) (q0 : shL[a0]? = some (6, 4)) (r : Int32) : ∀ (n : Nat) (v1 : Int32) (v2 : Int32), mK_greatest_L4 a0 h0 n v1 v2 = some r → Vx G tK_greatest (d + 1) 4 [some (.ref (gB G + a0)), some (.int v1), some (.int v2)] [] h0 (some (.int r)) h0 := by
  intro n
  induction n with
  | zero => intro v1 v2 hm; cases hm
  | succ n ih =>
    intro v1 v2 hm
    unfold mK_greatest_L4 at hm
    refine v_ild_2 dK_greatest_4 ?_
    refine v_ald_0 dK_greatest_5 ?_
    refine v_getI dK_greatest_6 fuK_21 q0 (rf_rows_3 q0) ?_
    refine v_cmp_ge dK_greatest_9 (fun hc => ?_) (fun hc => ?_)
    · replace hm := it hc hm
      refine v_ild_1 dK_greatest_29 ?_
      cases hm
      exact v_iret dK_greatest_30 rfl
    · replace hm := ie hc hm
      refine v_ild_1 dK_greatest_12 ?_
      refine v_ald_0 dK_greatest_13 ?_
      refine v_ild_2 dK_greatest_14 ?_
      refine v_iconst (x := 0) dK_greatest_15 rfl ?_
      obtain ⟨r1, he, hm⟩ := bd_s hm
      refine v_cv2i (M' := tR_at) dK_greatest_16 mlK_27 okR_at q0 hc_6 (Nat.le_of_ble_eq_true rfl) (ctR_at G d _ _ _ q0 _ _ he) ?_
      refine v_mmax dK_greatest_19 mlK_40 (Nat.le_of_ble_eq_true rfl) ?_
      refine v_top hm (fun x2 hm => ?_)
      refine v_ist_1 dK_greatest_22 (by decide) rfl ?_
      refine v_inc_2 1 dK_greatest_23 rfl (by decide) rfl ?_
      refine v_goto dK_greatest_26 ?_
      exact v_kw (ih _ _ hm) (wk_s (wk_s (wk_s wk_e)))
theorem ctK_greatest (G : GG) (d : Nat) (a0 : Nat) (q0 : shL[a0]? = some (6, 4)) (h0 : PH) (r : Int32) (hm : mK_greatest a0 h0 = some r) : Kx G tK_greatest (d + 1) [.ref (gB G + a0)] h0 (some (.int r)) h0 := by
  refine K_of_V (by decide) (by simp [cat_i, cat_r, fmtV_cat]) (by simp [tK_greatest]) ?_
  change Vx G tK_greatest (d + 1) 0 [some (.ref (gB G + a0)), none, none] [] h0 (some (.int r)) h0
  unfold mK_greatest at hm
  refine v_iconst (x := 0) dK_greatest_0 rfl ?_
  refine v_ist_1 dK_greatest_1 (by decide) rfl ?_
  refine v_iconst (x := 0) dK_greatest_2 rfl ?_
  refine v_ist_2 dK_greatest_3 (by decide) rfl ?_
  exact v_kw (wK_greatest_L4 G d _ _ q0 _ FU _ _ hm) (wk_s (wk_s (wk_s wk_e)))
def mK_fewestFrom_L26 (a1 : Nat) (p2 : Int32) (p3 : Int32) (p4 : Int32) (p5 : Int32) (f0 : Nat → Int32 → Int32 → Int32 → PH → Option (Int32 × PH)) : Nat → Int32 → Int32 → PH → Option (Int32 × PH)
  | 0, _, _, _ => none
  | n + 1, v6, v7, hv =>
    if p4 < v7 then
      some (v6, hv)
    else
      if 8 ≤ v7 then
        some (v6, hv)
      else
        jn1 (fun (x3 : Int32) =>
          if p2 < (x3 + p5) then
            mK_fewestFrom_L26 a1 p2 p3 p4 p5 f0 n v6 (v7 + 1) hv
          else
            ck v7 8 <|
            lt (up hv 99 (ix v7) (x3 + p5)) fun h4 =>
            bd2 (f0 a1 p2 (p3 + 1) (imax p4 (v7 + 1)) h4) fun r5 h6 =>
            lt (imin v6 r5) fun x7 =>
            ck v7 8 <|
            lt (up h6 99 (ix v7) x3) fun h8 =>
            mK_fewestFrom_L26 a1 p2 p3 p4 p5 f0 n x7 (v7 + 1) h8) fun j2 =>
        if p4 ≤ v7 then
          j2 0
        else
          ck v7 8 <|
          j2 (hv 99 (ix v7))
def mK_fewestFrom_F (f0 : Nat → Int32 → Int32 → Int32 → PH → Option (Int32 × PH)) (a1 : Nat) (p2 : Int32) (p3 : Int32) (p4 : Int32) (h0 : PH) : Option (Int32 × PH) :=
  if p3 < (h0 a1 3) then
    bd (mR_at a1 p3 0 h0) fun r1 =>
    mK_fewestFrom_L26 a1 p2 p3 p4 r1 f0 FU 8 0 h0
  else
    some (p4, h0)
theorem wK_fewestFrom_L26 (G : GG) (d : Nat) (a1 : Nat) (p2 : Int32) (p3 : Int32) (p4 : Int32) (p5 : Int32) (f0 : Nat → Int32 → Int32 → Int32 → PH → Option (Int32 × PH)) (q1 : shL[a1]? = some (6, 4)) (g0 : ∀ (a1 : Nat) (p2 : Int32) (p3 : Int32) (p4 : Int32) (q1 : shL[a1]? = some (6, 4)) (h0 : PH) (r : Int32 × PH), f0 a1 p2 p3 p4 h0 = some r → Kx G tK_fewestFrom d [.ref (gB G + 99), .ref (gB G + a1), .int p2, .int p3, .int p4] h0 (some (.int r.1)) r.2) (r : Int32 × PH) : ∀ (n : Nat) (v6 : Int32) (v7 : Int32) (hv : PH), mK_fewestFrom_L26 a1 p2 p3 p4 p5 f0 n v6 v7 hv = some r → Vx G tK_fewestFrom (d + 1) 26 [some (.ref (gB G + 99)), some (.ref (gB G + a1)), some (.int p2), some (.int p3), some (.int p4), some (.int p5), some (.int v6), some (.int v7), none] [] hv (some (.int r.1)) r.2 := by
  intro n
  induction n with
  | zero => intro v6 v7 hv hm; cases hm
  | succ n ih =>
    intro v6 v7 hv hm
    unfold mK_fewestFrom_L26 at hm
    refine v_ild_7 dK_fewestFrom_26 ?_
    refine v_ild_4 dK_fewestFrom_28 ?_
    refine v_cmp_gt dK_fewestFrom_30 (fun hc => ?_) (fun hc => ?_)
    · replace hm := it hc hm
      refine v_ild_6 dK_fewestFrom_112 ?_
      cases hm
      exact v_iret dK_fewestFrom_114 rfl
    · replace hm := ie hc hm
      refine v_ild_7 dK_fewestFrom_33 ?_
      refine v_ald_0 dK_fewestFrom_35 ?_
      refine v_alen (x := 8) dK_fewestFrom_36 sh_99 rfl ?_
      refine v_cmp_ge dK_fewestFrom_37 (fun hc => ?_) (fun hc => ?_)
      · replace hm := it hc hm
        refine v_ild_6 dK_fewestFrom_112 ?_
        cases hm
        exact v_iret dK_fewestFrom_114 rfl
      · replace hm := ie hc hm
        refine v_ild_7 dK_fewestFrom_40 ?_
        refine v_ild_4 dK_fewestFrom_42 ?_
        refine v_j1 (fun (x3 : Int32) => Vx G tK_fewestFrom (d + 1) 55 [some (.ref (gB G + 99)), some (.ref (gB G + a1)), some (.int p2), some (.int p3), some (.int p4), some (.int p5), some (.int v6), some (.int v7), none] [.int x3] hv (some (.int r.1)) r.2) hm (fun x3 hm => ?_) (fun j2 kj2 hm => ?_)
        · refine v_ist_8 dK_fewestFrom_55 (by decide) rfl ?_
          refine v_ild_8 dK_fewestFrom_57 ?_
          refine v_ild_5 dK_fewestFrom_59 ?_
          refine v_iadd dK_fewestFrom_61 ?_
          refine v_ild_2 dK_fewestFrom_62 ?_
          refine v_cmp_gt dK_fewestFrom_63 (fun hc => ?_) (fun hc => ?_)
          · replace hm := it hc hm
            refine v_inc_7 1 dK_fewestFrom_106 rfl (by decide) rfl ?_
            refine v_goto dK_fewestFrom_109 ?_
            exact v_kw (ih _ _ _ hm) (wk_s (wk_s (wk_s (wk_s (wk_s (wk_s (wk_s (wk_s (wk_n wk_e)))))))))
          · replace hm := ie hc hm
            refine v_ald_0 dK_fewestFrom_66 ?_
            refine v_ild_7 dK_fewestFrom_67 ?_
            refine v_ild_8 dK_fewestFrom_69 ?_
            refine v_ild_5 dK_fewestFrom_71 ?_
            refine v_iadd dK_fewestFrom_73 ?_
            obtain ⟨hi, hm⟩ := ck_s hm
            refine v_iastl dK_fewestFrom_74 sh_99 hi hm (fun h4 hm => ?_)
            refine v_ild_6 dK_fewestFrom_75 ?_
            refine v_ald_0 dK_fewestFrom_77 ?_
            refine v_ald_1 dK_fewestFrom_78 ?_
            refine v_ild_2 dK_fewestFrom_79 ?_
            refine v_ild_3 dK_fewestFrom_80 ?_
            refine v_iconst (x := 1) dK_fewestFrom_81 rfl ?_
            refine v_iadd dK_fewestFrom_82 ?_
            refine v_ild_4 dK_fewestFrom_83 ?_
            refine v_ild_7 dK_fewestFrom_85 ?_
            refine v_iconst (x := 1) dK_fewestFrom_87 rfl ?_
            refine v_iadd dK_fewestFrom_88 ?_
            refine v_mmax dK_fewestFrom_89 mlK_40 (Nat.le_of_ble_eq_true rfl) ?_
            obtain ⟨r5, h6, he, hm⟩ := bd2_s hm
            refine v_cs5i (M' := tK_fewestFrom) dK_fewestFrom_92 mlK_43 okK_fewestFrom (Nat.le_of_ble_eq_true rfl) (g0 _ _ _ _ q1 _ _ he) ?_
            refine v_mmin dK_fewestFrom_95 mlK_35 (Nat.le_of_ble_eq_true rfl) ?_
            refine v_top hm (fun x7 hm => ?_)
            refine v_ist_6 dK_fewestFrom_98 (by decide) rfl ?_
            refine v_ald_0 dK_fewestFrom_100 ?_
            refine v_ild_7 dK_fewestFrom_101 ?_
            refine v_ild_8 dK_fewestFrom_103 ?_
            obtain ⟨hi, hm⟩ := ck_s hm
            refine v_iastl dK_fewestFrom_105 sh_99 hi hm (fun h8 hm => ?_)
            refine v_inc_7 1 dK_fewestFrom_106 rfl (by decide) rfl ?_
            refine v_goto dK_fewestFrom_109 ?_
            exact v_kw (ih _ _ _ hm) (wk_s (wk_s (wk_s (wk_s (wk_s (wk_s (wk_s (wk_s (wk_n wk_e)))))))))
        · refine v_cmp_ge dK_fewestFrom_44 (fun hc => ?_) (fun hc => ?_)
          · replace hm := it hc hm
            refine v_iconst (x := 0) dK_fewestFrom_54 rfl ?_
            exact v_kw (kj2 _ hm) (wk_s (wk_s (wk_s (wk_s (wk_s (wk_s (wk_s (wk_s (wk_n wk_e)))))))))
          · replace hm := ie hc hm
            refine v_ald_0 dK_fewestFrom_47 ?_
            refine v_ild_7 dK_fewestFrom_48 ?_
            obtain ⟨hi, hm⟩ := ck_s hm
            refine v_iald dK_fewestFrom_50 sh_99 hi ?_
            refine v_goto dK_fewestFrom_51 ?_
            exact v_kw (kj2 _ hm) (wk_s (wk_s (wk_s (wk_s (wk_s (wk_s (wk_s (wk_s (wk_n wk_e)))))))))
theorem ctK_fewestFrom_F (G : GG) (d : Nat) (f0 : Nat → Int32 → Int32 → Int32 → PH → Option (Int32 × PH)) (g0 : ∀ (a1 : Nat) (p2 : Int32) (p3 : Int32) (p4 : Int32) (q1 : shL[a1]? = some (6, 4)) (h0 : PH) (r : Int32 × PH), f0 a1 p2 p3 p4 h0 = some r → Kx G tK_fewestFrom d [.ref (gB G + 99), .ref (gB G + a1), .int p2, .int p3, .int p4] h0 (some (.int r.1)) r.2) (a1 : Nat) (p2 : Int32) (p3 : Int32) (p4 : Int32) (q1 : shL[a1]? = some (6, 4)) (h0 : PH) (r : Int32 × PH) (hm : mK_fewestFrom_F f0 a1 p2 p3 p4 h0 = some r) : Kx G tK_fewestFrom (d + 1) [.ref (gB G + 99), .ref (gB G + a1), .int p2, .int p3, .int p4] h0 (some (.int r.1)) r.2 := by
  refine K_of_V (by decide) (by simp [cat_i, cat_r, fmtV_cat]) (by simp [tK_fewestFrom]) ?_
  change Vx G tK_fewestFrom (d + 1) 0 [some (.ref (gB G + 99)), some (.ref (gB G + a1)), some (.int p2), some (.int p3), some (.int p4), none, none, none, none] [] h0 (some (.int r.1)) r.2
  unfold mK_fewestFrom_F at hm
  refine v_ild_3 dK_fewestFrom_0 ?_
  refine v_ald_1 dK_fewestFrom_1 ?_
  refine v_getI dK_fewestFrom_2 fuK_21 q1 (rf_rows_3 q1) ?_
  refine v_cmp_lt dK_fewestFrom_5 (fun hc => ?_) (fun hc => ?_)
  · replace hm := it hc hm
    refine v_ald_1 dK_fewestFrom_11 ?_
    refine v_ild_3 dK_fewestFrom_12 ?_
    refine v_iconst (x := 0) dK_fewestFrom_13 rfl ?_
    obtain ⟨r1, he, hm⟩ := bd_s hm
    refine v_cv2i (M' := tR_at) dK_fewestFrom_14 mlK_27 okR_at q1 hc_6 (Nat.le_of_ble_eq_true rfl) (ctR_at G d _ _ _ q1 _ _ he) ?_
    refine v_ist_5 dK_fewestFrom_17 (by decide) rfl ?_
    refine v_bipush (x := 8) dK_fewestFrom_19 rfl ?_
    refine v_ist_6 dK_fewestFrom_21 (by decide) rfl ?_
    refine v_iconst (x := 0) dK_fewestFrom_23 rfl ?_
    refine v_ist_7 dK_fewestFrom_24 (by decide) rfl ?_
    exact v_kw (wK_fewestFrom_L26 G d _ _ _ _ _ _ q1 g0 _ FU _ _ _ hm) (wk_s (wk_s (wk_s (wk_s (wk_s (wk_s (wk_s (wk_s (wk_n wk_e)))))))))
  · replace hm := ie hc hm
    refine v_ild_4 dK_fewestFrom_8 ?_
    cases hm
    exact v_iret dK_fewestFrom_10 rfl
def mK_fewestFrom : Nat → Nat → Int32 → Int32 → Int32 → PH → Option (Int32 × PH)
  | 0, _, _, _, _, _ => none
  | n + 1, a1, p2, p3, p4, h0 => mK_fewestFrom_F (mK_fewestFrom n) a1 p2 p3 p4 h0
theorem ctK_fewestFrom (G : GG) : ∀ (n d : Nat) (a1 : Nat) (p2 : Int32) (p3 : Int32) (p4 : Int32) (q1 : shL[a1]? = some (6, 4)) (h0 : PH) (r : Int32 × PH), mK_fewestFrom n a1 p2 p3 p4 h0 = some r → Kx G tK_fewestFrom (d + n) [.ref (gB G + 99), .ref (gB G + a1), .int p2, .int p3, .int p4] h0 (some (.int r.1)) r.2 := by
  intro n
  induction n with
  | zero => intro d a1 p2 p3 p4 q1 h0 r hm; cases hm
  | succ n ih =>
    intro d a1 p2 p3 p4 q1 h0 r hm
    exact ctK_fewestFrom_F G (d + n) (mK_fewestFrom n) (ih d) a1 p2 p3 p4 q1 h0 r hm
def mK_fewestPans (a1 : Nat) (p2 : Int32) (h0 : PH) : Option (Int32 × PH) :=
  bd2 (mK_fewestFrom 30 a1 p2 0 0 h0) fun r1 h2 =>
  some (r1, h2)
theorem ctK_fewestPans (G : GG) (d : Nat) (a1 : Nat) (p2 : Int32) (q1 : shL[a1]? = some (6, 4)) (h0 : PH) (r : Int32 × PH) (hm : mK_fewestPans a1 p2 h0 = some r) : Kx G tK_fewestPans (d + 31) [.ref (gB G + 98), .ref (gB G + a1), .int p2] h0 (some (.int r.1)) r.2 := by
  refine K_of_V (by decide) (by simp [cat_i, cat_r, fmtV_cat]) (by simp [tK_fewestPans]) ?_
  change Vx G tK_fewestPans (d + 31) 0 [some (.ref (gB G + 98)), some (.ref (gB G + a1)), some (.int p2)] [] h0 (some (.int r.1)) r.2
  unfold mK_fewestPans at hm
  refine v_ald_0 dK_fewestPans_0 ?_
  refine v_getR dK_fewestPans_1 fuK_11 sh_98 rf_98_0 ?_
  refine v_ald_1 dK_fewestPans_4 ?_
  refine v_ild_2 dK_fewestPans_5 ?_
  refine v_iconst (x := 0) dK_fewestPans_6 rfl ?_
  refine v_iconst (x := 0) dK_fewestPans_7 rfl ?_
  obtain ⟨r1, h2, he, hm⟩ := bd2_s hm
  refine v_cs5i (M' := tK_fewestFrom) dK_fewestPans_8 mlK_43 okK_fewestFrom (Nat.le_of_ble_eq_true rfl) (ctK_fewestFrom G 30 d _ _ _ _ q1 _ _ he) ?_
  cases hm
  exact v_iret dK_fewestPans_11 rfl
def mK_firstFitPans_L26 (a1 : Nat) (p2 : Int32) (p3 : Int32) (p4 : Int32) (p5 : Int32) (h0 : PH) (k0 : Int32 → Option (Int32 × PH)) : Nat → Int32 → Option (Int32 × PH)
  | 0, _ => none
  | n + 1, v6 =>
    if p3 ≤ v6 then
      k0 v6
    else
      ck v6 8 <|
      if ((h0 99 (ix v6)) + p5) ≤ p2 then
        k0 v6
      else
        mK_firstFitPans_L26 a1 p2 p3 p4 p5 h0 k0 n (v6 + 1)
def mK_firstFitPans_L5 (a1 : Nat) (p2 : Int32) : Nat → Int32 → Int32 → PH → Option (Int32 × PH)
  | 0, _, _, _ => none
  | n + 1, v3, v4, hv =>
    if (hv a1 3) ≤ v4 then
      some (v3, hv)
    else
      bd (mR_at a1 v4 0 hv) fun r1 =>
      mK_firstFitPans_L26 a1 p2 v3 v4 r1 hv (fun (x2 : Int32) =>
        if 8 ≤ x2 then
          mK_firstFitPans_L5 a1 p2 n v3 (v4 + 1) hv
        else
          jn1 (fun (x4 : Int32) =>
            ck x2 8 <|
            lt (up hv 99 (ix x2) x4) fun h5 =>
            lt (imax v3 (x2 + 1)) fun x6 =>
            mK_firstFitPans_L5 a1 p2 n x6 (v4 + 1) h5) fun j3 =>
          if v3 ≤ x2 then
            j3 r1
          else
            ck x2 8 <|
            j3 ((hv 99 (ix x2)) + r1)) FU 0
def mK_firstFitPans (a1 : Nat) (p2 : Int32) (h0 : PH) : Option (Int32 × PH) :=
  mK_firstFitPans_L5 a1 p2 FU 0 0 h0
theorem wK_firstFitPans_L26 (G : GG) (d : Nat) (a1 : Nat) (p2 : Int32) (p3 : Int32) (p4 : Int32) (p5 : Int32) (h0 : PH) (q1 : shL[a1]? = some (6, 4)) (k0 : Int32 → Option (Int32 × PH)) (r : Int32 × PH) (kk0 : ∀ (y6 : Int32), k0 y6 = some r → Vx G tK_firstFitPans (d + 1) 52 [some (.ref (gB G + 98)), some (.ref (gB G + a1)), some (.int p2), some (.int p3), some (.int p4), some (.int p5), some (.int y6)] [] h0 (some (.int r.1)) r.2) : ∀ (n : Nat) (v6 : Int32), mK_firstFitPans_L26 a1 p2 p3 p4 p5 h0 k0 n v6 = some r → Vx G tK_firstFitPans (d + 1) 26 [some (.ref (gB G + 98)), some (.ref (gB G + a1)), some (.int p2), some (.int p3), some (.int p4), some (.int p5), some (.int v6)] [] h0 (some (.int r.1)) r.2 := by
  intro n
  induction n with
  | zero => intro v6 hm; cases hm
  | succ n ih =>
    intro v6 hm
    unfold mK_firstFitPans_L26 at hm
    refine v_ild_6 dK_firstFitPans_26 ?_
    refine v_ild_3 dK_firstFitPans_28 ?_
    refine v_cmp_ge dK_firstFitPans_29 (fun hc => ?_) (fun hc => ?_)
    · replace hm := it hc hm
      exact v_kw (kk0 _ hm) (wk_s (wk_s (wk_s (wk_s (wk_s (wk_s (wk_s wk_e)))))))
    · replace hm := ie hc hm
      refine v_ald_0 dK_firstFitPans_32 ?_
      refine v_getR dK_firstFitPans_33 fuK_11 sh_98 rf_98_0 ?_
      refine v_ild_6 dK_firstFitPans_36 ?_
      obtain ⟨hi, hm⟩ := ck_s hm
      refine v_iald dK_firstFitPans_38 sh_99 hi ?_
      refine v_ild_5 dK_firstFitPans_39 ?_
      refine v_iadd dK_firstFitPans_41 ?_
      refine v_ild_2 dK_firstFitPans_42 ?_
      refine v_cmp_le dK_firstFitPans_43 (fun hc => ?_) (fun hc => ?_)
      · replace hm := it hc hm
        exact v_kw (kk0 _ hm) (wk_s (wk_s (wk_s (wk_s (wk_s (wk_s (wk_s wk_e)))))))
      · replace hm := ie hc hm
        refine v_inc_6 1 dK_firstFitPans_46 rfl (by decide) rfl ?_
        refine v_goto dK_firstFitPans_49 ?_
        exact v_kw (ih _ hm) (wk_s (wk_s (wk_s (wk_s (wk_s (wk_s (wk_s wk_e)))))))
theorem wK_firstFitPans_L5 (G : GG) (d : Nat) (a1 : Nat) (p2 : Int32) (q1 : shL[a1]? = some (6, 4)) (r : Int32 × PH) : ∀ (n : Nat) (v3 : Int32) (v4 : Int32) (hv : PH), mK_firstFitPans_L5 a1 p2 n v3 v4 hv = some r → Vx G tK_firstFitPans (d + 1) 5 [some (.ref (gB G + 98)), some (.ref (gB G + a1)), some (.int p2), some (.int v3), some (.int v4), none, none] [] hv (some (.int r.1)) r.2 := by
  intro n
  induction n with
  | zero => intro v3 v4 hv hm; cases hm
  | succ n ih =>
    intro v3 v4 hv hm
    unfold mK_firstFitPans_L5 at hm
    refine v_ild_4 dK_firstFitPans_5 ?_
    refine v_ald_1 dK_firstFitPans_7 ?_
    refine v_getI dK_firstFitPans_8 fuK_21 q1 (rf_rows_3 q1) ?_
    refine v_cmp_ge dK_firstFitPans_11 (fun hc => ?_) (fun hc => ?_)
    · replace hm := it hc hm
      refine v_ild_3 dK_firstFitPans_102 ?_
      cases hm
      exact v_iret dK_firstFitPans_103 rfl
    · replace hm := ie hc hm
      refine v_ald_1 dK_firstFitPans_14 ?_
      refine v_ild_4 dK_firstFitPans_15 ?_
      refine v_iconst (x := 0) dK_firstFitPans_17 rfl ?_
      obtain ⟨r1, he, hm⟩ := bd_s hm
      refine v_cv2i (M' := tR_at) dK_firstFitPans_18 mlK_27 okR_at q1 hc_6 (Nat.le_of_ble_eq_true rfl) (ctR_at G d _ _ _ q1 _ _ he) ?_
      refine v_ist_5 dK_firstFitPans_21 (by decide) rfl ?_
      refine v_iconst (x := 0) dK_firstFitPans_23 rfl ?_
      refine v_ist_6 dK_firstFitPans_24 (by decide) rfl ?_
      refine v_kw (wK_firstFitPans_L26 G d _ _ _ _ _ _ q1 _ _ (fun x2 hm => ?_) FU _ hm) (wk_s (wk_s (wk_s (wk_s (wk_s (wk_s (wk_s wk_e)))))))
      refine v_ild_6 dK_firstFitPans_52 ?_
      refine v_bipush (x := 8) dK_firstFitPans_54 rfl ?_
      refine v_cmp_ge dK_firstFitPans_56 (fun hc => ?_) (fun hc => ?_)
      · replace hm := it hc hm
        refine v_inc_4 1 dK_firstFitPans_96 rfl (by decide) rfl ?_
        refine v_goto dK_firstFitPans_99 ?_
        exact v_kw (ih _ _ _ hm) (wk_s (wk_s (wk_s (wk_s (wk_s (wk_n (wk_n wk_e)))))))
      · replace hm := ie hc hm
        refine v_ald_0 dK_firstFitPans_59 ?_
        refine v_getR dK_firstFitPans_60 fuK_11 sh_98 rf_98_0 ?_
        refine v_ild_6 dK_firstFitPans_63 ?_
        refine v_ild_6 dK_firstFitPans_65 ?_
        refine v_ild_3 dK_firstFitPans_67 ?_
        refine v_j1 (fun (x4 : Int32) => Vx G tK_firstFitPans (d + 1) 86 [some (.ref (gB G + 98)), some (.ref (gB G + a1)), some (.int p2), some (.int v3), some (.int v4), none, some (.int x2)] [.int x4, .int x2, .ref (gB G + 99)] hv (some (.int r.1)) r.2) hm (fun x4 hm => ?_) (fun j3 kj3 hm => ?_)
        · obtain ⟨hi, hm⟩ := ck_s hm
          refine v_iastl dK_firstFitPans_86 sh_99 hi hm (fun h5 hm => ?_)
          refine v_ild_3 dK_firstFitPans_87 ?_
          refine v_ild_6 dK_firstFitPans_88 ?_
          refine v_iconst (x := 1) dK_firstFitPans_90 rfl ?_
          refine v_iadd dK_firstFitPans_91 ?_
          refine v_mmax dK_firstFitPans_92 mlK_40 (Nat.le_of_ble_eq_true rfl) ?_
          refine v_top hm (fun x6 hm => ?_)
          refine v_ist_3 dK_firstFitPans_95 (by decide) rfl ?_
          refine v_inc_4 1 dK_firstFitPans_96 rfl (by decide) rfl ?_
          refine v_goto dK_firstFitPans_99 ?_
          exact v_kw (ih _ _ _ hm) (wk_s (wk_s (wk_s (wk_s (wk_s (wk_n (wk_n wk_e)))))))
        · refine v_cmp_ge dK_firstFitPans_68 (fun hc => ?_) (fun hc => ?_)
          · replace hm := it hc hm
            refine v_ild_5 dK_firstFitPans_84 ?_
            exact v_kw (kj3 _ hm) (wk_s (wk_s (wk_s (wk_s (wk_s (wk_n (wk_s wk_e)))))))
          · replace hm := ie hc hm
            refine v_ald_0 dK_firstFitPans_71 ?_
            refine v_getR dK_firstFitPans_72 fuK_11 sh_98 rf_98_0 ?_
            refine v_ild_6 dK_firstFitPans_75 ?_
            obtain ⟨hi, hm⟩ := ck_s hm
            refine v_iald dK_firstFitPans_77 sh_99 hi ?_
            refine v_ild_5 dK_firstFitPans_78 ?_
            refine v_iadd dK_firstFitPans_80 ?_
            refine v_goto dK_firstFitPans_81 ?_
            exact v_kw (kj3 _ hm) (wk_s (wk_s (wk_s (wk_s (wk_s (wk_n (wk_s wk_e)))))))
theorem ctK_firstFitPans (G : GG) (d : Nat) (a1 : Nat) (p2 : Int32) (q1 : shL[a1]? = some (6, 4)) (h0 : PH) (r : Int32 × PH) (hm : mK_firstFitPans a1 p2 h0 = some r) : Kx G tK_firstFitPans (d + 1) [.ref (gB G + 98), .ref (gB G + a1), .int p2] h0 (some (.int r.1)) r.2 := by
  refine K_of_V (by decide) (by simp [cat_i, cat_r, fmtV_cat]) (by simp [tK_firstFitPans]) ?_
  change Vx G tK_firstFitPans (d + 1) 0 [some (.ref (gB G + 98)), some (.ref (gB G + a1)), some (.int p2), none, none, none, none] [] h0 (some (.int r.1)) r.2
  unfold mK_firstFitPans at hm
  refine v_iconst (x := 0) dK_firstFitPans_0 rfl ?_
  refine v_ist_3 dK_firstFitPans_1 (by decide) rfl ?_
  refine v_iconst (x := 0) dK_firstFitPans_2 rfl ?_
  refine v_ist_4 dK_firstFitPans_3 (by decide) rfl ?_
  exact v_kw (wK_firstFitPans_L5 G d _ _ q1 _ FU _ _ _ hm) (wk_s (wk_s (wk_s (wk_s (wk_s (wk_n (wk_n wk_e)))))))
def mK_payOff_L9 (p1 : Int32) (p2 : Int32) (p3 : Int32) (h0 : PH) (k0 : Int32 → Int32 → Option (Int32)) : Nat → Int32 → Int32 → Int32 → Option (Int32)
  | 0, _, _, _ => none
  | n + 1, v4, v5, v6 =>
    if 400 < v6 then
      some (-1)
    else
      dz 100 <|
      lt (v4 + (((v4 * p1) + 99) / 100)) fun x1 =>
      lt (imin p2 x1) fun x2 =>
      lt (v5 + x2) fun x3 =>
      if x2 = x1 then
        k0 x3 v6
      else
        if (x1 - x2) < v4 then
          lt (x1 - x2) fun x4 =>
          mK_payOff_L9 p1 p2 p3 h0 k0 n x4 x3 (v6 + 1)
        else
          some (-1)
def mK_payOff (p0 : Int32) (p1 : Int32) (p2 : Int32) (p3 : Int32) (h0 : PH) : Option (Int32) :=
  mK_payOff_L9 p1 p2 p3 h0 (fun (x5 : Int32) (x6 : Int32) =>
    if p3 = 0 then
      some x5
    else
      some x6) FU p0 0 1
theorem wK_payOff_L9 (G : GG) (d : Nat) (p1 : Int32) (p2 : Int32) (p3 : Int32) (h0 : PH) (k0 : Int32 → Int32 → Option (Int32)) (r : Int32) (kk0 : ∀ (y5 : Int32) (y6 : Int32), k0 y5 y6 = some r → Vx G tK_payOff (d + 1) 54 [none, none, none, some (.int p3), none, some (.int y5), some (.int y6), none, none] [] h0 (some (.int r)) h0) : ∀ (n : Nat) (v4 : Int32) (v5 : Int32) (v6 : Int32), mK_payOff_L9 p1 p2 p3 h0 k0 n v4 v5 v6 = some r → Vx G tK_payOff (d + 1) 9 [none, some (.int p1), some (.int p2), some (.int p3), some (.int v4), some (.int v5), some (.int v6), none, none] [] h0 (some (.int r)) h0 := by
  intro n
  induction n with
  | zero => intro v4 v5 v6 hm; cases hm
  | succ n ih =>
    intro v4 v5 v6 hm
    unfold mK_payOff_L9 at hm
    refine v_ild_6 dK_payOff_9 ?_
    refine v_sipush (x := 400) dK_payOff_11 rfl ?_
    refine v_cmp_gt dK_payOff_14 (fun hc => ?_) (fun hc => ?_)
    · replace hm := it hc hm
      refine v_iconst (x := (-1)) dK_payOff_91 rfl ?_
      cases hm
      exact v_iret dK_payOff_92 rfl
    · replace hm := ie hc hm
      refine v_ild_4 dK_payOff_17 ?_
      refine v_ild_4 dK_payOff_19 ?_
      refine v_ild_1 dK_payOff_21 ?_
      refine v_imul dK_payOff_22 ?_
      refine v_bipush (x := 99) dK_payOff_23 rfl ?_
      refine v_iadd dK_payOff_25 ?_
      refine v_bipush (x := 100) dK_payOff_26 rfl ?_
      obtain ⟨hz, hm⟩ := dz_s hm
      refine v_idiv dK_payOff_28 hz ?_
      refine v_iadd dK_payOff_29 ?_
      refine v_top hm (fun x1 hm => ?_)
      refine v_ist_7 dK_payOff_30 (by decide) rfl ?_
      refine v_ild_2 dK_payOff_32 ?_
      refine v_ild_7 dK_payOff_33 ?_
      refine v_mmin dK_payOff_35 mlK_35 (Nat.le_of_ble_eq_true rfl) ?_
      refine v_top hm (fun x2 hm => ?_)
      refine v_ist_8 dK_payOff_38 (by decide) rfl ?_
      refine v_ild_5 dK_payOff_40 ?_
      refine v_ild_8 dK_payOff_42 ?_
      refine v_iadd dK_payOff_44 ?_
      refine v_top hm (fun x3 hm => ?_)
      refine v_ist_5 dK_payOff_45 (by decide) rfl ?_
      refine v_ild_8 dK_payOff_47 ?_
      refine v_ild_7 dK_payOff_49 ?_
      refine v_cmp_ne dK_payOff_51 (fun hc => ?_) (fun hc => ?_)
      · replace hm := it hc hm
        exact v_kw (kk0 _ _ hm) (wk_n (wk_n (wk_n (wk_s (wk_n (wk_s (wk_s (wk_n (wk_n wk_e)))))))))
      · replace hm := ie hc hm
        refine v_ild_7 dK_payOff_66 ?_
        refine v_ild_8 dK_payOff_68 ?_
        refine v_isub dK_payOff_70 ?_
        refine v_ild_4 dK_payOff_71 ?_
        refine v_cmp_lt dK_payOff_73 (fun hc => ?_) (fun hc => ?_)
        · replace hm := it hc hm
          refine v_ild_7 dK_payOff_78 ?_
          refine v_ild_8 dK_payOff_80 ?_
          refine v_isub dK_payOff_82 ?_
          refine v_top hm (fun x4 hm => ?_)
          refine v_ist_4 dK_payOff_83 (by decide) rfl ?_
          refine v_inc_6 1 dK_payOff_85 rfl (by decide) rfl ?_
          refine v_goto dK_payOff_88 ?_
          exact v_kw (ih _ _ _ hm) (wk_n (wk_s (wk_s (wk_s (wk_s (wk_s (wk_s (wk_n (wk_n wk_e)))))))))
        · replace hm := ie hc hm
          refine v_iconst (x := (-1)) dK_payOff_76 rfl ?_
          cases hm
          exact v_iret dK_payOff_77 rfl
theorem ctK_payOff (G : GG) (d : Nat) (p0 : Int32) (p1 : Int32) (p2 : Int32) (p3 : Int32) (h0 : PH) (r : Int32) (hm : mK_payOff p0 p1 p2 p3 h0 = some r) : Kx G tK_payOff (d + 1) [.int p0, .int p1, .int p2, .int p3] h0 (some (.int r)) h0 := by
  refine K_of_V (by decide) (by simp [cat_i, cat_r, fmtV_cat]) (by simp [tK_payOff]) ?_
  change Vx G tK_payOff (d + 1) 0 [some (.int p0), some (.int p1), some (.int p2), some (.int p3), none, none, none, none, none] [] h0 (some (.int r)) h0
  unfold mK_payOff at hm
  refine v_ild_0 dK_payOff_0 ?_
  refine v_ist_4 dK_payOff_1 (by decide) rfl ?_
  refine v_iconst (x := 0) dK_payOff_3 rfl ?_
  refine v_ist_5 dK_payOff_4 (by decide) rfl ?_
  refine v_iconst (x := 1) dK_payOff_6 rfl ?_
  refine v_ist_6 dK_payOff_7 (by decide) rfl ?_
  refine v_kw (wK_payOff_L9 G d _ _ _ _ _ _ (fun x5 x6 hm => ?_) FU _ _ _ hm) (wk_n (wk_s (wk_s (wk_s (wk_s (wk_s (wk_s (wk_n (wk_n wk_e)))))))))
  refine v_ild_3 dK_payOff_54 ?_
  refine v_if_eq dK_payOff_55 (fun hc => ?_) (fun hc => ?_)
  · replace hm := it hc hm
    refine v_ild_5 dK_payOff_63 ?_
    cases hm
    exact v_iret dK_payOff_65 rfl
  · replace hm := ie hc hm
    refine v_ild_6 dK_payOff_58 ?_
    refine v_goto dK_payOff_60 ?_
    cases hm
    exact v_iret dK_payOff_65 rfl
def mK_lengths_L26 (a0 : Nat) (p3 : Int32) (h0 : PH) (k0 : Int64 → Option (Int64)) : Nat → Int64 → Int32 → Option (Int64)
  | 0, _, _ => none
  | n + 1, v1, v4 =>
    if p3 ≤ v4 then
      k0 v1
    else
      bd (mR_at a0 p3 0 h0) fun r3 =>
      bd (mR_at a0 v4 0 h0) fun r4 =>
      lt (v1 ||| (1 <<< ((iabs (r3 - r4)).toInt64 &&& 63))) fun (x5 : Int64) =>
      mK_lengths_L26 a0 p3 h0 k0 n x5 (v4 + 1)
def mK_lengths_L4 (a0 : Nat) (h0 : PH) : Nat → Int64 → Int32 → Option (Int64)
  | 0, _, _ => none
  | n + 1, v1, v3 =>
    if (h0 a0 3) ≤ v3 then
      some (v1 &&& (-2))
    else
      bd (mR_at a0 v3 0 h0) fun r1 =>
      lt (v1 ||| (1 <<< (r1.toInt64 &&& 63))) fun (x2 : Int64) =>
      mK_lengths_L26 a0 v3 h0 (fun (x6 : Int64) =>
        mK_lengths_L4 a0 h0 n x6 (v3 + 1)) FU x2 0
def mK_lengths (a0 : Nat) (h0 : PH) : Option (Int64) :=
  mK_lengths_L4 a0 h0 FU 0 0
theorem wK_lengths_L26 (G : GG) (d : Nat) (a0 : Nat) (p3 : Int32) (h0 : PH) (q0 : shL[a0]? = some (6, 4)) (k0 : Int64 → Option (Int64)) (r : Int64) (kk0 : ∀ (y1 : Int64), k0 y1 = some r → Vx G tK_lengths (d + 1) 60 [some (.ref (gB G + a0)), some (.long y1), none, some (.int p3), none] [] h0 (some (.long r)) h0) : ∀ (n : Nat) (v1 : Int64) (v4 : Int32), mK_lengths_L26 a0 p3 h0 k0 n v1 v4 = some r → Vx G tK_lengths (d + 1) 26 [some (.ref (gB G + a0)), some (.long v1), none, some (.int p3), some (.int v4)] [] h0 (some (.long r)) h0 := by
  intro n
  induction n with
  | zero => intro v1 v4 hm; cases hm
  | succ n ih =>
    intro v1 v4 hm
    unfold mK_lengths_L26 at hm
    refine v_ild_4 dK_lengths_26 ?_
    refine v_ild_3 dK_lengths_28 ?_
    refine v_cmp_ge dK_lengths_29 (fun hc => ?_) (fun hc => ?_)
    · replace hm := it hc hm
      exact v_kw (kk0 _ hm) (wk_s (wk_s (wk_n (wk_s (wk_n wk_e)))))
    · replace hm := ie hc hm
      refine v_lld_1 dK_lengths_32 ?_
      refine v_lconst (x := 1) dK_lengths_33 rfl ?_
      refine v_ald_0 dK_lengths_34 ?_
      refine v_ild_3 dK_lengths_35 ?_
      refine v_iconst (x := 0) dK_lengths_36 rfl ?_
      obtain ⟨r3, he, hm⟩ := bd_s hm
      refine v_cv2i (M' := tR_at) dK_lengths_37 mlK_27 okR_at q0 hc_6 (Nat.le_of_ble_eq_true rfl) (ctR_at G d _ _ _ q0 _ _ he) ?_
      refine v_ald_0 dK_lengths_40 ?_
      refine v_ild_4 dK_lengths_41 ?_
      refine v_iconst (x := 0) dK_lengths_43 rfl ?_
      obtain ⟨r4, he, hm⟩ := bd_s hm
      refine v_cv2i (M' := tR_at) dK_lengths_44 mlK_27 okR_at q0 hc_6 (Nat.le_of_ble_eq_true rfl) (ctR_at G d _ _ _ q0 _ _ he) ?_
      refine v_isub dK_lengths_47 ?_
      refine v_mabs dK_lengths_48 mlK_47 (Nat.le_of_ble_eq_true rfl) ?_
      refine v_lshl dK_lengths_51 ?_
      refine v_lor dK_lengths_52 ?_
      refine v_topl hm (fun x5 hm => ?_)
      refine v_lst_1 dK_lengths_53 (by decide) rfl ?_
      refine v_inc_4 1 dK_lengths_54 rfl (by decide) rfl ?_
      refine v_goto dK_lengths_57 ?_
      exact v_kw (ih _ _ hm) (wk_s (wk_s (wk_n (wk_s (wk_s wk_e)))))
theorem wK_lengths_L4 (G : GG) (d : Nat) (a0 : Nat) (h0 : PH) (q0 : shL[a0]? = some (6, 4)) (r : Int64) : ∀ (n : Nat) (v1 : Int64) (v3 : Int32), mK_lengths_L4 a0 h0 n v1 v3 = some r → Vx G tK_lengths (d + 1) 4 [some (.ref (gB G + a0)), some (.long v1), none, some (.int v3), none] [] h0 (some (.long r)) h0 := by
  intro n
  induction n with
  | zero => intro v1 v3 hm; cases hm
  | succ n ih =>
    intro v1 v3 hm
    unfold mK_lengths_L4 at hm
    refine v_ild_3 dK_lengths_4 ?_
    refine v_ald_0 dK_lengths_5 ?_
    refine v_getI dK_lengths_6 fuK_21 q0 (rf_rows_3 q0) ?_
    refine v_cmp_ge dK_lengths_9 (fun hc => ?_) (fun hc => ?_)
    · replace hm := it hc hm
      refine v_lld_1 dK_lengths_66 ?_
      refine v_ldc2 (x := (-2)) dK_lengths_67 lcK_51 ?_
      refine v_land dK_lengths_70 ?_
      cases hm
      exact v_lret dK_lengths_71 rfl
    · replace hm := ie hc hm
      refine v_lld_1 dK_lengths_12 ?_
      refine v_lconst (x := 1) dK_lengths_13 rfl ?_
      refine v_ald_0 dK_lengths_14 ?_
      refine v_ild_3 dK_lengths_15 ?_
      refine v_iconst (x := 0) dK_lengths_16 rfl ?_
      obtain ⟨r1, he, hm⟩ := bd_s hm
      refine v_cv2i (M' := tR_at) dK_lengths_17 mlK_27 okR_at q0 hc_6 (Nat.le_of_ble_eq_true rfl) (ctR_at G d _ _ _ q0 _ _ he) ?_
      refine v_lshl dK_lengths_20 ?_
      refine v_lor dK_lengths_21 ?_
      refine v_topl hm (fun x2 hm => ?_)
      refine v_lst_1 dK_lengths_22 (by decide) rfl ?_
      refine v_iconst (x := 0) dK_lengths_23 rfl ?_
      refine v_ist_4 dK_lengths_24 (by decide) rfl ?_
      refine v_kw (wK_lengths_L26 G d _ _ _ q0 _ _ (fun x6 hm => ?_) FU _ _ hm) (wk_s (wk_s (wk_n (wk_s (wk_s wk_e)))))
      refine v_inc_3 1 dK_lengths_60 rfl (by decide) rfl ?_
      refine v_goto dK_lengths_63 ?_
      exact v_kw (ih _ _ hm) (wk_s (wk_s (wk_n (wk_s (wk_n wk_e)))))
theorem ctK_lengths (G : GG) (d : Nat) (a0 : Nat) (q0 : shL[a0]? = some (6, 4)) (h0 : PH) (r : Int64) (hm : mK_lengths a0 h0 = some r) : Kx G tK_lengths (d + 1) [.ref (gB G + a0)] h0 (some (.long r)) h0 := by
  refine K_of_V (by decide) (by simp [cat_i, cat_r, fmtV_cat]) (by simp [tK_lengths]) ?_
  change Vx G tK_lengths (d + 1) 0 [some (.ref (gB G + a0)), none, none, none, none] [] h0 (some (.long r)) h0
  unfold mK_lengths at hm
  refine v_lconst (x := 0) dK_lengths_0 rfl ?_
  refine v_lst_1 dK_lengths_1 (by decide) rfl ?_
  refine v_iconst (x := 0) dK_lengths_2 rfl ?_
  refine v_ist_3 dK_lengths_3 (by decide) rfl ?_
  exact v_kw (wK_lengths_L4 G d _ _ q0 _ FU _ _ hm) (wk_s (wk_s (wk_n (wk_s (wk_n wk_e)))))
def mK_countLengths (a0 : Nat) (h0 : PH) : Option (Int32) :=
  bd (mK_lengths a0 h0) fun r1 =>
  bd (mN_bitCount r1 h0) fun r2 =>
  some r2
theorem ctK_countLengths (G : GG) (d : Nat) (a0 : Nat) (q0 : shL[a0]? = some (6, 4)) (h0 : PH) (r : Int32) (hm : mK_countLengths a0 h0 = some r) : Kx G tK_countLengths (d + 2) [.ref (gB G + a0)] h0 (some (.int r)) h0 := by
  refine K_of_V (by decide) (by simp [cat_i, cat_r, fmtV_cat]) (by simp [tK_countLengths]) ?_
  change Vx G tK_countLengths (d + 2) 0 [some (.ref (gB G + a0))] [] h0 (some (.int r)) h0
  unfold mK_countLengths at hm
  refine v_ald_0 dK_countLengths_0 ?_
  obtain ⟨r1, he, hm⟩ := bd_s hm
  refine v_cs1l (M' := tK_lengths) dK_countLengths_1 mlK_53 okK_lengths (Nat.le_of_ble_eq_true rfl) (ctK_lengths G d _ q0 _ _ he) ?_
  obtain ⟨r2, he, hm⟩ := bd_s hm
  refine v_cs1i (M' := tN_bitCount) dK_countLengths_4 mlK_57 okN_bitCount (Nat.le_of_ble_eq_true rfl) (ctN_bitCount G (d + 1) _ _ _ he) ?_
  cases hm
  exact v_iret dK_countLengths_7 rfl
def mK_leastMissing_L7 (p1 : Int64) (h0 : PH) : Nat → Int32 → Option (Int32)
  | 0, _ => none
  | n + 1, v3 =>
    if 60 < v3 then
      some (-1)
    else
      if (lg_cmp ((p1 >>> (v3.toInt64 &&& 63)) &&& 1) 0) = 0 then
        some v3
      else
        mK_leastMissing_L7 p1 h0 n (v3 + 1)
def mK_leastMissing (a0 : Nat) (h0 : PH) : Option (Int32) :=
  bd (mK_lengths a0 h0) fun r1 =>
  mK_leastMissing_L7 r1 h0 FU 1
theorem wK_leastMissing_L7 (G : GG) (d : Nat) (p1 : Int64) (h0 : PH) (r : Int32) : ∀ (n : Nat) (v3 : Int32), mK_leastMissing_L7 p1 h0 n v3 = some r → Vx G tK_leastMissing (d + 2) 7 [none, some (.long p1), none, some (.int v3)] [] h0 (some (.int r)) h0 := by
  intro n
  induction n with
  | zero => intro v3 hm; cases hm
  | succ n ih =>
    intro v3 hm
    unfold mK_leastMissing_L7 at hm
    refine v_ild_3 dK_leastMissing_7 ?_
    refine v_bipush (x := 60) dK_leastMissing_8 rfl ?_
    refine v_cmp_gt dK_leastMissing_10 (fun hc => ?_) (fun hc => ?_)
    · replace hm := it hc hm
      refine v_iconst (x := (-1)) dK_leastMissing_31 rfl ?_
      cases hm
      exact v_iret dK_leastMissing_32 rfl
    · replace hm := ie hc hm
      refine v_lld_1 dK_leastMissing_13 ?_
      refine v_ild_3 dK_leastMissing_14 ?_
      refine v_lshr dK_leastMissing_15 ?_
      refine v_lconst (x := 1) dK_leastMissing_16 rfl ?_
      refine v_land dK_leastMissing_17 ?_
      refine v_lconst (x := 0) dK_leastMissing_18 rfl ?_
      refine v_lcmp dK_leastMissing_19 ?_
      refine v_if_ne dK_leastMissing_20 (fun hc => ?_) (fun hc => ?_)
      · replace hm := it hc hm
        refine v_ild_3 dK_leastMissing_23 ?_
        cases hm
        exact v_iret dK_leastMissing_24 rfl
      · replace hm := ie hc hm
        refine v_inc_3 1 dK_leastMissing_25 rfl (by decide) rfl ?_
        refine v_goto dK_leastMissing_28 ?_
        exact v_kw (ih _ hm) (wk_n (wk_s (wk_n (wk_s wk_e))))
theorem ctK_leastMissing (G : GG) (d : Nat) (a0 : Nat) (q0 : shL[a0]? = some (6, 4)) (h0 : PH) (r : Int32) (hm : mK_leastMissing a0 h0 = some r) : Kx G tK_leastMissing (d + 2) [.ref (gB G + a0)] h0 (some (.int r)) h0 := by
  refine K_of_V (by decide) (by simp [cat_i, cat_r, fmtV_cat]) (by simp [tK_leastMissing]) ?_
  change Vx G tK_leastMissing (d + 2) 0 [some (.ref (gB G + a0)), none, none, none] [] h0 (some (.int r)) h0
  unfold mK_leastMissing at hm
  refine v_ald_0 dK_leastMissing_0 ?_
  obtain ⟨r1, he, hm⟩ := bd_s hm
  refine v_cs1l (M' := tK_lengths) dK_leastMissing_1 mlK_53 okK_lengths (Nat.le_of_ble_eq_true rfl) (ctK_lengths G d _ q0 _ _ he) ?_
  refine v_lst_1 dK_leastMissing_4 (by decide) rfl ?_
  refine v_iconst (x := 1) dK_leastMissing_5 rfl ?_
  refine v_ist_3 dK_leastMissing_6 (by decide) rfl ?_
  exact v_kw (wK_leastMissing_L7 G d _ _ _ FU _ hm) (wk_n (wk_s (wk_n (wk_s wk_e))))
def mK_biters_L5 (a0 : Nat) (p1 : Int32) (p2 : Int32) (h0 : PH) : Nat → Int32 → Int32 → Option (Int32)
  | 0, _, _ => none
  | n + 1, v3, v4 =>
    if (h0 a0 3) ≤ v4 then
      some v3
    else
      bd (mR_at a0 v4 0 h0) fun r1 =>
      if (r1 &&& p1) = p1 then
        bd (mR_at a0 v4 1 h0) fun r2 =>
        if r2 < p2 then
          mK_biters_L5 a0 p1 p2 h0 n v3 (v4 + 1)
        else
          lt (v3 ||| (1 <<< (v4 &&& 31))) fun x3 =>
          mK_biters_L5 a0 p1 p2 h0 n x3 (v4 + 1)
      else
        mK_biters_L5 a0 p1 p2 h0 n v3 (v4 + 1)
def mK_biters (a0 : Nat) (p1 : Int32) (p2 : Int32) (h0 : PH) : Option (Int32) :=
  mK_biters_L5 a0 p1 p2 h0 FU 0 0
theorem wK_biters_L5 (G : GG) (d : Nat) (a0 : Nat) (p1 : Int32) (p2 : Int32) (h0 : PH) (q0 : shL[a0]? = some (6, 4)) (r : Int32) : ∀ (n : Nat) (v3 : Int32) (v4 : Int32), mK_biters_L5 a0 p1 p2 h0 n v3 v4 = some r → Vx G tK_biters (d + 1) 5 [some (.ref (gB G + a0)), some (.int p1), some (.int p2), some (.int v3), some (.int v4)] [] h0 (some (.int r)) h0 := by
  intro n
  induction n with
  | zero => intro v3 v4 hm; cases hm
  | succ n ih =>
    intro v3 v4 hm
    unfold mK_biters_L5 at hm
    refine v_ild_4 dK_biters_5 ?_
    refine v_ald_0 dK_biters_7 ?_
    refine v_getI dK_biters_8 fuK_21 q0 (rf_rows_3 q0) ?_
    refine v_cmp_ge dK_biters_11 (fun hc => ?_) (fun hc => ?_)
    · replace hm := it hc hm
      refine v_ild_3 dK_biters_51 ?_
      cases hm
      exact v_iret dK_biters_52 rfl
    · replace hm := ie hc hm
      refine v_ald_0 dK_biters_14 ?_
      refine v_ild_4 dK_biters_15 ?_
      refine v_iconst (x := 0) dK_biters_17 rfl ?_
      obtain ⟨r1, he, hm⟩ := bd_s hm
      refine v_cv2i (M' := tR_at) dK_biters_18 mlK_27 okR_at q0 hc_6 (Nat.le_of_ble_eq_true rfl) (ctR_at G d _ _ _ q0 _ _ he) ?_
      refine v_ild_1 dK_biters_21 ?_
      refine v_iand dK_biters_22 ?_
      refine v_ild_1 dK_biters_23 ?_
      refine v_cmp_ne dK_biters_24 (fun hc => ?_) (fun hc => ?_)
      · replace hm := it hc hm
        refine v_ald_0 dK_biters_27 ?_
        refine v_ild_4 dK_biters_28 ?_
        refine v_iconst (x := 1) dK_biters_30 rfl ?_
        obtain ⟨r2, he, hm⟩ := bd_s hm
        refine v_cv2i (M' := tR_at) dK_biters_31 mlK_27 okR_at q0 hc_6 (Nat.le_of_ble_eq_true rfl) (ctR_at G d _ _ _ q0 _ _ he) ?_
        refine v_ild_2 dK_biters_34 ?_
        refine v_cmp_lt dK_biters_35 (fun hc => ?_) (fun hc => ?_)
        · replace hm := it hc hm
          refine v_inc_4 1 dK_biters_45 rfl (by decide) rfl ?_
          refine v_goto dK_biters_48 ?_
          exact v_kw (ih _ _ hm) (wk_s (wk_s (wk_s (wk_s (wk_s wk_e)))))
        · replace hm := ie hc hm
          refine v_ild_3 dK_biters_38 ?_
          refine v_iconst (x := 1) dK_biters_39 rfl ?_
          refine v_ild_4 dK_biters_40 ?_
          refine v_ishl dK_biters_42 ?_
          refine v_ior dK_biters_43 ?_
          refine v_top hm (fun x3 hm => ?_)
          refine v_ist_3 dK_biters_44 (by decide) rfl ?_
          refine v_inc_4 1 dK_biters_45 rfl (by decide) rfl ?_
          refine v_goto dK_biters_48 ?_
          exact v_kw (ih _ _ hm) (wk_s (wk_s (wk_s (wk_s (wk_s wk_e)))))
      · replace hm := ie hc hm
        refine v_inc_4 1 dK_biters_45 rfl (by decide) rfl ?_
        refine v_goto dK_biters_48 ?_
        exact v_kw (ih _ _ hm) (wk_s (wk_s (wk_s (wk_s (wk_s wk_e)))))
theorem ctK_biters (G : GG) (d : Nat) (a0 : Nat) (p1 : Int32) (p2 : Int32) (q0 : shL[a0]? = some (6, 4)) (h0 : PH) (r : Int32) (hm : mK_biters a0 p1 p2 h0 = some r) : Kx G tK_biters (d + 1) [.ref (gB G + a0), .int p1, .int p2] h0 (some (.int r)) h0 := by
  refine K_of_V (by decide) (by simp [cat_i, cat_r, fmtV_cat]) (by simp [tK_biters]) ?_
  change Vx G tK_biters (d + 1) 0 [some (.ref (gB G + a0)), some (.int p1), some (.int p2), none, none] [] h0 (some (.int r)) h0
  unfold mK_biters at hm
  refine v_iconst (x := 0) dK_biters_0 rfl ?_
  refine v_ist_3 dK_biters_1 (by decide) rfl ?_
  refine v_iconst (x := 0) dK_biters_2 rfl ?_
  refine v_ist_4 dK_biters_3 (by decide) rfl ?_
  exact v_kw (wK_biters_L5 G d _ _ _ _ q0 _ FU _ _ hm) (wk_s (wk_s (wk_s (wk_s (wk_s wk_e)))))
def mK_walk_L26 (a1 : Nat) (p2 : Int32) : Nat → Int32 → PH → Option (Int32 × PH)
  | 0, _, _ => none
  | n + 1, v3, hv =>
    if p2 ≤ v3 then
      some (p2, hv)
    else
      bd (mR_at a1 v3 0 hv) fun r4 =>
      ck v3 17 <|
      jn1 (fun (x6 : Int32) =>
        ck (v3 + 1) 17 <|
        lt (up hv 100 (ix (v3 + 1)) ((hv 100 (ix v3)) + x6)) fun h7 =>
        ck v3 17 <|
        jn1 (fun (x9 : Int32) =>
          ck (v3 + 1) 17 <|
          lt (up h7 101 (ix (v3 + 1)) ((h7 101 (ix v3)) + x9)) fun h10 =>
          mK_walk_L26 a1 p2 n (v3 + 1) h10) fun j8 =>
        if r4 = 1 then
          j8 1
        else
          if r4 = 3 then
            j8 (-1)
          else
            j8 0) fun j5 =>
      if r4 = 0 then
        j5 1
      else
        if r4 = 2 then
          j5 (-1)
        else
          j5 0
def mK_walk (a1 : Nat) (h0 : PH) : Option (Int32 × PH) :=
  lt (imin (h0 a1 3) 16) fun x1 =>
  ck 0 17 <|
  lt (up h0 100 (ix 0) 0) fun h2 =>
  ck 0 17 <|
  lt (up h2 101 (ix 0) 0) fun h3 =>
  mK_walk_L26 a1 x1 FU 0 h3
theorem wK_walk_L26 (G : GG) (d : Nat) (a1 : Nat) (p2 : Int32) (q1 : shL[a1]? = some (6, 4)) (r : Int32 × PH) : ∀ (n : Nat) (v3 : Int32) (hv : PH), mK_walk_L26 a1 p2 n v3 hv = some r → Vx G tK_walk (d + 1) 26 [some (.ref (gB G + 98)), some (.ref (gB G + a1)), some (.int p2), some (.int v3), none] [] hv (some (.int r.1)) r.2 := by
  intro n
  induction n with
  | zero => intro v3 hv hm; cases hm
  | succ n ih =>
    intro v3 hv hm
    unfold mK_walk_L26 at hm
    refine v_ild_3 dK_walk_26 ?_
    refine v_ild_2 dK_walk_27 ?_
    refine v_cmp_ge dK_walk_28 (fun hc => ?_) (fun hc => ?_)
    · replace hm := it hc hm
      refine v_ild_2 dK_walk_116 ?_
      cases hm
      exact v_iret dK_walk_117 rfl
    · replace hm := ie hc hm
      refine v_ald_1 dK_walk_31 ?_
      refine v_ild_3 dK_walk_32 ?_
      refine v_iconst (x := 0) dK_walk_33 rfl ?_
      obtain ⟨r4, he, hm⟩ := bd_s hm
      refine v_cv2i (M' := tR_at) dK_walk_34 mlK_27 okR_at q1 hc_6 (Nat.le_of_ble_eq_true rfl) (ctR_at G d _ _ _ q1 _ _ he) ?_
      refine v_ist_4 dK_walk_37 (by decide) rfl ?_
      refine v_ald_0 dK_walk_39 ?_
      refine v_getR dK_walk_40 fuK_15 sh_98 rf_98_1 ?_
      refine v_ild_3 dK_walk_43 ?_
      refine v_iconst (x := 1) dK_walk_44 rfl ?_
      refine v_iadd dK_walk_45 ?_
      refine v_ald_0 dK_walk_46 ?_
      refine v_getR dK_walk_47 fuK_15 sh_98 rf_98_1 ?_
      refine v_ild_3 dK_walk_50 ?_
      obtain ⟨hi, hm⟩ := ck_s hm
      refine v_iald dK_walk_51 sh_100 hi ?_
      refine v_ild_4 dK_walk_52 ?_
      refine v_j1 (fun (x6 : Int32) => Vx G tK_walk (d + 1) 72 [some (.ref (gB G + 98)), some (.ref (gB G + a1)), some (.int p2), some (.int v3), some (.int r4)] [.int x6, .int (hv 100 (ix v3)), .int (v3 + 1), .ref (gB G + 100)] hv (some (.int r.1)) r.2) hm (fun x6 hm => ?_) (fun j5 kj5 hm => ?_)
      · refine v_iadd dK_walk_72 ?_
        obtain ⟨hi, hm⟩ := ck_s hm
        refine v_iastl dK_walk_73 sh_100 hi hm (fun h7 hm => ?_)
        refine v_ald_0 dK_walk_74 ?_
        refine v_getR dK_walk_75 fuK_18 sh_98 rf_98_2 ?_
        refine v_ild_3 dK_walk_78 ?_
        refine v_iconst (x := 1) dK_walk_79 rfl ?_
        refine v_iadd dK_walk_80 ?_
        refine v_ald_0 dK_walk_81 ?_
        refine v_getR dK_walk_82 fuK_18 sh_98 rf_98_2 ?_
        refine v_ild_3 dK_walk_85 ?_
        obtain ⟨hi, hm⟩ := ck_s hm
        refine v_iald dK_walk_86 sh_101 hi ?_
        refine v_ild_4 dK_walk_87 ?_
        refine v_iconst (x := 1) dK_walk_89 rfl ?_
        refine v_j1 (fun (x9 : Int32) => Vx G tK_walk (d + 1) 108 [some (.ref (gB G + 98)), some (.ref (gB G + a1)), some (.int p2), some (.int v3), none] [.int x9, .int (h7 101 (ix v3)), .int (v3 + 1), .ref (gB G + 101)] h7 (some (.int r.1)) r.2) hm (fun x9 hm => ?_) (fun j8 kj8 hm => ?_)
        · refine v_iadd dK_walk_108 ?_
          obtain ⟨hi, hm⟩ := ck_s hm
          refine v_iastl dK_walk_109 sh_101 hi hm (fun h10 hm => ?_)
          refine v_inc_3 1 dK_walk_110 rfl (by decide) rfl ?_
          refine v_goto dK_walk_113 ?_
          exact v_kw (ih _ _ hm) (wk_s (wk_s (wk_s (wk_s (wk_n wk_e)))))
        · refine v_cmp_ne dK_walk_90 (fun hc => ?_) (fun hc => ?_)
          · replace hm := it hc hm
            refine v_iconst (x := 1) dK_walk_93 rfl ?_
            refine v_goto dK_walk_94 ?_
            exact v_kw (kj8 _ hm) (wk_s (wk_s (wk_s (wk_s (wk_n wk_e)))))
          · replace hm := ie hc hm
            refine v_ild_4 dK_walk_97 ?_
            refine v_iconst (x := 3) dK_walk_99 rfl ?_
            refine v_cmp_ne dK_walk_100 (fun hc => ?_) (fun hc => ?_)
            · replace hm := it hc hm
              refine v_iconst (x := (-1)) dK_walk_103 rfl ?_
              refine v_goto dK_walk_104 ?_
              exact v_kw (kj8 _ hm) (wk_s (wk_s (wk_s (wk_s (wk_n wk_e)))))
            · replace hm := ie hc hm
              refine v_iconst (x := 0) dK_walk_107 rfl ?_
              exact v_kw (kj8 _ hm) (wk_s (wk_s (wk_s (wk_s (wk_n wk_e)))))
      · refine v_if_ne dK_walk_54 (fun hc => ?_) (fun hc => ?_)
        · replace hm := it hc hm
          refine v_iconst (x := 1) dK_walk_57 rfl ?_
          refine v_goto dK_walk_58 ?_
          exact v_kw (kj5 _ hm) (wk_s (wk_s (wk_s (wk_s (wk_s wk_e)))))
        · replace hm := ie hc hm
          refine v_ild_4 dK_walk_61 ?_
          refine v_iconst (x := 2) dK_walk_63 rfl ?_
          refine v_cmp_ne dK_walk_64 (fun hc => ?_) (fun hc => ?_)
          · replace hm := it hc hm
            refine v_iconst (x := (-1)) dK_walk_67 rfl ?_
            refine v_goto dK_walk_68 ?_
            exact v_kw (kj5 _ hm) (wk_s (wk_s (wk_s (wk_s (wk_s wk_e)))))
          · replace hm := ie hc hm
            refine v_iconst (x := 0) dK_walk_71 rfl ?_
            exact v_kw (kj5 _ hm) (wk_s (wk_s (wk_s (wk_s (wk_s wk_e)))))
theorem ctK_walk (G : GG) (d : Nat) (a1 : Nat) (q1 : shL[a1]? = some (6, 4)) (h0 : PH) (r : Int32 × PH) (hm : mK_walk a1 h0 = some r) : Kx G tK_walk (d + 1) [.ref (gB G + 98), .ref (gB G + a1)] h0 (some (.int r.1)) r.2 := by
  refine K_of_V (by decide) (by simp [cat_i, cat_r, fmtV_cat]) (by simp [tK_walk]) ?_
  change Vx G tK_walk (d + 1) 0 [some (.ref (gB G + 98)), some (.ref (gB G + a1)), none, none, none] [] h0 (some (.int r.1)) r.2
  unfold mK_walk at hm
  refine v_ald_1 dK_walk_0 ?_
  refine v_getI dK_walk_1 fuK_21 q1 (rf_rows_3 q1) ?_
  refine v_bipush (x := 16) dK_walk_4 rfl ?_
  refine v_mmin dK_walk_6 mlK_35 (Nat.le_of_ble_eq_true rfl) ?_
  refine v_top hm (fun x1 hm => ?_)
  refine v_ist_2 dK_walk_9 (by decide) rfl ?_
  refine v_ald_0 dK_walk_10 ?_
  refine v_getR dK_walk_11 fuK_15 sh_98 rf_98_1 ?_
  refine v_iconst (x := 0) dK_walk_14 rfl ?_
  refine v_iconst (x := 0) dK_walk_15 rfl ?_
  obtain ⟨hi, hm⟩ := ck_s hm
  refine v_iastl dK_walk_16 sh_100 hi hm (fun h2 hm => ?_)
  refine v_ald_0 dK_walk_17 ?_
  refine v_getR dK_walk_18 fuK_18 sh_98 rf_98_2 ?_
  refine v_iconst (x := 0) dK_walk_21 rfl ?_
  refine v_iconst (x := 0) dK_walk_22 rfl ?_
  obtain ⟨hi, hm⟩ := ck_s hm
  refine v_iastl dK_walk_23 sh_101 hi hm (fun h3 hm => ?_)
  refine v_iconst (x := 0) dK_walk_24 rfl ?_
  refine v_ist_3 dK_walk_25 (by decide) rfl ?_
  exact v_kw (wK_walk_L26 G d _ _ q1 _ FU _ _ hm) (wk_s (wk_s (wk_s (wk_s (wk_n wk_e)))))
