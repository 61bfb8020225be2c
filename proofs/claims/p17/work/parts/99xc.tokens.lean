section
/-! TOKENS: one after the other, on both sides -/
theorem nI_nm1 {m : Nat} (h : m < 2 ^ 31) : ¬ nI m = -1 := fun z => by
  have := congrArg Int32.toInt z
  rw [nI_toInt h, show (-1 : Int32).toInt = -1 from rfl] at this
  omega
def rnF (f : Nat → Bool) (B : Nat → Nat) (L : Nat) : Nat → Nat → Nat
  | 0, p => p
  | n + 1, p => if p < L ∧ f (B p) = true then rnF f B L n (p + 1) else p
def rn (f : Nat → Bool) (B : Nat → Nat) (L p : Nat) : Nat := rnF f B L (L - p) p
theorem rn_go {f : Nat → Bool} {B : Nat → Nat} {L p : Nat} (h : p < L) (hf : f (B p) = true) : rn f B L p = rn f B L (p + 1) := by
  unfold rn
  rw [show L - p = (L - (p + 1)) + 1 by omega, rnF, if_pos ⟨h, hf⟩]
theorem rn_st {f : Nat → Bool} {B : Nat → Nat} {L p : Nat} (h : ¬ (p < L ∧ f (B p) = true)) : rn f B L p = p := by
  unfold rn
  cases L - p with
  | zero => rfl
  | succ n => rw [rnF, if_neg h]
theorem rn_le (f : Nat → Bool) (B : Nat → Nat) (L : Nat) : ∀ (d p : Nat), L - p = d → p ≤ rn f B L p ∧ (p ≤ L → rn f B L p ≤ L) ∧ (∀ i, p ≤ i → i < rn f B L p → f (B i) = true) ∧ ¬ (rn f B L p < L ∧ f (B (rn f B L p)) = true) := by
  intro d
  induction d with
  | zero =>
    intro p hd
    have st : rn f B L p = p := rn_st (by omega)
    rw [st]
    exact ⟨Nat.le_refl _, fun h => h, fun i h1 h2 => by omega, fun z => by omega⟩
  | succ d ih =>
    intro p hd
    by_cases c : p < L ∧ f (B p) = true
    · rw [rn_go c.1 c.2]
      obtain ⟨h1, h2, h3, h4⟩ := ih (p + 1) (by omega)
      refine ⟨by omega, fun _ => h2 (by omega), fun i i1 i2 => ?_, h4⟩
      by_cases z : i = p
      · rw [z]; exact c.2
      · exact h3 i (by omega) i2
    · rw [rn_st c]
      exact ⟨Nat.le_refl _, fun h => h, fun i h1 h2 => by omega, c⟩
def nx (B : Nat → Nat) (L q : Nat) : Nat := if bLt (B q) = true then rn bLt B L (q + 1) else if bDg (B q) = true then rn bDg B L (q + 1) else q + 1
theorem nx_le (B : Nat → Nat) (L q : Nat) (h : q < L) : q < nx B L q ∧ nx B L q ≤ L := by
  unfold nx
  have a := rn_le bLt B L _ (q + 1) rfl
  have b := rn_le bDg B L _ (q + 1) rfl
  split
  · exact ⟨by omega, a.2.1 (by omega)⟩
  · split
    · exact ⟨by omega, b.2.1 (by omega)⟩
    · exact ⟨by omega, by omega⟩
def pl (B : Nat → Nat) (L : Nat) : Nat → Nat
  | 0 => rn bBk B L 0
  | j + 1 => if pl B L j < L then rn bBk B L (nx B L (pl B L j)) else L
/-- the number that the first d digits make -/
def nv (B : Nat → Nat) (q : Nat) : Nat → Nat
  | 0 => 0
  | d + 1 => 10 * nv B q d + B (q + d) - 48
theorem bDg_r {c : Nat} (h : bDg c = true) : 48 ≤ c ∧ c ≤ 57 := by
  unfold bDg at h
  rw [Bool.and_eq_true] at h
  exact ⟨of_decide_eq_true h.1, of_decide_eq_true h.2⟩
theorem nv_lt (B : Nat → Nat) (q : Nat) : ∀ d, (∀ i, i < d → bDg (B (q + i)) = true) → nv B q d < 10 ^ d := by
  intro d
  induction d with
  | zero => intro _; rw [nv]; decide
  | succ d ih =>
    intro h
    have a := ih (fun i hi => h i (by omega))
    have b := bDg_r (h d (by omega))
    rw [nv, Nat.pow_succ]
    omega
def tk (B : Nat → Nat) (L q : Nat) : Nat × Nat :=
  if q < L then
    if bLt (B q) = true then
      if wI (blk B q (nx B L q)) W27 0 = -1 then (1, 0) else (2, (wI (blk B q (nx B L q)) W27 0).toInt.toNat)
    else if bDg (B q) = true then
      if nx B L q - q < 5 then (3, nv B q (nx B L q - q)) else (1, 0)
    else if bSg (B q) = true then (4, B q) else (1, 0)
  else (0, 0)
def TkC (s : Nat) (t : Nat × Nat) (k v : Int32) : Prop :=
  (t.1 = 0 ∧ k = 0) ∨ (t.1 = 1 ∧ k = 4) ∨ (t.1 = 2 ∧ t.2 < 27 ∧ ((∃ w, w < (wv s).length ∧ (wv s).getD w 99 = t.2 ∧ k = 1 ∧ v = nI w) ∨ (k = 4 ∧ ∀ w, w < (wv s).length → (wv s).getD w 99 ≠ t.2))) ∨ (t.1 = 3 ∧ t.2 < 10000 ∧ k = 2 ∧ v = nI t.2) ∨ (t.1 = 4 ∧ t.2 < 256 ∧ k = 3 ∧ v = nI t.2)
def TkM (t : Nat × Nat) (k v : Int32) : Prop := (t.1 = 0 ∧ k = 0) ∨ (t.1 = 1 ∧ k = 1) ∨ (t.1 = 2 ∧ t.2 < 27 ∧ k = 2 ∧ v = nI t.2) ∨ (t.1 = 3 ∧ t.2 < 10000 ∧ k = 3 ∧ v = nI t.2) ∨ (t.1 = 4 ∧ t.2 < 256 ∧ k = 4 ∧ v = nI t.2)
/-! the class -/
theorem isL_c (c : Nat) (hc : c < 256) (h : PH) : mA_isLetter (nI c) h = some (if bLt c = true then 1 else 0) := by
  unfold mA_isLetter
  simp only [within_eq, bd_e]
  revert hc
  revert c
  decide +kernel
theorem isD_c (c : Nat) (hc : c < 256) (h : PH) : mA_isDigit (nI c) h = some (if bDg c = true then 1 else 0) := by
  unfold mA_isDigit
  simp only [within_eq, bd_e]
  revert hc
  revert c
  decide +kernel
theorem isB_c (c : Nat) (hc : c < 256) (h : PH) : mA_isBlank (nI c) h = some (if bBk c = true then 1 else 0) := by
  unfold mA_isBlank
  revert hc
  revert c
  decide +kernel
theorem bt17 {B : Nat → Nat} {L : Nat} {h : PH} (t : TC B L h) : ∀ (n p : Nat), L < n + p → p ≤ L → mA_behindToken_L17 h n (nI p) = some (nI (rn bLt B L p)) := by
  intro n
  have tL := t.1
  induction n with
  | zero => intro p h1 h2; omega
  | succ n ih =>
    intro p h1 h2
    rw [mA_behindToken_L17, t.2.1]
    by_cases c : p < L
    · rw [if_neg (nI_ge c (by omega)), by_in t c, bd_e, isL_c _ (t.2.2 p c).2, bd_e]
      by_cases d : bLt (B p) = true
      · rw [if_pos d, if_neg (by decide), nI_1, rn_go c d]
        exact ih (p + 1) (by omega) (by omega)
      · rw [if_neg d, if_pos rfl, rn_st (fun z => d z.2)]
    · rw [if_pos (nI_le (by omega) (by omega)), rn_st (fun z => c z.1)]
theorem bt49 {B : Nat → Nat} {L : Nat} {h : PH} (t : TC B L h) : ∀ (n p : Nat), L < n + p → p ≤ L → mA_behindToken_L49 h n (nI p) = some (nI (rn bDg B L p)) := by
  intro n
  have tL := t.1
  induction n with
  | zero => intro p h1 h2; omega
  | succ n ih =>
    intro p h1 h2
    rw [mA_behindToken_L49, t.2.1]
    by_cases c : p < L
    · rw [if_neg (nI_ge c (by omega)), by_in t c, bd_e, isD_c _ (t.2.2 p c).2, bd_e]
      by_cases d : bDg (B p) = true
      · rw [if_pos d, if_neg (by decide), nI_1, rn_go c d]
        exact ih (p + 1) (by omega) (by omega)
      · rw [if_neg d, if_pos rfl, rn_st (fun z => d z.2)]
    · rw [if_pos (nI_le (by omega) (by omega)), rn_st (fun z => c z.1)]
theorem bt_at {B : Nat → Nat} {L : Nat} {h : PH} (t : TC B L h) (q : Nat) (hq : q < L) : mA_behindToken (nI q) h = some (nI (nx B L q)) := by
  have tL := t.1
  have hb := (t.2.2 q hq).2
  unfold mA_behindToken nx
  rw [by_in t hq, bd_e, lt_e, isL_c _ hb, bd_e, nI_1]
  by_cases d : bLt (B q) = true
  · rw [if_pos d, if_neg (by decide), if_pos d]
    exact bt17 t FU (q + 1) (by unfold FU; omega) (by omega)
  · rw [if_neg d, if_pos rfl, if_neg d, isD_c _ hb, bd_e]
    by_cases e : bDg (B q) = true
    · rw [if_pos e, if_neg (by decide), if_pos e]
      exact bt49 t FU (q + 1) (by unfold FU; omega) (by omega)
    · rw [if_neg e, if_pos rfl, if_neg e]
theorem nu_go {B : Nat → Nat} {L : Nat} {h : PH} (t : TC B L h) (q e : Nat) (he : e ≤ L) (hd : ∀ i, q + i < e → bDg (B (q + i)) = true) (h4 : e - q < 5) : ∀ (n d : Nat), e - q < n + d → q + d ≤ e → mA_numberAt_L5 (nI e) h n (nI (nv B q d)) (nI (q + d)) = some (nI (nv B q (e - q))) := by
  intro n
  have tL := t.1
  induction n with
  | zero => intro d h1 h2; omega
  | succ n ih =>
    intro d h1 h2
    rw [mA_numberAt_L5]
    by_cases c : q + d = e
    · rw [if_pos (nI_le (show e ≤ q + d by omega) (by omega)), show e - q = d by omega]
    · have b := bDg_r (hd d (by omega))
      rw [if_neg (nI_ge (show q + d < e by omega) (by omega)), by_in t (show q + d < L by omega), bd_e, lt_e, show (10 : Int32) * nI (nv B q d) = nI (10 * nv B q d) from nI_mul 10 _, nI_add, show (48 : Int32) = nI 48 from rfl, nI_sub (by omega), nI_1]
      exact ih (d + 1) (by omega) (by omega)
theorem ic_h (s : Nat) (p3 p4 : Int32) (h g : PH) : ∀ (n : Nat) (v : Int32), mH_indexOfChar_L7 s p3 p4 h n v = mH_indexOfChar_L7 s p3 p4 g n v := by
  intro n
  induction n with
  | zero => intro v; rfl
  | succ n ih => intro v; rw [mH_indexOfChar_L7, mH_indexOfChar_L7, ih]
theorem ix_h (x : Int32) (h g : PH) : mG_indexOf 4 x h = mG_indexOf 4 x g := by
  unfold mG_indexOf mG_indexOf2 mH_indexOf mH_indexOfChar mG_isLatin1 mG_length mG_coder mH_canEncode
  simp only [ic_h 4 _ _ h g]
theorem ix_0 : ∀ c, c < 256 → (mG_indexOf 4 (i2c (nI c)) (fun _ _ => 0)).isSome = true ∧ (decide (((mG_indexOf 4 (i2c (nI c)) (fun _ _ => 0)).getD 0) < 0) = !bSg c) := by decide +kernel
theorem ix_at (c : Nat) (hc : c < 256) (h : PH) : ∃ r, mG_indexOf 4 (i2c (nI c)) h = some r ∧ (r < 0 ↔ ¬ bSg c = true) := by
  rw [ix_h _ h (fun _ _ => 0)]
  obtain ⟨a, b⟩ := ix_0 c hc
  cases e : mG_indexOf 4 (i2c (nI c)) (fun _ _ => 0) with
  | none => rw [e] at a; cases a
  | some r =>
    rw [e] at b
    have b : decide (r < 0) = !bSg c := b
    refine ⟨r, rfl, ?_⟩
    cases q : bSg c with
    | true =>
      rw [q] at b
      exact ⟨fun z => absurd z (of_decide_eq_false b), fun z => absurd rfl z⟩
    | false =>
      rw [q] at b
      exact ⟨fun _ z => (by cases z), fun _ => of_decide_eq_true b⟩
theorem val4 {B : Nat → Nat} {L : Nat} {h : PH} (t : TC B L h) (s : Nat) (k : Int32) (q : Nat) (hq : q < L) (p4 : Int32) (h1 : ¬ k = 1) (h2 : ¬ k = 2) : mA_valueOf s k (nI q) p4 h = some (nI (B q)) := by
  unfold mA_valueOf
  rw [if_neg h1, if_neg h2, by_in t hq, bd_e]
theorem kd_at {B : Nat → Nat} {L : Nat} {h : PH} (t : TC B L h) (s : Nat) (hs : s < 4) (q : Nat) (hq : q < L) : ∃ k v, mA_kindOf s (nI q) (nI (nx B L q)) h = some k ∧ mA_valueOf s k (nI q) (nI (nx B L q)) h = some v ∧ TkC s (tk B L q) k v := by
  have tL := t.1
  have hb := (t.2.2 q hq).2
  obtain ⟨n1, n2⟩ := nx_le B L q hq
  unfold mA_kindOf
  rw [by_in t hq, bd_e, isL_c _ hb, bd_e]
  have w1 : ¬ (4 : Int32) = 1 := by decide
  have w2 : ¬ (4 : Int32) = 2 := by decide
  by_cases cl : bLt (B q) = true
  · have wn := wnC_at t s hs q (nx B L q) n2 n1
    rw [if_pos cl, if_neg (by decide), wn, bd_e]
    have tke : tk B L q = if wI (blk B q (nx B L q)) W27 0 = -1 then (1, 0) else (2, (wI (blk B q (nx B L q)) W27 0).toInt.toNat) := by
      unfold tk
      rw [if_pos hq, if_pos cl]
    rcases word_rel s hs (blk B q (nx B L q)) with ⟨e1, e2⟩ | ⟨m, m1, m2, e | e⟩
    · rw [e2, if_pos rfl]
      rw [e1, if_pos rfl] at tke
      exact ⟨4, _, rfl, val4 t s 4 q hq _ w1 w2, Or.inr (Or.inl ⟨by rw [tke], rfl⟩)⟩
    · rw [m2, if_neg (nI_nm1 (by omega)), nI_toInt (by omega), Int.toNat_natCast] at tke
      rw [e.1, if_pos rfl]
      exact ⟨4, _, rfl, val4 t s 4 q hq _ w1 w2, Or.inr (Or.inr (Or.inl ⟨by rw [tke], by rw [tke]; exact m1, Or.inr ⟨rfl, by rw [tke]; exact e.2⟩⟩))⟩
    · obtain ⟨w, x1, x2, x3⟩ := e
      have := (wk_l s hs).2
      rw [m2, if_neg (nI_nm1 (by omega)), nI_toInt (by omega), Int.toNat_natCast] at tke
      rw [x3, if_neg (nI_nm1 (by omega))]
      refine ⟨1, nI w, rfl, ?_, Or.inr (Or.inr (Or.inl ⟨by rw [tke], by rw [tke]; exact m1, Or.inl ⟨w, x1, by rw [tke]; exact x2, rfl, rfl⟩⟩))⟩
      unfold mA_valueOf
      rw [if_pos rfl, wn, bd_e, x3]
  · rw [if_neg cl, if_pos rfl, isD_c _ hb, bd_e]
    by_cases cd : bDg (B q) = true
    · have nxe : nx B L q = rn bDg B L (q + 1) := by unfold nx; rw [if_neg cl, if_pos cd]
      have tke : tk B L q = if nx B L q - q < 5 then (3, nv B q (nx B L q - q)) else (1, 0) := by
        unfold tk
        rw [if_pos hq, if_neg cl, if_pos cd]
      rw [if_pos cd, if_neg (by decide), nI_sub (by omega)]
      have dg : ∀ i, q + i < nx B L q → bDg (B (q + i)) = true := fun i hi => by
        by_cases z : i = 0
        · rw [z]; exact cd
        · exact (rn_le bDg B L _ (q + 1) rfl).2.2.1 (q + i) (by omega) (by rw [← nxe]; exact hi)
      by_cases c5 : nx B L q - q < 5
      · rw [if_neg (show ¬ (4 : Int32) < nI (nx B L q - q) from nI_nlt (a := 4) (by omega) (by decide))]
        rw [if_pos c5] at tke
        have nu := nu_go t q (nx B L q) n2 dg c5 FU 0 (by unfold FU; omega) (by omega)
        have nu : mA_numberAt (nI q) (nI (nx B L q)) h = some (nI (nv B q (nx B L q - q))) := nu
        have lt := nv_lt B q (nx B L q - q) (fun i hi => dg i (by omega))
        have p4 : 10 ^ (nx B L q - q) ≤ 10 ^ 4 := Nat.pow_le_pow_right (by decide) (by omega)
        refine ⟨2, nI (nv B q (nx B L q - q)), rfl, ?_, Or.inr (Or.inr (Or.inr (Or.inl ⟨by rw [tke], by rw [tke]; show nv B q (nx B L q - q) < 10000; omega, rfl, by rw [tke]⟩)))⟩
        unfold mA_valueOf
        rw [if_neg (by decide), if_pos rfl, nu, bd_e]
      · rw [if_pos (show (4 : Int32) < nI (nx B L q - q) from nI_lt (a := 4) (by omega) (by omega))]
        rw [if_neg c5] at tke
        exact ⟨4, _, rfl, val4 t s 4 q hq _ w1 w2, Or.inr (Or.inl ⟨by rw [tke], rfl⟩)⟩
    · rw [if_neg cd, if_pos rfl]
      have tke : tk B L q = if bSg (B q) = true then (4, B q) else (1, 0) := by
        unfold tk
        rw [if_pos hq, if_neg cl, if_neg cd]
      obtain ⟨r, r1, r2⟩ := ix_at (B q) hb h
      rw [r1, bd_e]
      by_cases cs : bSg (B q) = true
      · rw [if_neg (fun z => r2.mp z cs)]
        rw [if_pos cs] at tke
        exact ⟨3, _, rfl, val4 t s 3 q hq _ (by decide) (by decide), Or.inr (Or.inr (Or.inr (Or.inr ⟨by rw [tke], by rw [tke]; exact hb, rfl, by rw [tke]⟩)))⟩
      · rw [if_pos (r2.mpr cs)]
        rw [if_neg cs] at tke
        exact ⟨4, _, rfl, val4 t s 4 q hq _ w1 w2, Or.inr (Or.inl ⟨by rw [tke], rfl⟩)⟩
def kT (h : PH) (c : Nat) (k v p : Int32) : PH := up (up (up (up h 87 c k) 88 c v) 89 c p) 85 5 (nI (c + 1))
theorem kt_at (h : PH) (c : Nat) (hc : c ≤ 400) (e : h 85 5 = nI c) (k v p : Int32) : mA_keepToken k v p h = some (kT h c k v p) := by
  have x : ix (nI c) = c := nI_clamp (by omega)
  have e1 : up h 87 c k 85 5 = nI c := by rw [up_oc (by decide)]; exact e
  have e2 : up (up h 87 c k) 88 c v 85 5 = nI c := by rw [up_oc (by decide)]; exact e1
  have e3 : up (up (up h 87 c k) 88 c v) 89 c p 85 5 = nI c := by rw [up_oc (by decide)]; exact e2
  unfold mA_keepToken
  rw [e, if_neg (show ¬ (400 : Int32) < nI c from nI_nlt (a := 400) hc (by decide)), ck_nI (show c < 401 by omega) (by decide), lt_e, x, e1, ck_nI (show c < 401 by omega) (by decide), lt_e, x, e2, ck_nI (show c < 401 by omega) (by decide), lt_e, x, e3, lt_e, nI_1]
  rfl
/-- c tokens are kept -/
def SCI (s : Nat) (B : Nat → Nat) (L : Nat) (h0 : PH) (c : Nat) (h : PH) : Prop := TC B L h ∧ h 85 5 = nI c ∧ (∀ j, j < c → pl B L j < L ∧ TkC s (tk B L (pl B L j)) (h 87 j) (h 88 j) ∧ h 89 j = nI (pl B L j)) ∧ ∀ b, b ≠ 85 → b ≠ 87 → b ≠ 88 → b ≠ 89 → h b = h0 b
theorem tc_kT {B : Nat → Nat} {L : Nat} {h : PH} (t : TC B L h) (c : Nat) (k v p : Int32) : TC B L (kT h c k v p) := by
  refine ⟨t.1, ?_, fun j hj => ?_⟩
  · unfold kT
    rw [up_oj (by decide), up_oc (by decide), up_oc (by decide), up_oc (by decide)]
    exact t.2.1
  · unfold kT
    rw [up_oc (by decide), up_oc (by decide), up_oc (by decide), up_oc (by decide)]
    exact t.2.2 j hj
theorem kT_87 (h : PH) (c : Nat) (k v p : Int32) (j : Nat) : kT h c k v p 87 j = (if j = c then k else h 87 j) ∧ kT h c k v p 88 j = (if j = c then v else h 88 j) ∧ kT h c k v p 89 j = (if j = c then p else h 89 j) := by
  unfold kT
  refine ⟨?_, ?_, ?_⟩
  · rw [up_oc (by decide), up_oc (by decide), up_oc (by decide), up_at, if_pos rfl]
  · rw [up_oc (by decide), up_oc (by decide), up_at, if_pos rfl, up_oc (by decide)]
  · rw [up_oc (by decide), up_at, if_pos rfl, up_oc (by decide), up_oc (by decide)]
theorem kT_b (h : PH) (c : Nat) (k v p : Int32) (b : Nat) (h1 : b ≠ 85) (h2 : b ≠ 87) (h3 : b ≠ 88) (h4 : b ≠ 89) : kT h c k v p b = h b := by
  funext j
  unfold kT
  rw [up_oc h1, up_oc h4, up_oc h3, up_oc h2]
theorem sc_go (s : Nat) (hs : s < 4) (B : Nat → Nat) (L : Nat) (h0 : PH) (k0 : PH → Option PH) : ∀ (n p it c : Nat) (h : PH), L < n + p → p ≤ L → it ≤ p → c ≤ p → SCI s B L h0 c h → rn bBk B L p = pl B L c → ∃ N h', mA_scan_L9 s k0 n (nI p) (nI it) h = k0 h' ∧ N ≤ L ∧ SCI s B L h0 N h' ∧ pl B L N = L := by
  intro n
  induction n with
  | zero => intro p it c h h1 h2; omega
  | succ n ih =>
    intro p it c h h1 h2 h3 h4 st hp
    obtain ⟨t, e5, ar, fr⟩ := st
    have tL := t.1
    rw [mA_scan_L9]
    by_cases c1 : p = L
    · have fin : pl B L c = L := by rw [← hp, rn_st (by omega)]; exact c1
      by_cases c2 : it = 400
      · rw [if_pos (by rw [c2]; decide)]
        exact ⟨c, h, rfl, by omega, ⟨t, e5, ar, fr⟩, fin⟩
      · rw [if_neg (show ¬ (400 : Int32) ≤ nI it from nI_ge (b := 400) (by omega) (by decide)), t.2.1, if_pos (nI_le (by omega) (by omega))]
        exact ⟨c, h, rfl, by omega, ⟨t, e5, ar, fr⟩, fin⟩
    · have hq : p < L := by omega
      have hb := (t.2.2 p hq).2
      obtain ⟨n1, n2⟩ := nx_le B L p hq
      rw [if_neg (show ¬ (400 : Int32) ≤ nI it from nI_ge (b := 400) (by omega) (by decide)), t.2.1, if_neg (nI_ge hq (by omega)), bt_at t p hq, bd_e, by_in t hq, bd_e, isB_c _ hb, bd_e]
      by_cases cb : bBk (B p) = true
      · have nxe : nx B L p = p + 1 := by
          unfold nx
          have z : B p = 32 ∨ B p = 10 := by
            unfold bBk at cb
            rw [Bool.or_eq_true] at cb
            rcases cb with cb | cb
            · exact Or.inl (of_decide_eq_true cb)
            · exact Or.inr (of_decide_eq_true cb)
          rcases z with z | z <;> rw [z] <;> rfl
        rw [if_pos cb, if_neg (by decide), nxe, nI_1]
        exact ih (p + 1) (it + 1) c h (by omega) (by omega) (by omega) (by omega) ⟨t, e5, ar, fr⟩ (by rw [← hp, rn_go hq cb])
      · have pe : pl B L c = p := by rw [← hp, rn_st (fun z => cb z.2)]
        obtain ⟨k, v, k1, k2, k3⟩ := kd_at t s hs p hq
        rw [if_neg cb, if_pos rfl, k1, bd_e, k2, bd_e, kt_at h c (by omega) e5, bd_e, nI_1]
        refine ih (nx B L p) (it + 1) (c + 1) (kT h c k v (nI p)) (by omega) n2 (by omega) (by omega) ⟨tc_kT t c k v _, up_same, fun j hj => ?_, fun b b1 b2 b3 b4 => by rw [kT_b h c k v _ b b1 b2 b3 b4]; exact fr b b1 b2 b3 b4⟩ ?_
        · obtain ⟨a1, a2, a3⟩ := kT_87 h c k v (nI p) j
          rw [a1, a2, a3]
          by_cases z : j = c
          · rw [if_pos z, if_pos z, if_pos z, z, pe]
            exact ⟨hq, k3, rfl⟩
          · rw [if_neg z, if_neg z, if_neg z]
            exact ar j (by omega)
        · rw [pl, pe, if_pos hq]
/-- the class holds the N tokens and their end -/
def CTk (s : Nat) (B : Nat → Nat) (L N : Nat) (h : PH) : Prop := TC B L h ∧ N ≤ 400 ∧ h 85 5 = nI (N + 1) ∧ pl B L N = L ∧ (∀ j, j < N → pl B L j < L) ∧ ∀ j, j ≤ N → TkC s (tk B L (pl B L j)) (h 87 j) (h 88 j) ∧ h 89 j = nI (pl B L j)
theorem sc_at (s : Nat) (hs : s < 4) (B : Nat → Nat) (L : Nat) (h : PH) (t : TC B L h) : ∃ N g, mA_scan s h = some g ∧ CTk s B L N g ∧ ∀ b, b ≠ 85 → b ≠ 87 → b ≠ 88 → b ≠ 89 → g b = h b := by
  have tL := t.1
  have t0 : TC B L (up h 85 5 0) := ⟨t.1, by rw [up_oj (by decide)]; exact t.2.1, fun j hj => by rw [up_oc (by decide)]; exact t.2.2 j hj⟩
  obtain ⟨N, g, q1, q2, ⟨a1, a2, a3, a4⟩, q4⟩ := sc_go s hs B L h (fun (h8 : PH) => bd (mA_keepToken 0 0 (h8 85 4) h8) fun h9 => some h9) FU 0 0 0 (up h 85 5 0) (by unfold FU; omega) (by omega) (by omega) (by omega) ⟨t0, up_same, fun j hj => absurd hj (by omega), fun b b1 b2 b3 b4 => by funext j; exact up_oc b1⟩ rfl
  refine ⟨N, kT g N 0 0 (g 85 4), ?_, ⟨tc_kT a1 _ _ _ _, by omega, up_same, q4, fun j hj => (a3 j hj).1, fun j hj => ?_⟩, fun b b1 b2 b3 b4 => by rw [kT_b g N _ _ _ b b1 b2 b3 b4]; exact a4 b b1 b2 b3 b4⟩
  · unfold mA_scan
    rw [lt_e]
    rw [nI_0] at q1
    rw [q1]
    show bd (mA_keepToken 0 0 (g 85 4) g) _ = _
    rw [kt_at g N (by omega) a2, bd_e]
  · obtain ⟨b1, b2, b3⟩ := kT_87 g N 0 0 (g 85 4) j
    rw [b1, b2, b3]
    by_cases z : j = N
    · rw [if_pos z, if_pos z, if_pos z, z, q4]
      refine ⟨Or.inl ⟨?_, rfl⟩, a1.2.1⟩
      unfold tk
      rw [if_neg (by omega)]
    · rw [if_neg z, if_neg z, if_neg z]
      exact (a3 j (by omega)).2
end
section
/-! TOKENS of the model -/
theorem tm_fr {B : Nat → Nat} {L : Nat} {h g : PH} (t : TM B L h) (f : FR4 h g) : TM B L g := ⟨t.1, by rw [f.2 11 (by decide) (by decide) (by decide) (by decide)]; exact t.2.1, fun j hj => by rw [f.1 111 (by decide)]; exact t.2.2.1 j hj, fun j hj => by rw [f.1 112 (by decide)]; exact t.2.2.2 j hj⟩
theorem fr4_r (h : PH) : FR4 h h := ⟨fun _ _ => rfl, fun _ _ _ _ _ => rfl⟩
theorem raw_in {B : Nat → Nat} {L : Nat} {h : PH} (t : TM B L h) {p : Nat} (hp : p < L) : mm_raw (nI p) h = some (nI (B p)) := by
  obtain ⟨t1, t2, t3, _⟩ := t
  unfold mm_raw
  rw [t2, if_neg (nI_ge hp (by omega)), ck_nI (by omega) (by decide), show ix (nI p) = p from nI_clamp (by omega), (t3 p hp).1]
theorem raw_out {B : Nat → Nat} {L : Nat} {h : PH} (t : TM B L h) {p : Nat} (hp : L ≤ p) (hp2 : p ≤ 400) : mm_raw (nI p) h = some (-1) := by
  obtain ⟨t1, t2, t3, _⟩ := t
  unfold mm_raw
  rw [t2, if_pos (nI_le hp (by omega))]
theorem isL_m (c : Nat) (hc : c < 256) (h : PH) : mm_isLetter (nI c) h = some (if bLt c = true then 1 else 0) := by
  unfold mm_isLetter
  simp only [isIn_eq, bd_e]
  revert hc
  revert c
  decide +kernel
theorem isL_e (h : PH) : mm_isLetter (-1) h = some 0 := by
  unfold mm_isLetter
  simp only [isIn_eq, bd_e]
  decide +kernel
theorem isD_m (c : Nat) (hc : c < 256) (h : PH) : mm_isDigit (nI c) h = some (if bDg c = true then 1 else 0) := by
  unfold mm_isDigit
  simp only [isIn_eq, bd_e]
  revert hc
  revert c
  decide +kernel
theorem isD_e (h : PH) : mm_isDigit (-1) h = some 0 := by
  unfold mm_isDigit
  simp only [isIn_eq, bd_e]
  decide +kernel
theorem isS_m (c : Nat) (hc : c < 256) (h : PH) : mm_isMarkSign (nI c) h = some (if bSg c = true then 1 else 0) := by
  unfold mm_isMarkSign
  revert hc
  revert c
  decide +kernel
theorem bk_m : ∀ c, c < 256 → (bBk c = true ↔ (nI c = 32 ∨ nI c = 10)) := by decide +kernel
theorem ml0 {B : Nat → Nat} {L : Nat} {h : PH} (t : TM B L h) : ∀ (n p : Nat) (hv : PH), L < n + p → p ≤ L → FR4 h hv → hv 104 12 = nI p → ∃ g, (∀ k0 : PH → Option PH, mm_reads_L0 k0 n hv = k0 g) ∧ FR4 h g ∧ g 104 12 = nI (rn bBk B L p) := by
  intro n
  have tL := t.1
  induction n with
  | zero => intro p hv h1 h2; omega
  | succ n ih =>
    intro p hv h1 h2 fr e
    have t' := tm_fr t fr
    by_cases hp : p < L
    · have hb := (t.2.2.1 p hp).2
      have ib := bk_m (B p) hb
      have step : ∀ k0 : PH → Option PH, mm_reads_L0 k0 (n + 1) hv = if bBk (B p) = true then mm_reads_L0 k0 n (up hv 104 12 (nI (p + 1))) else k0 hv := fun k0 => by
        rw [mm_reads_L0, e, raw_in t' hp, bd_e, jn0_e, bd_e, lt_e, nI_1]
        by_cases c : bBk (B p) = true
        · rw [if_pos c]
          rcases ib.mp c with z | z
          · rw [if_pos z]
          · by_cases y : nI (B p) = 32
            · rw [if_pos y]
            · rw [if_neg y, if_pos z]
        · rw [if_neg c, if_neg (fun z => c (ib.mpr (Or.inl z))), if_neg (fun z => c (ib.mpr (Or.inr z)))]
      by_cases c : bBk (B p) = true
      · obtain ⟨g, g1, g2, g3⟩ := ih (p + 1) (up hv 104 12 (nI (p + 1))) (by omega) (by omega) (fr4_up fr (Or.inl rfl) _) up_same
        exact ⟨g, fun k0 => by rw [step, if_pos c, g1], g2, by rw [g3, rn_go hp c]⟩
      · exact ⟨hv, fun k0 => by rw [step, if_neg c], fr, by rw [e, rn_st (fun z => c z.2)]⟩
    · refine ⟨hv, fun k0 => ?_, fr, by rw [e, rn_st (fun z => hp z.1)]⟩
      rw [mm_reads_L0, e, raw_out t' (by omega) (by omega), bd_e, jn0_e, bd_e, if_neg (by decide), if_neg (by decide)]
theorem ml95 {B : Nat → Nat} {L : Nat} {h : PH} (t : TM B L h) : ∀ (n p : Nat) (hv : PH), L < n + p → p ≤ L → FR4 h hv → hv 104 12 = nI p → ∃ g, (∀ k0 : PH → Option PH, mm_reads_L95 k0 n hv = k0 g) ∧ FR4 h g ∧ g 104 12 = nI (rn bLt B L p) ∧ ∀ j, j ≠ 12 → g 104 j = hv 104 j := by
  intro n
  have tL := t.1
  induction n with
  | zero => intro p hv h1 h2; omega
  | succ n ih =>
    intro p hv h1 h2 fr e
    have t' := tm_fr t fr
    by_cases hp : p < L
    · have hb := (t.2.2.1 p hp).2
      by_cases c : bLt (B p) = true
      · obtain ⟨g, g1, g2, g3, g4⟩ := ih (p + 1) (up hv 104 12 (nI (p + 1))) (by omega) (by omega) (fr4_up fr (Or.inl rfl) _) up_same
        refine ⟨g, fun k0 => ?_, g2, by rw [g3, rn_go hp c], fun j hj => by rw [g4 j hj, up_oj hj]⟩
        rw [mm_reads_L95, e, raw_in t' hp, bd_e, isL_m _ hb, bd_e, if_pos c, if_neg (by decide), lt_e, nI_1, g1]
      · refine ⟨hv, fun k0 => ?_, fr, by rw [e, rn_st (fun z => c z.2)], fun _ _ => rfl⟩
        rw [mm_reads_L95, e, raw_in t' hp, bd_e, isL_m _ hb, bd_e, if_neg c, if_pos rfl]
    · refine ⟨hv, fun k0 => ?_, fr, by rw [e, rn_st (fun z => hp z.1)], fun _ _ => rfl⟩
      rw [mm_reads_L95, e, raw_out t' (by omega) (by omega), bd_e, isL_e, bd_e, if_pos rfl]
theorem ml171 {B : Nat → Nat} {L : Nat} {h : PH} (t : TM B L h) (q : Nat) : ∀ (n p : Nat) (hv : PH), L < n + p → p ≤ L → q ≤ p → (∀ i, q + i < p → bDg (B (q + i)) = true) → FR4 h hv → hv 104 12 = nI p → (p - q < 5 → hv 104 15 = nI (nv B q (p - q))) → ∃ g, (∀ k0 : PH → Option PH, mm_reads_L171 k0 n hv = k0 g) ∧ FR4 h g ∧ g 104 12 = nI (rn bDg B L p) ∧ (∀ j, j ≠ 12 → j ≠ 15 → g 104 j = hv 104 j) ∧ (rn bDg B L p - q < 5 → g 104 15 = nI (nv B q (rn bDg B L p - q))) := by
  intro n
  have tL := t.1
  induction n with
  | zero => intro p hv h1 h2; omega
  | succ n ih =>
    intro p hv h1 h2 hqp hd fr e ev
    have t' := tm_fr t fr
    by_cases hp : p < L
    · have hb := (t.2.2.1 p hp).2
      by_cases c : bDg (B p) = true
      · have d1 := bDg_r c
        have hd' : ∀ i, q + i < p + 1 → bDg (B (q + i)) = true := fun i hi => by
          by_cases z : q + i = p
          · rw [z]; exact c
          · exact hd i (by omega)
        have key : ∃ x : Int32, (∀ k0 : PH → Option PH, mm_reads_L171 k0 (n + 1) hv = mm_reads_L171 k0 n (up (up hv 104 15 x) 104 12 (nI (p + 1)))) ∧ (p + 1 - q < 5 → x = nI (nv B q (p + 1 - q))) := by
          by_cases c2 : (10000 : Int32) ≤ hv 104 15
          · refine ⟨hv 104 15, fun k0 => ?_, fun z => ?_⟩
            · rw [mm_reads_L171, e, raw_in t' hp, bd_e, isD_m _ hb, bd_e, if_pos c, if_neg (by decide), jn1_e, if_pos c2]
              try dsimp only
              rw [lt_e, lt_e, up_oj (by decide), e, nI_1]
            · have lt := nv_lt B q (p - q) (fun i hi => hd i (by omega))
              have p4 : 10 ^ (p - q) ≤ 10 ^ 3 := Nat.pow_le_pow_right (by decide) (by omega)
              rw [ev (by omega)] at c2
              exact absurd c2 (nI_ge (b := 10000) (by omega) (by decide))
          · refine ⟨((10 * (hv 104 15)) + nI (B p)) - 48, fun k0 => ?_, fun z => ?_⟩
            · rw [mm_reads_L171, e, raw_in t' hp, bd_e, isD_m _ hb, bd_e, if_pos c, if_neg (by decide), jn1_e, if_neg c2, bd_e]
              try dsimp only
              rw [lt_e, lt_e, up_oj (by decide), e, nI_1]
            · rw [ev (by omega), show (10 : Int32) * nI (nv B q (p - q)) = nI (10 * nv B q (p - q)) from nI_mul 10 _, nI_add, show (48 : Int32) = nI 48 from rfl, nI_sub (by omega), show p + 1 - q = (p - q) + 1 by omega, nv, show q + (p - q) = p by omega]
        obtain ⟨x, x1, x2⟩ := key
        obtain ⟨g, g1, g2, g3, g4, g5⟩ := ih (p + 1) (up (up hv 104 15 x) 104 12 (nI (p + 1))) (by omega) (by omega) (by omega) hd' (fr4_up (fr4_up fr (Or.inr (Or.inr (Or.inr rfl))) _) (Or.inl rfl) _) up_same (fun z => by rw [up_oj (by decide), up_same]; exact x2 z)
        exact ⟨g, fun k0 => by rw [x1, g1], g2, by rw [g3, rn_go hp c], fun j j1 j2 => by rw [g4 j j1 j2, up_oj j1, up_oj j2], by rw [rn_go hp c]; exact g5⟩
      · refine ⟨hv, fun k0 => ?_, fr, by rw [e, rn_st (fun z => c z.2)], fun _ _ _ => rfl, by rw [rn_st (fun z => c z.2)]; exact ev⟩
        rw [mm_reads_L171, e, raw_in t' hp, bd_e, isD_m _ hb, bd_e, if_neg c, if_pos rfl]
    · refine ⟨hv, fun k0 => ?_, fr, by rw [e, rn_st (fun z => hp z.1)], fun _ _ _ => rfl, by rw [rn_st (fun z => hp z.1)]; exact ev⟩
      rw [mm_reads_L171, e, raw_out t' (by omega) (by omega), bd_e, isD_e, bd_e, if_pos rfl]
theorem fr4_t {h g f : PH} (a : FR4 h g) (b : FR4 g f) : FR4 h f := ⟨fun x hx => by rw [b.1 x hx, a.1 x hx], fun j j1 j2 j3 j4 => by rw [b.2 j j1 j2 j3 j4, a.2 j j1 j2 j3 j4]⟩
theorem rd_at {B : Nat → Nat} {L : Nat} {h : PH} (t : TM B L h) (p : Nat) (hp : p ≤ L) (e12 : h 104 12 = nI p) : ∃ g, mm_reads h = some g ∧ FR4 h g ∧ g 104 12 = nI (if rn bBk B L p < L then nx B L (rn bBk B L p) else L) ∧ g 104 13 = nI (rn bBk B L p) ∧ TkM (tk B L (rn bBk B L p)) (g 104 14) (g 104 15) := by
  have tL := t.1
  obtain ⟨_, r1, _, _⟩ := rn_le bBk B L _ p rfl
  have r1 := r1 hp
  unfold mm_reads
  obtain ⟨h5, m0, f5, e5⟩ := ml0 t FU p h (by unfold FU; omega) hp (fr4_r h) e12
  rw [m0]
  generalize rn bBk B L p = q at r1 e5 ⊢
  rw [lt_e, lt_e]
  have e13 : up (up h5 104 13 (h5 104 12)) 104 14 1 104 13 = nI q := by rw [up_oj (by decide), up_same]; exact e5
  have e7 : up (up h5 104 13 (h5 104 12)) 104 14 1 104 12 = nI q := by rw [up_oj (by decide), up_oj (by decide)]; exact e5
  have e14 : up (up h5 104 13 (h5 104 12)) 104 14 1 104 14 = 1 := up_same
  have f7 : FR4 h (up (up h5 104 13 (h5 104 12)) 104 14 1) := fr4_up (fr4_up f5 (Or.inr (Or.inl rfl)) _) (Or.inr (Or.inr (Or.inl rfl))) _
  generalize up (up h5 104 13 (h5 104 12)) 104 14 1 = h7 at e13 e7 e14 f7 ⊢
  have t7 := tm_fr t f7
  rw [e7]
  by_cases c : q < L
  · have hb := (t.2.2.1 q c).2
    have nxl := nx_le B L q c
    rw [raw_in t7 c, bd_e, if_neg (nI_nm1 (by omega)), lt_e, lt_e, nI_1, if_pos c]
    have k12 : up (up h7 104 12 (nI (q + 1))) 104 15 (nI (B q)) 104 12 = nI (q + 1) := by rw [up_oj (by decide), up_same]
    have k13 : up (up h7 104 12 (nI (q + 1))) 104 15 (nI (B q)) 104 13 = nI q := by rw [up_oj (by decide), up_oj (by decide)]; exact e13
    have k14 : up (up h7 104 12 (nI (q + 1))) 104 15 (nI (B q)) 104 14 = 1 := by rw [up_oj (by decide), up_oj (by decide)]; exact e14
    have k15 : up (up h7 104 12 (nI (q + 1))) 104 15 (nI (B q)) 104 15 = nI (B q) := up_same
    have f11 : FR4 h (up (up h7 104 12 (nI (q + 1))) 104 15 (nI (B q))) := fr4_up (fr4_up f7 (Or.inl rfl) _) (Or.inr (Or.inr (Or.inr rfl))) _
    generalize up (up h7 104 12 (nI (q + 1))) 104 15 (nI (B q)) = h11 at k12 k13 k14 k15 f11 ⊢
    have t11 := tm_fr t f11
    rw [isL_m _ hb, bd_e]
    by_cases cl : bLt (B q) = true
    · have nxe : nx B L q = rn bLt B L (q + 1) := by unfold nx; rw [if_pos cl]
      have tke : tk B L q = if wI (blk B q (nx B L q)) W27 0 = -1 then (1, 0) else (2, (wI (blk B q (nx B L q)) W27 0).toInt.toNat) := by
        unfold tk
        rw [if_pos c, if_pos cl]
      obtain ⟨h29, m1, f29, x12, xo⟩ := ml95 t11 FU (q + 1) h11 (by unfold FU; omega) (by omega) (fr4_r h11) k12
      rw [← nxe] at x12
      have hl : ∀ i, i < nx B L q - q → B (q + i) ≠ 32 := fun i hi => by
        by_cases z : i = 0
        · rw [z]; exact bLt_32 cl
        · exact bLt_32 ((rn_le bLt B L _ (q + 1) rfl).2.2.1 (q + i) (by omega) (by rw [← nxe]; omega))
      rw [if_pos cl, if_neg (by decide), m1, xo 13 (by decide), k13, x12, wa_at (tm_fr t11 f29) q (nx B L q) nxl.2 nxl.1 hl, bd_e, lt_e, up_same]
      have fr := fr4_t f11 f29
      by_cases w : wI (blk B q (nx B L q)) W27 0 = -1
      · rw [if_pos w] at tke
        rw [if_pos w]
        refine ⟨_, rfl, fr4_up fr (Or.inr (Or.inr (Or.inr rfl))) _, by rw [up_oj (by decide)]; exact x12, by rw [up_oj (by decide), xo 13 (by decide)]; exact k13, Or.inr (Or.inl ⟨by rw [tke], by rw [up_oj (by decide), xo 14 (by decide)]; exact k14⟩)⟩
      · rw [if_neg w] at tke
        rw [if_neg w, lt_e]
        obtain ⟨m, m1, m2⟩ : ∃ m, m < 27 ∧ wI (blk B q (nx B L q)) W27 0 = nI m := by
          rcases word_rel 0 (by decide) (blk B q (nx B L q)) with ⟨z, _⟩ | ⟨m, z1, z2, _⟩
          · exact absurd z w
          · exact ⟨m, z1, z2⟩
        rw [m2, nI_toInt (by omega), Int.toNat_natCast] at tke
        refine ⟨_, rfl, fr4_up (fr4_up fr (Or.inr (Or.inr (Or.inr rfl))) _) (Or.inr (Or.inr (Or.inl rfl))) _, by rw [up_oj (by decide), up_oj (by decide)]; exact x12, by rw [up_oj (by decide), up_oj (by decide), xo 13 (by decide)]; exact k13, Or.inr (Or.inr (Or.inl ⟨by rw [tke], by rw [tke]; exact m1, up_same, by rw [up_oj (by decide), up_same, m2, tke]⟩))⟩
    · rw [if_neg cl, if_pos rfl, isD_m _ hb, bd_e]
      by_cases cd : bDg (B q) = true
      · have nxe : nx B L q = rn bDg B L (q + 1) := by unfold nx; rw [if_neg cl, if_pos cd]
        have d1 := bDg_r cd
        have tke : tk B L q = if nx B L q - q < 5 then (3, nv B q (nx B L q - q)) else (1, 0) := by
          unfold tk
          rw [if_pos c, if_neg cl, if_pos cd]
        have dg : ∀ i, q + i < nx B L q → bDg (B (q + i)) = true := fun i hi => by
          by_cases z : i = 0
          · rw [z]; exact cd
          · exact (rn_le bDg B L _ (q + 1) rfl).2.2.1 (q + i) (by omega) (by rw [← nxe]; exact hi)
        have f16 : FR4 h (up h11 104 15 (nI (B q) - 48)) := fr4_up f11 (Or.inr (Or.inr (Or.inr rfl))) _
        obtain ⟨h24, m1, f24, x12, xo, xv⟩ := ml171 t q FU (q + 1) (up h11 104 15 (nI (B q) - 48)) (by unfold FU; omega) (by omega) (by omega) (fun i hi => by rw [show i = 0 by omega]; exact cd) f16 (by rw [up_oj (by decide)]; exact k12) (fun _ => by
          rw [up_same, show (48 : Int32) = nI 48 from rfl, nI_sub (by omega), show q + 1 - q = 0 + 1 by omega, nv, nv, Nat.add_zero, Nat.mul_zero, Nat.zero_add])
        rw [← nxe] at x12 xv
        have y13 : h24 104 13 = nI q := by rw [xo 13 (by decide) (by decide), up_oj (by decide)]; exact k13
        have y14 : h24 104 14 = 1 := by rw [xo 14 (by decide) (by decide), up_oj (by decide)]; exact k14
        rw [if_pos cd, if_neg (by decide), lt_e, m1, x12, y13, nI_sub (by omega)]
        by_cases c5 : nx B L q - q < 5
        · rw [if_pos c5] at tke
          have lt := nv_lt B q (nx B L q - q) (fun i hi => dg i (by omega))
          have p4 : 10 ^ (nx B L q - q) ≤ 10 ^ 4 := Nat.pow_le_pow_right (by decide) (by omega)
          rw [if_neg (show ¬ (5 : Int32) ≤ nI (nx B L q - q) from nI_ge (b := 5) (by omega) (by decide)), lt_e]
          refine ⟨_, rfl, fr4_up f24 (Or.inr (Or.inr (Or.inl rfl))) _, by rw [up_oj (by decide)]; exact x12, by rw [up_oj (by decide)]; exact y13, Or.inr (Or.inr (Or.inr (Or.inl ⟨by rw [tke], by rw [tke]; show nv B q (nx B L q - q) < 10000; omega, up_same, by rw [up_oj (by decide), xv c5, tke]⟩)))⟩
        · rw [if_neg c5] at tke
          rw [if_pos (show (5 : Int32) ≤ nI (nx B L q - q) from nI_le (a := 5) (by omega) (by omega))]
          exact ⟨_, rfl, f24, x12, y13, Or.inr (Or.inl ⟨by rw [tke], y14⟩)⟩
      · have nxe : nx B L q = q + 1 := by unfold nx; rw [if_neg cl, if_neg cd]
        have tke : tk B L q = if bSg (B q) = true then (4, B q) else (1, 0) := by
          unfold tk
          rw [if_pos c, if_neg cl, if_neg cd]
        rw [if_neg cd, if_pos rfl, isS_m _ hb, bd_e]
        by_cases cs : bSg (B q) = true
        · rw [if_pos cs] at tke
          rw [if_pos cs, if_neg (by decide), lt_e]
          refine ⟨_, rfl, fr4_up f11 (Or.inr (Or.inr (Or.inl rfl))) _, by rw [up_oj (by decide), nxe]; exact k12, by rw [up_oj (by decide)]; exact k13, Or.inr (Or.inr (Or.inr (Or.inr ⟨by rw [tke], by rw [tke]; exact hb, up_same, by rw [up_oj (by decide), k15, tke]⟩)))⟩
        · rw [if_neg cs] at tke
          rw [if_neg cs, if_pos rfl]
          exact ⟨_, rfl, f11, by rw [nxe]; exact k12, k13, Or.inr (Or.inl ⟨by rw [tke], k14⟩)⟩
  · have qL : q = L := by omega
    rw [raw_out t7 (by omega) (by omega), bd_e, if_pos rfl, lt_e, if_neg c]
    refine ⟨_, rfl, fr4_up f7 (Or.inr (Or.inr (Or.inl rfl))) _, by rw [up_oj (by decide), e7, qL], by rw [up_oj (by decide)]; exact e13, Or.inl ⟨?_, up_same⟩⟩
    unfold tk
    rw [if_neg c]
end
section
/-! THE CURSOR: both readers stand at token i -/
def CU (s : Nat) (B : Nat → Nat) (L N i : Nat) (h : PH) : Prop := CTk s B L N h ∧ i ≤ N ∧ h 90 5 = nI i ∧ h 90 6 = h 87 i ∧ h 90 7 = h 88 i ∧ h 90 2 = 0 ∧ h 90 3 = -1
def MU (B : Nat → Nat) (L i : Nat) (h : PH) : Prop := TM B L h ∧ h 104 12 = nI (if pl B L i < L then nx B L (pl B L i) else L) ∧ h 104 13 = nI (pl B L i) ∧ TkM (tk B L (pl B L i)) (h 104 14) (h 104 15)
theorem mu_adv {B : Nat → Nat} {L i : Nat} {h : PH} (m : MU B L i h) : ∃ g, mm_reads h = some g ∧ FR4 h g ∧ MU B L (i + 1) g := by
  obtain ⟨t, e12, e13, e⟩ := m
  have key : ∃ p, p ≤ L ∧ h 104 12 = nI p ∧ rn bBk B L p = pl B L (i + 1) := by
    by_cases c : pl B L i < L
    · rw [if_pos c] at e12
      exact ⟨_, (nx_le B L _ c).2, e12, by rw [pl, if_pos c]⟩
    · rw [if_neg c] at e12
      exact ⟨L, Nat.le_refl _, e12, by rw [pl, if_neg c, rn_st (by omega)]⟩
  obtain ⟨p, p1, p2, p3⟩ := key
  obtain ⟨g, g1, g2, g3, g4, g5⟩ := rd_at t p p1 p2
  rw [p3] at g3 g4 g5
  exact ⟨g, g1, g2, tm_fr t g2, g3, g4, g5⟩
theorem mu_first {B : Nat → Nat} {L : Nat} {h : PH} (t : TM B L h) (e : h 104 12 = 0) : ∃ g, mm_reads h = some g ∧ FR4 h g ∧ MU B L 0 g := by
  obtain ⟨g, g1, g2, g3, g4, g5⟩ := rd_at t 0 (Nat.zero_le _) (by rw [nI_0]; exact e)
  exact ⟨g, g1, g2, tm_fr t g2, g3, g4, g5⟩
def avH (h : PH) (k : Nat) : PH := up (up (up h 90 5 (nI k)) 90 6 (h 87 k)) 90 7 (h 88 k)
theorem avH_b (h : PH) (k b : Nat) (hb : b ≠ 90) : avH h k b = h b := by
  funext j
  unfold avH
  rw [up_oc hb, up_oc hb, up_oc hb]
theorem avH_o (h : PH) (k j : Nat) (h5 : j ≠ 5) (h6 : j ≠ 6) (h7 : j ≠ 7) : avH h k 90 j = h 90 j := by
  unfold avH
  rw [up_oj h7, up_oj h6, up_oj h5]
theorem ctk_b {s : Nat} {B : Nat → Nat} {L N : Nat} {h g : PH} (c : CTk s B L N h) (e5 : g 85 = h 85) (e6 : g 86 = h 86) (e7 : g 87 = h 87) (e8 : g 88 = h 88) (e9 : g 89 = h 89) : CTk s B L N g := by
  obtain ⟨⟨t1, t2, t3⟩, c2, c3, c4, c5, c6⟩ := c
  unfold CTk TC
  rw [e5, e6, e7, e8, e9]
  exact ⟨⟨t1, t2, t3⟩, c2, c3, c4, c5, c6⟩
theorem av_at {s : Nat} {B : Nat → Nat} {L N : Nat} {h : PH} (c : CTk s B L N h) (k : Nat) (hk : k ≤ N) (e : h 90 5 + 1 = nI k) (ef : h 90 2 = 0 ∧ h 90 3 = -1) : mD_advance h = some (avH h k) ∧ CU s B L N k (avH h k) := by
  have cN := c.2.1
  have a1 : up h 90 5 (nI k) 90 5 = nI k := up_same
  have a2 : up h 90 5 (nI k) 85 5 = nI (N + 1) := by rw [up_oc (by decide)]; exact c.2.2.1
  have a3 : ∀ x, up (up h 90 5 (nI k)) 90 6 x 90 5 = nI k := fun x => by rw [up_oj (by decide)]; exact a1
  have x1 : ix (nI k) = k := nI_clamp (by omega)
  constructor
  · unfold mD_advance
    rw [lt_e, e, jn1_e, a1, a2, if_neg (nI_pos (by omega)), if_neg (nI_ge (by omega) (by omega)), if_neg (show ¬ (400 : Int32) < nI k from nI_nlt (a := 400) (by omega) (by decide))]
    try dsimp only
    rw [jn1_e]
    try dsimp only
    rw [if_neg (by decide), ck_nI (show k < 401 by omega) (by decide), x1]
    try dsimp only
    rw [lt_e, jn1_e]
    try dsimp only
    rw [if_neg (by decide), a3, ck_nI (show k < 401 by omega) (by decide), x1]
    try dsimp only
    rw [lt_e, up_oc (show (88 : Nat) ≠ 90 by decide), up_oc (show (88 : Nat) ≠ 90 by decide), up_oc (show (87 : Nat) ≠ 90 by decide)]
    rfl
  · refine ⟨ctk_b c (avH_b h k 85 (by decide)) (avH_b h k 86 (by decide)) (avH_b h k 87 (by decide)) (avH_b h k 88 (by decide)) (avH_b h k 89 (by decide)), hk, ?_, ?_, ?_, by rw [avH_o h k 2 (by decide) (by decide) (by decide)]; exact ef.1, by rw [avH_o h k 3 (by decide) (by decide) (by decide)]; exact ef.2⟩
    · unfold avH
      rw [up_oj (by decide), up_oj (by decide), up_same]
    · rw [avH_b h k 87 (by decide)]
      unfold avH
      rw [up_oj (by decide), up_same]
    · rw [avH_b h k 88 (by decide)]
      unfold avH
      rw [up_same]
theorem cu_adv {s : Nat} {B : Nat → Nat} {L N i : Nat} {h : PH} (c : CU s B L N i h) (hi : i < N) : mD_advance h = some (avH h (i + 1)) ∧ CU s B L N (i + 1) (avH h (i + 1)) :=
  av_at c.1 (i + 1) hi (by rw [c.2.2.1, nI_1]) c.2.2.2.2.2
theorem cu_9 {s : Nat} {B : Nat → Nat} {L N i : Nat} {h : PH} (c : CU s B L N i h) (v : Int32) : CU s B L N i (up h 90 9 v) := by
  obtain ⟨y1, y2, y3, y4, y5, y6, y7⟩ := c
  refine ⟨ctk_b y1 (up_cell (by decide)) (up_cell (by decide)) (up_cell (by decide)) (up_cell (by decide)) (up_cell (by decide)), y2, ?_, ?_, ?_, ?_, ?_⟩
  · rw [up_oj (by decide)]; exact y3
  · rw [up_oj (by decide), up_oc (by decide)]; exact y4
  · rw [up_oj (by decide), up_oc (by decide)]; exact y5
  · rw [up_oj (by decide)]; exact y6
  · rw [up_oj (by decide)]; exact y7
def tt (B : Nat → Nat) (L i : Nat) : Nat × Nat := tk B L (pl B L i)
theorem cu_tk {s : Nat} {B : Nat → Nat} {L N i : Nat} {h : PH} (c : CU s B L N i h) : TkC s (tt B L i) (h 90 6) (h 90 7) := by
  rw [c.2.2.2.1, c.2.2.2.2.1]
  exact (c.1.2.2.2.2.2 i c.2.1).1
/-- what isn't the end has one behind it -/
theorem cu_lt {s : Nat} {B : Nat → Nat} {L N i : Nat} {h : PH} (c : CU s B L N i h) (n : (tt B L i).1 ≠ 0) : i < N := by
  apply Classical.byContradiction
  intro z
  have e : i = N := by have := c.2.1; omega
  apply n
  unfold tt tk
  rw [e, c.1.2.2.2.1, if_neg (by omega)]
theorem wv_inj : ∀ s, s < 4 → ∀ w, w < (wv s).length → ∀ x, x < (wv s).length → (wv s).getD w 99 = (wv s).getD x 99 → w = x := by decide +kernel
theorem c_sg {s : Nat} {B : Nat → Nat} {L N i : Nat} {h : PH} (c : CU s B L N i h) (x : Nat) (hx : x < 256) : mD_isSign (nI x) h = some (if (tt B L i).1 = 4 ∧ (tt B L i).2 = x then 1 else 0) := by
  have k := cu_tk c
  unfold mD_isSign
  rcases k with ⟨a, e⟩ | ⟨a, e⟩ | ⟨a, a2, ⟨w, w1, w2, e, e2⟩ | ⟨e, e2⟩⟩ | ⟨a, a2, e, e2⟩ | ⟨a, a2, e, e2⟩
  · rw [e, if_neg (by decide), if_neg (by omega)]
  · rw [e, if_neg (by decide), if_neg (by omega)]
  · rw [e, if_neg (by decide), if_neg (by omega)]
  · rw [e, if_neg (by decide), if_neg (by omega)]
  · rw [e, if_neg (by decide), if_neg (by omega)]
  · rw [e, if_pos rfl, e2]
    by_cases z : (tt B L i).2 = x
    · rw [if_pos (by rw [z]), if_pos ⟨a, z⟩]
    · rw [if_neg (fun y => z ((nI_eq (by omega) (by omega)).mp y)), if_neg (fun y => z y.2)]
theorem c_wd {s : Nat} {B : Nat → Nat} {L N i : Nat} {h : PH} (hs : s < 4) (c : CU s B L N i h) (x : Nat) (hx : x < (wv s).length) : mD_isWord (nI x) h = some (if (tt B L i).1 = 2 ∧ (tt B L i).2 = (wv s).getD x 99 then 1 else 0) := by
  have k := cu_tk c
  have l := (wk_l s hs).2
  unfold mD_isWord
  rcases k with ⟨a, e⟩ | ⟨a, e⟩ | ⟨a, a2, ⟨w, w1, w2, e, e2⟩ | ⟨e, e2⟩⟩ | ⟨a, a2, e, e2⟩ | ⟨a, a2, e, e2⟩
  · rw [e, if_neg (by decide), if_neg (by omega)]
  · rw [e, if_neg (by decide), if_neg (by omega)]
  · rw [e, if_pos rfl, e2]
    by_cases z : w = x
    · rw [if_pos (by rw [z]), if_pos ⟨a, by rw [← w2, z]⟩]
    · rw [if_neg (fun y => z ((nI_eq (by omega) (by omega)).mp y)), if_neg (fun y => z (wv_inj s hs w w1 x hx (by rw [w2, y.2])))]
  · rw [e, if_neg (by decide), if_neg (fun y => e2 x hx y.2.symm)]
  · rw [e, if_neg (by decide), if_neg (by omega)]
  · rw [e, if_neg (by decide), if_neg (by omega)]
theorem m_sg {B : Nat → Nat} {L i : Nat} {h : PH} (m : MU B L i h) (x : Nat) (hx : x < 256) : mm_isSign (nI x) h = some (if (tt B L i).1 = 4 ∧ (tt B L i).2 = x then 1 else 0) := by
  have k : TkM (tt B L i) (h 104 14) (h 104 15) := m.2.2.2
  unfold mm_isSign
  rcases k with ⟨a, e⟩ | ⟨a, e⟩ | ⟨a, a2, e, e2⟩ | ⟨a, a2, e, e2⟩ | ⟨a, a2, e, e2⟩
  · rw [e, if_neg (by decide), if_neg (by omega)]
  · rw [e, if_neg (by decide), if_neg (by omega)]
  · rw [e, if_neg (by decide), if_neg (by omega)]
  · rw [e, if_neg (by decide), if_neg (by omega)]
  · rw [e, if_pos rfl, e2]
    by_cases z : (tt B L i).2 = x
    · rw [if_pos (by rw [z]), if_pos ⟨a, z⟩]
    · rw [if_neg (fun y => z ((nI_eq (by omega) (by omega)).mp y)), if_neg (fun y => z y.2)]
theorem m_wd {B : Nat → Nat} {L i : Nat} {h : PH} (m : MU B L i h) (x : Nat) (hx : x < 256) : mm_isWord (nI x) h = some (if (tt B L i).1 = 2 ∧ (tt B L i).2 = x then 1 else 0) := by
  have k : TkM (tt B L i) (h 104 14) (h 104 15) := m.2.2.2
  unfold mm_isWord
  rcases k with ⟨a, e⟩ | ⟨a, e⟩ | ⟨a, a2, e, e2⟩ | ⟨a, a2, e, e2⟩ | ⟨a, a2, e, e2⟩
  · rw [e, if_neg (by decide), if_neg (by omega)]
  · rw [e, if_neg (by decide), if_neg (by omega)]
  · rw [e, if_pos rfl, e2]
    by_cases z : (tt B L i).2 = x
    · rw [if_pos (by rw [z]), if_pos ⟨a, z⟩]
    · rw [if_neg (fun y => z ((nI_eq (by omega) (by omega)).mp y)), if_neg (fun y => z y.2)]
  · rw [e, if_neg (by decide), if_neg (by omega)]
  · rw [e, if_neg (by decide), if_neg (by omega)]
theorem c_ref {s : Nat} {B : Nat → Nat} {L N i : Nat} {h : PH} (c : CU s B L N i h) (p : Int32) : mD_refuse p h = some (0, up (up h 90 2 p) 90 3 (nI (pl B L i))) := by
  have cN := c.1.2.1
  have hi := c.2.1
  have a1 : up h 90 2 p 90 5 = nI i := by rw [up_oj (by decide)]; exact c.2.2.1
  have a2 : up h 90 2 p 85 5 = nI (N + 1) := by rw [up_oc (by decide)]; exact c.1.2.2.1
  unfold mD_refuse
  rw [lt_e, jn1_e, a1, a2, if_neg (nI_pos (by omega)), if_neg (nI_ge (by omega) (by omega)), if_neg (show ¬ (400 : Int32) < nI i from nI_nlt (a := 400) (by omega) (by decide)), ck_nI (show i < 401 by omega) (by decide), show ix (nI i) = i from nI_clamp (by omega), up_oc (show (89 : Nat) ≠ 90 by decide), (c.1.2.2.2.2.2 i hi).2]
  try dsimp only
  rw [lt_e]
theorem m_err {B : Nat → Nat} {L i : Nat} {h : PH} (m : MU B L i h) (p : Int32) : mm_errs p h = some (-1, up (up h 104 29 p) 104 30 (nI (pl B L i))) := by
  unfold mm_errs
  rw [lt_e, lt_e, up_oj (by decide), m.2.2.1]
/-! CODES: what they do on a stack -/
def xp : List (Nat × Nat) → List (Nat × Nat)
  | [] => []
  | (k, v) :: r => if k = 5 then (0, v) :: (5, 0) :: xp r else (k, v) :: xp r
theorem xp_app : ∀ a b : List (Nat × Nat), xp (a ++ b) = xp a ++ xp b := by
  intro a
  induction a with
  | nil => intro b; rfl
  | cons c a ih =>
    intro b
    obtain ⟨k, v⟩ := c
    rw [List.cons_append, xp, xp, ih]
    split <;> rfl
theorem xp_le : ∀ a : List (Nat × Nat), a.length ≤ (xp a).length := by
  intro a
  induction a with
  | nil => exact Nat.le_refl _
  | cons c a ih =>
    obtain ⟨k, v⟩ := c
    rw [xp]
    split
    · simp only [List.length_cons]; omega
    · simp only [List.length_cons]; omega
theorem xp_1 {k v : Nat} (h : k ≠ 5) : xp [(k, v)] = [(k, v)] := by rw [xp, if_neg h, xp]
theorem xp_5 (v : Nat) : xp [(5, v)] = [(0, v), (5, 0)] := by rw [xp, if_pos rfl, xp]
def opj (k : Nat) (a b : Int32) : Int32 := if k = 2 then a + b else if k = 3 then a - b else if k = 4 then a * b else if k = 6 then (if a < b then 1 else 0) else if k = 7 then (if a = b then 1 else 0) else if k = 8 then (if b < a then 1 else 0) else if k = 10 then a &&& b else a ||| b
def opm (k : Nat) (a b : Int32) : Int32 := if k = 2 then a + b else if k = 3 then a - b else if k = 4 then a * b else if k = 5 then a / b else if k = 6 then (if a < b then 1 else 0) else if k = 7 then (if a = b then 1 else 0) else if k = 8 then (if b < a then 1 else 0) else if k = 10 then a * b else if 0 < a + b then 1 else 0
def s1C (K : Nat → Int32) (c : Nat × Nat) (st : List Int32) : Option (List Int32) :=
  if c.1 = 0 then (if st.length < 64 then some (nI c.2 :: st) else none)
  else if c.1 = 1 then (if st.length < 64 then some (K c.2 :: st) else none)
  else match st with
    | [] => none
    | b :: r => if c.1 = 5 then some (b / nI c.2 :: r) else if c.1 = 9 then some ((if b = 0 then 1 else 0) :: r) else match r with
      | [] => none
      | a :: r => some (opj c.1 a b :: r)
def s1M (K : Nat → Int32) (c : Nat × Nat) (st : List Int32) : Option (List Int32) :=
  if c.1 = 0 then some (nI c.2 :: st)
  else if c.1 = 1 then some (K c.2 :: st)
  else match st with
    | [] => none
    | b :: r => if c.1 = 9 then some ((1 - b) :: r) else match r with
      | [] => none
      | a :: r => some (opm c.1 a b :: r)
def evC (K : Nat → Int32) : List (Nat × Nat) → List Int32 → Option (List Int32)
  | [], st => some st
  | c :: r, st => bd (s1C K c st) (evC K r)
def evM (K : Nat → Int32) : List (Nat × Nat) → List Int32 → Option (List Int32)
  | [], st => some st
  | c :: r, st => bd (s1M K c st) (evM K r)
theorem evC_app (K : Nat → Int32) : ∀ (a b : List (Nat × Nat)) (st : List Int32), evC K (a ++ b) st = bd (evC K a st) (evC K b) := by
  intro a
  induction a with
  | nil => intro b st; rfl
  | cons c a ih =>
    intro b st
    rw [List.cons_append, evC, evC]
    cases s1C K c st with
    | none => rfl
    | some x => rw [bd_e, bd_e, ih]
theorem evM_app (K : Nat → Int32) : ∀ (a b : List (Nat × Nat)) (st : List Int32), evM K (a ++ b) st = bd (evM K a st) (evM K b) := by
  intro a
  induction a with
  | nil => intro b st; rfl
  | cons c a ih =>
    intro b st
    rw [List.cons_append, evM, evM]
    cases s1M K c st with
    | none => rfl
    | some x => rw [bd_e, bd_e, ih]
/-- codes as they can be -/
def okC (c : Nat × Nat) : Prop := c.1 < 12 ∧ c.2 < 10000 ∧ (c.1 = 1 → c.2 < 12) ∧ (c.1 = 5 → 0 < c.2)
theorem ok_app {A D : List (Nat × Nat)} (a : ∀ c, c ∈ A → okC c) (d : ∀ c, c ∈ D → okC c) : ∀ c, c ∈ A ++ D → okC c := fun c hc => by
  rcases List.mem_append.mp hc with h | h
  · exact a c h
  · exact d c h
theorem ok_one {k v : Nat} (h : okC (k, v)) : ∀ c, c ∈ [(k, v)] → okC c := fun c hc => by
  have e : c = (k, v) := by simpa using hc
  rw [e]
  exact h
/-- codes that put one number on the stack, the same on both sides -/
def Qv (P : Int32 → Prop) (n : Nat) (C : List (Nat × Nat)) : Prop := (∀ c, c ∈ C → okC c) ∧ ∃ f : (Nat → Int32) → Int32, (∀ K, P (f K)) ∧ ∀ K st, st.length + n ≤ 64 → evC K C st = some (f K :: st) ∧ evM K (xp C) st = some (f K :: st)
def PT (_ : Int32) : Prop := True
def P01 (x : Int32) : Prop := x = 0 ∨ x = 1
theorem q_w {P : Int32 → Prop} {n m : Nat} {C : List (Nat × Nat)} (q : Qv P n C) (h : n ≤ m) : Qv P m C := by
  obtain ⟨o, f, f1, f2⟩ := q
  exact ⟨o, f, f1, fun K st hs => f2 K st (by omega)⟩
theorem q_unit (k v : Nat) (hk : (k = 0 ∧ v < 10000) ∨ (k = 1 ∧ v < 12)) : Qv PT 1 [(k, v)] := by
  rcases hk with ⟨hk, hv⟩ | ⟨hk, hv⟩
  · subst hk
    refine ⟨ok_one ⟨by show (0 : Nat) < 12; decide, hv, fun z => absurd (show (0 : Nat) = 1 from z) (by decide), fun z => absurd (show (0 : Nat) = 5 from z) (by decide)⟩, fun _ => nI v, fun _ => trivial, fun K st hs => ⟨?_, ?_⟩⟩
    · have e : s1C K (0, v) st = (if st.length < 64 then some (nI v :: st) else none) := rfl
      rw [evC, e, if_pos (by omega), bd_e, evC]
    · have e : s1M K (0, v) st = some (nI v :: st) := rfl
      rw [xp_1 (by decide), evM, e, bd_e, evM]
  · subst hk
    refine ⟨ok_one ⟨by show (1 : Nat) < 12; decide, by show v < 10000; omega, fun _ => hv, fun z => absurd (show (1 : Nat) = 5 from z) (by decide)⟩, fun K => K v, fun _ => trivial, fun K st hs => ⟨?_, ?_⟩⟩
    · have e : s1C K (1, v) st = (if st.length < 64 then some (K v :: st) else none) := rfl
      rw [evC, e, if_pos (by omega), bd_e, evC]
    · have e : s1M K (1, v) st = some (K v :: st) := rfl
      rw [xp_1 (by decide), evM, e, bd_e, evM]
theorem q_bin {P1 P2 P : Int32 → Prop} {n m t k : Nat} {A D : List (Nat × Nat)} (qa : Qv P1 n A) (qd : Qv P2 m D) (k0 : k ≠ 0) (k1 : k ≠ 1) (k5 : k ≠ 5) (k9 : k ≠ 9) (hn : n ≤ t) (hm : m + 1 ≤ t) (ho : ∀ a b, P1 a → P2 b → opj k a b = opm k a b ∧ P (opj k a b)) (k12 : k < 12 := by omega) : Qv P t (A ++ D ++ [(k, 0)]) := by
  obtain ⟨oa, f, f1, f2⟩ := qa
  obtain ⟨od, g, g1, g2⟩ := qd
  refine ⟨ok_app (ok_app oa od) (ok_one ⟨k12, by show (0 : Nat) < 10000; decide, fun z => absurd z k1, fun z => absurd z k5⟩), fun K => opj k (f K) (g K), fun K => (ho _ _ (f1 K) (g1 K)).2, fun K st hs => ⟨?_, ?_⟩⟩
  · rw [evC_app, evC_app, (f2 K st (by omega)).1, bd_e, (g2 K (f K :: st) (by simp only [List.length_cons]; omega)).1, bd_e, evC, s1C, if_neg k0, if_neg k1]
    simp only [if_neg k5, if_neg k9]
    rw [bd_e, evC]
  · rw [xp_app, xp_app, xp_1 k5, evM_app, evM_app, (f2 K st (by omega)).2, bd_e, (g2 K (f K :: st) (by simp only [List.length_cons]; omega)).2, bd_e, evM, s1M, if_neg k0, if_neg k1]
    simp only [if_neg k9]
    rw [bd_e, evM, (ho _ _ (f1 K) (g1 K)).1]
theorem q_part {P : Int32 → Prop} {n : Nat} {A : List (Nat × Nat)} (v : Nat) (qa : Qv P n A) (hv : 0 < v ∧ v < 10000 := by omega) : Qv PT n (A ++ [(5, v)]) := by
  obtain ⟨oa, f, f1, f2⟩ := qa
  refine ⟨ok_app oa (ok_one ⟨by show (5 : Nat) < 12; decide, hv.2, fun z => absurd (show (5 : Nat) = 1 from z) (by decide), fun _ => hv.1⟩), fun K => f K / nI v, fun K => trivial, fun K st hs => ⟨?_, ?_⟩⟩
  · rw [evC_app, (f2 K st hs).1, bd_e]
    rfl
  · rw [xp_app, xp_5, evM_app, (f2 K st hs).2, bd_e]
    rfl
theorem q_not {n : Nat} {A : List (Nat × Nat)} (qa : Qv P01 n A) : Qv P01 n (A ++ [(9, 0)]) := by
  obtain ⟨oa, f, f1, f2⟩ := qa
  refine ⟨ok_app oa (ok_one ⟨by show (9 : Nat) < 12; decide, by show (0 : Nat) < 10000; decide, fun z => absurd (show (9 : Nat) = 1 from z) (by decide), fun z => absurd (show (9 : Nat) = 5 from z) (by decide)⟩), fun K => if f K = 0 then 1 else 0, fun K => ?_, fun K st hs => ⟨?_, ?_⟩⟩
  · show P01 (if f K = 0 then 1 else 0)
    split
    · exact Or.inr rfl
    · exact Or.inl rfl
  · rw [evC_app, (f2 K st hs).1, bd_e]
    rfl
  · rw [xp_app, xp_1 (by decide), evM_app, (f2 K st hs).2, bd_e]
    have : ∀ x, P01 x → (if x = 0 then (1 : Int32) else 0) = 1 - x := fun x hx => by
      rcases hx with e | e <;> subst e <;> decide
    show some ((1 - f K) :: st) = some ((if f K = 0 then (1 : Int32) else 0) :: st)
    rw [this _ (f1 K)]
theorem op_ar {k : Nat} (hk : k = 2 ∨ k = 3 ∨ k = 4) (a b : Int32) (_ : PT a) (_ : PT b) : opj k a b = opm k a b ∧ PT (opj k a b) := by
  rcases hk with e | e | e <;> subst e <;> exact ⟨rfl, trivial⟩
theorem op_cm {k : Nat} (hk : k = 6 ∨ k = 7 ∨ k = 8) (a b : Int32) (_ : PT a) (_ : PT b) : opj k a b = opm k a b ∧ P01 (opj k a b) := by
  rcases hk with e | e | e
  · subst e
    refine ⟨rfl, ?_⟩
    show P01 (if a < b then 1 else 0)
    split
    · exact Or.inr rfl
    · exact Or.inl rfl
  · subst e
    refine ⟨rfl, ?_⟩
    show P01 (if a = b then 1 else 0)
    split
    · exact Or.inr rfl
    · exact Or.inl rfl
  · subst e
    refine ⟨rfl, ?_⟩
    show P01 (if b < a then 1 else 0)
    split
    · exact Or.inr rfl
    · exact Or.inl rfl
theorem op_lg {k : Nat} (hk : k = 10 ∨ k = 11) (a b : Int32) (ha : P01 a) (hb : P01 b) : opj k a b = opm k a b ∧ P01 (opj k a b) := by
  rcases hk with e | e <;> subst e <;> rcases ha with x | x <;> rcases hb with y | y <;> subst x <;> subst y <;> exact ⟨by decide, by unfold P01; decide⟩
end
section
/-! CODES on both sides; UNITS, SUMS -/
def CC (C : List (Nat × Nat)) (h : PH) : Prop := h 93 0 = 400 ∧ h 93 1 = 2 ∧ h 93 3 = nI C.length ∧ ∀ j k v, C[j]? = some (k, v) → h 94 (2 * j) = nI k ∧ h 94 (2 * j + 1) = nI v
def MC (C : List (Nat × Nat)) (h : PH) : Prop := h 104 25 = nI C.length ∧ ∀ j k v, C[j]? = some (k, v) → h 118 (800 + j) = nI k ∧ h 119 (800 + j) = nI v
theorem app_at {C : List (Nat × Nat)} {k v j k' v' : Nat} (h : (C ++ [(k, v)])[j]? = some (k', v')) : (j < C.length ∧ C[j]? = some (k', v')) ∨ (j = C.length ∧ k' = k ∧ v' = v) := by
  by_cases z : j < C.length
  · rw [List.getElem?_append_left z] at h
    exact Or.inl ⟨z, h⟩
  · rw [List.getElem?_append_right (by omega)] at h
    obtain ⟨a, _⟩ := List.getElem?_eq_some_iff.mp h
    have a : j - C.length < 1 := a
    rw [show j - C.length = 0 by omega] at h
    have h : some (k, v) = some (k', v') := h
    cases h
    exact Or.inr ⟨by omega, rfl, rfl⟩
theorem cc_add {C : List (Nat × Nat)} {h : PH} (c : CC C h) (hl : C.length < 400) (k v : Nat) : ∃ g, mR_add 93 (nI k) (nI v) 0 0 0 h = some (1, g) ∧ CC (C ++ [(k, v)]) g ∧ ∀ b, b ≠ 93 → b ≠ 94 → g b = h b := by
  obtain ⟨c0, c1, c3, c4⟩ := c
  generalize hn : C.length = n at c3 hl
  have k1 : up h 94 (2 * n) (nI k) 93 1 = 2 := by rw [up_oc (by decide)]; exact c1
  have k2 : up (up h 94 (2 * n) (nI k)) 94 (2 * n + 1) (nI v) 93 1 = 2 := by rw [up_oc (by decide)]; exact k1
  have k3 : up (up h 94 (2 * n) (nI k)) 94 (2 * n + 1) (nI v) 93 3 = nI n := by rw [up_oc (by decide), up_oc (by decide)]; exact c3
  have add : mR_add 93 (nI k) (nI v) 0 0 0 h = some (1, up (up (up h 94 (2 * n) (nI k)) 94 (2 * n + 1) (nI v)) 93 3 (nI (n + 1))) := by
    unfold mR_add
    rw [c3, c0, if_pos (show nI n < (400 : Int32) from nI_lt (b := 400) hl (by decide)), lt_e, c1, show nI n * (2 : Int32) = nI (n * 2) from nI_mul n 2, Nat.mul_comm n 2, show ln (93 + 1) = 800 from rfl, ck_nI (by omega) (by decide), lt_e, show ix (nI (2 * n)) = 2 * n from nI_clamp (by omega), jn1_e, if_neg (by rw [k1]; decide), nI_1, ck_nI (by omega) (by decide), lt_e, show ix (nI (2 * n + 1)) = 2 * n + 1 from nI_clamp (by omega)]
    dsimp only
    rw [jn1_e, if_pos (by rw [k2]; decide)]
    dsimp only
    rw [jn1_e, if_pos (by rw [k2]; decide)]
    dsimp only
    rw [jn1_e, if_pos (by rw [k2]; decide)]
    dsimp only
    rw [lt_e, k3, nI_1]
  refine ⟨_, add, ⟨?_, ?_, ?_, fun j k' v' hj => ?_⟩, fun b b1 b2 => ?_⟩
  · rw [up_oj (by decide), up_oc (by decide), up_oc (by decide)]; exact c0
  · rw [up_oj (by decide)]; exact k2
  · rw [up_same, List.length_append, hn]; rfl
  · rcases app_at hj with ⟨z, z2⟩ | ⟨z, z2, z3⟩
    · constructor
      · rw [up_oc (by decide), up_oj (by omega), up_oj (by omega)]
        exact (c4 j k' v' z2).1
      · rw [up_oc (by decide), up_oj (by omega), up_oj (by omega)]
        exact (c4 j k' v' z2).2
    · rw [z, hn, z2, z3]
      constructor
      · rw [up_oc (by decide), up_oj (by omega), up_same]
      · rw [up_oc (by decide), up_same]
  · funext j
    rw [up_oc b1, up_oc b2, up_oc b2]
theorem mc_add {C : List (Nat × Nat)} {h : PH} (c : MC C h) (hl : C.length < 400) (k v : Nat) : mm_emits (nI k) (nI v) h = some (emO h C.length (nI k) (nI v)) ∧ MC (C ++ [(k, v)]) (emO h C.length (nI k) (nI v)) := by
  refine ⟨emits_at h C.length hl c.1 _ _, ?_, fun j k' v' hj => ?_⟩
  · rw [emO_c, List.length_append]; rfl
  · rcases app_at hj with ⟨z, z2⟩ | ⟨z, z2, z3⟩
    · obtain ⟨a, b⟩ := emO_lo (h := h) (c := C.length) (x := nI k) (v := nI v) j z
      rw [a, b]
      exact c.2 j k' v' z2
    · rw [z, z2, z3]
      exact emO_op
def FC (h g : PH) : Prop := (∀ b, b ≠ 90 → b ≠ 93 → b ≠ 94 → g b = h b) ∧ g 90 8 = h 90 8
def FX (h g : PH) : Prop := (∀ b, b ≠ 104 → b ≠ 118 → b ≠ 119 → g b = h b) ∧ ∀ j, j ≠ 12 → j ≠ 13 → j ≠ 14 → j ≠ 15 → j ≠ 25 → j ≠ 29 → j ≠ 30 → g 104 j = h 104 j
theorem fc_r (h : PH) : FC h h := ⟨fun _ _ _ _ => rfl, rfl⟩
theorem fx_r (h : PH) : FX h h := ⟨fun _ _ _ _ => rfl, fun _ _ _ _ _ _ _ _ => rfl⟩
theorem fc_t {h g f : PH} (a : FC h g) (b : FC g f) : FC h f := ⟨fun x x1 x2 x3 => by rw [b.1 x x1 x2 x3, a.1 x x1 x2 x3], by rw [b.2, a.2]⟩
theorem fx_t {h g f : PH} (a : FX h g) (b : FX g f) : FX h f := ⟨fun x x1 x2 x3 => by rw [b.1 x x1 x2 x3, a.1 x x1 x2 x3], fun j j1 j2 j3 j4 j5 j6 j7 => by rw [b.2 j j1 j2 j3 j4 j5 j6 j7, a.2 j j1 j2 j3 j4 j5 j6 j7]⟩
theorem fx_4 {h g : PH} (a : FR4 h g) : FX h g := ⟨fun x x1 _ _ => a.1 x x1, fun j j1 j2 j3 j4 _ _ _ => a.2 j j1 j2 j3 j4⟩
theorem fx_em {h : PH} {c : Nat} {x v : Int32} : FX h (emO h c x v) := ⟨fun b b1 b2 b3 => emO_b b b1 b2 b3, fun j _ _ _ _ j5 _ _ => emO_104 j5⟩
theorem fc_av (h : PH) (k : Nat) : FC h (avH h k) := ⟨fun b b1 _ _ => avH_b h k b b1, avH_o h k 8 (by decide) (by decide) (by decide)⟩
theorem mu_em {B : Nat → Nat} {L i : Nat} {h : PH} (m : MU B L i h) (c : Nat) (x v : Int32) : MU B L i (emO h c x v) := by
  obtain ⟨⟨t1, t2, t3, t4⟩, m2, m3, m4⟩ := m
  refine ⟨⟨t1, by rw [emO_104 (by decide)]; exact t2, fun j hj => by rw [emO_b 111 (by decide) (by decide) (by decide)]; exact t3 j hj, fun j hj => by rw [emO_b 112 (by decide) (by decide) (by decide)]; exact t4 j hj⟩, by rw [emO_104 (by decide)]; exact m2, by rw [emO_104 (by decide)]; exact m3, by rw [emO_104 (by decide), emO_104 (by decide)]; exact m4⟩
theorem cu_b {s : Nat} {B : Nat → Nat} {L N i : Nat} {h g : PH} (c : CU s B L N i h) (f : ∀ b, b ≠ 93 → b ≠ 94 → g b = h b) : CU s B L N i g := by
  obtain ⟨c1, c2, c3, c4, c5, c6, c7⟩ := c
  refine ⟨ctk_b c1 (f 85 (by decide) (by decide)) (f 86 (by decide) (by decide)) (f 87 (by decide) (by decide)) (f 88 (by decide) (by decide)) (f 89 (by decide) (by decide)), c2, ?_, ?_, ?_, ?_, ?_⟩
  · rw [f 90 (by decide) (by decide)]; exact c3
  · rw [f 90 (by decide) (by decide), f 87 (by decide) (by decide)]; exact c4
  · rw [f 90 (by decide) (by decide), f 88 (by decide) (by decide)]; exact c5
  · rw [f 90 (by decide) (by decide)]; exact c6
  · rw [f 90 (by decide) (by decide)]; exact c7
theorem cc_b {C : List (Nat × Nat)} {h g : PH} (c : CC C h) (f3 : g 93 = h 93) (f4 : g 94 = h 94) : CC C g := by
  unfold CC at c ⊢
  rw [f3, f4]
  exact c
theorem mc_4 {C : List (Nat × Nat)} {h g : PH} (c : MC C h) (f : FR4 h g) : MC C g := by
  unfold MC at c ⊢
  rw [f.1 118 (by decide), f.1 119 (by decide), f.2 25 (by decide) (by decide) (by decide) (by decide)]
  exact c
/-- both stand at token i, with the same codes; w more may come -/
def JJ (s : Nat) (B : Nat → Nat) (L N i w : Nat) (C : List (Nat × Nat)) (hc hm : PH) : Prop := CU s B L N i hc ∧ MU B L i hm ∧ CC C hc ∧ MC (xp C) hm ∧ (xp C).length + w ≤ i
def FF (hc hm : PH) : Prop := hc 90 2 = hm 104 29 ∧ hc 90 3 = hm 104 30
theorem jj_w {s : Nat} {B : Nat → Nat} {L N i w w' : Nat} {C : List (Nat × Nat)} {hc hm : PH} (j : JJ s B L N i w C hc hm) (h : w' ≤ w) : JJ s B L N i w' C hc hm := ⟨j.1, j.2.1, j.2.2.1, j.2.2.2.1, by have := j.2.2.2.2; omega⟩
theorem j_adv {s : Nat} {B : Nat → Nat} {L N i w : Nat} {C : List (Nat × Nat)} {hc hm : PH} (j : JJ s B L N i w C hc hm) (n : (tt B L i).1 ≠ 0) : ∃ gm, mD_advance hc = some (avH hc (i + 1)) ∧ mm_reads hm = some gm ∧ JJ s B L N (i + 1) (w + 1) C (avH hc (i + 1)) gm ∧ FC hc (avH hc (i + 1)) ∧ FR4 hm gm := by
  obtain ⟨j1, j2, j3, j4, j5⟩ := j
  obtain ⟨a1, a2⟩ := cu_adv j1 (cu_lt j1 n)
  obtain ⟨gm, b1, b2, b3⟩ := mu_adv j2
  exact ⟨gm, a1, b1, ⟨a2, b3, cc_b j3 (avH_b hc _ 93 (by decide)) (avH_b hc _ 94 (by decide)), mc_4 j4 b2, by omega⟩, fc_av hc _, b2⟩
theorem j_emit {s : Nat} {B : Nat → Nat} {L N i w : Nat} {C : List (Nat × Nat)} {hc hm : PH} (j : JJ s B L N i (w + 1) C hc hm) (k v : Nat) (k5 : k ≠ 5) : ∃ gc gm, mR_add 93 (nI k) (nI v) 0 0 0 hc = some (1, gc) ∧ mm_emits (nI k) (nI v) hm = some gm ∧ JJ s B L N i w (C ++ [(k, v)]) gc gm ∧ FC hc gc ∧ FX hm gm ∧ gc 90 = hc 90 := by
  obtain ⟨j1, j2, j3, j4, j5⟩ := j
  have iN := j1.2.1
  have N4 := j1.1.2.1
  have le := xp_le C
  obtain ⟨gc, a1, a2, a3⟩ := cc_add j3 (by omega) k v
  obtain ⟨b1, b2⟩ := mc_add j4 (by omega) k v
  refine ⟨gc, _, a1, b1, ⟨cu_b j1 a3, mu_em j2 _ _ _, a2, ?_, ?_⟩, ⟨fun b b1 b2 b3 => a3 b b2 b3, by rw [a3 90 (by decide) (by decide)]⟩, fx_em, a3 90 (by decide) (by decide)⟩
  · rw [xp_app, xp_1 k5]
    exact b2
  · rw [xp_app, xp_1 k5, List.length_append]
    show (xp C).length + 1 + w ≤ i
    omega
theorem j_ref {s : Nat} {B : Nat → Nat} {L N i w : Nat} {C : List (Nat × Nat)} {hc hm : PH} (j : JJ s B L N i w C hc hm) (p : Int32) : ∃ gc gm, mD_refuse p hc = some (0, gc) ∧ mm_errs p hm = some (-1, gm) ∧ FF gc gm ∧ FC hc gc ∧ FX hm gm := by
  refine ⟨_, _, c_ref j.1 p, m_err j.2.1 p, ⟨?_, ?_⟩, ⟨fun b b1 _ _ => ?_, ?_⟩, ⟨fun b b1 _ _ => ?_, fun k _ _ _ _ _ k6 k7 => ?_⟩⟩
  · rw [up_oj (by decide), up_same, up_oj (by decide), up_same]
  · rw [up_same, up_same]
  · funext q; rw [up_oc b1, up_oc b1]
  · rw [up_oj (by decide), up_oj (by decide)]
  · funext q; rw [up_oc b1, up_oc b1]
  · rw [up_oj k7, up_oj k6]
/-- what a reading leaves: both went well, or both found the same fault -/
def PX (s : Nat) (B : Nat → Nat) (L N i0 w : Nat) (Q : List (Nat × Nat) → Prop) (C0 : List (Nat × Nat)) (hc0 hm0 : PH) (rc rm : Option (Int32 × PH)) : Prop :=
  (∃ i C hc hm, rc = some (1, hc) ∧ rm = some (0, hm) ∧ i0 < i ∧ JJ s B L N i w (C0 ++ C) hc hm ∧ Q C ∧ FC hc0 hc ∧ FX hm0 hm) ∨
  (∃ hc hm, rc = some (0, hc) ∧ rm = some (-1, hm) ∧ FF hc hm ∧ FC hc0 hc ∧ FX hm0 hm)
theorem px_err {s : Nat} {B : Nat → Nat} {L N i w i0 w0 : Nat} {C : List (Nat × Nat)} {hc hm : PH} {Q : List (Nat × Nat) → Prop} {C0 : List (Nat × Nat)} {hc0 hm0 : PH} (j : JJ s B L N i w C hc hm) (p : Int32) (a : FC hc0 hc) (b : FX hm0 hm) {rc rm : Option (Int32 × PH)} (ec : rc = bd2 (mD_refuse p hc) fun r h => some (nb r, h)) (em : rm = bd2 (mm_errs p hm) fun r h => some (r, h)) : PX s B L N i0 w0 Q C0 hc0 hm0 rc rm := by
  obtain ⟨gc, gm, r1, r2, r3, r4, r5⟩ := j_ref j p
  rw [r1, bd2_e] at ec
  rw [r2, bd2_e] at em
  exact Or.inr ⟨gc, gm, ec, em, r3, fc_t a r4, fx_t b r5⟩
/-! the readers' small pieces -/
theorem mu_num {h : PH} (e : h 104 14 = 3) : mm_readUnit h = (bd (mm_emits 0 (h 104 15) h) fun h8 => bd (mm_reads h8) fun h9 => some (0, h9)) := by
  unfold mm_readUnit
  rw [e]
  rfl
theorem mu_ask {h : PH} (e : h 104 14 = 2) (c : mm_canAsk (h 104 15) h = some 1) : mm_readUnit h = (bd (mm_emits 1 (h 104 15 - 7) h) fun h8 => bd (mm_reads h8) fun h9 => some (0, h9)) := by
  unfold mm_readUnit
  rw [e, c]
  rfl
theorem mu_bad2 {h : PH} (e : h 104 14 = 2) (c : mm_canAsk (h 104 15) h = some 0) : mm_readUnit h = bd2 (mm_errs 1 h) fun r h => some (r, h) := by
  unfold mm_readUnit
  rw [e, c]
  rfl
theorem mu_bad {h : PH} (e : h 104 14 = 0 ∨ h 104 14 = 1 ∨ h 104 14 = 4) : mm_readUnit h = bd2 (mm_errs 1 h) fun r h => some (r, h) := by
  unfold mm_readUnit
  rcases e with e | e | e <;> rw [e] <;> rfl
theorem ask_v : ∀ m, m < 27 → ∀ h : PH, mm_canAsk (nI m) h = some (if 7 ≤ m ∧ m ≤ 18 then 1 else 0) := by
  intro m hm h
  unfold mm_canAsk
  simp only [isIn_eq, bd_e]
  revert hm
  revert m
  decide +kernel
theorem cu_num {h : PH} (e : h 90 6 = 2) : mD_unit h = bd2 (mR_add 93 0 (h 90 7) 0 0 0 h) fun _ h5 => bd (mD_advance h5) fun h3 => some (1, h3) := by
  unfold mD_unit
  rw [e]
  rfl
theorem cu_kn {h : PH} (e : h 90 6 = 1) (c : ¬ h 90 7 < 7) : mD_unit h = bd2 (mR_add 93 1 (h 90 7 - 7) 0 0 0 h) fun _ h5 => bd (mD_advance h5) fun h3 => some (1, h3) := by
  unfold mD_unit
  rw [jn1_e, e, if_neg (by decide), jn0_e, if_pos rfl, if_neg c]
theorem cu_bad1 {h : PH} (e : h 90 6 = 1) (c : h 90 7 < 7) : mD_unit h = bd2 (mD_refuse 1 h) fun r h => some (nb r, h) := by
  unfold mD_unit
  rw [jn1_e, e, if_neg (by decide), jn0_e, if_pos rfl, if_pos c]
theorem cu_bad {h : PH} (e : h 90 6 = 0 ∨ h 90 6 = 3 ∨ h 90 6 = 4) : mD_unit h = bd2 (mD_refuse 1 h) fun r h => some (nb r, h) := by
  unfold mD_unit
  rcases e with e | e | e <;> rw [e] <;> rfl
theorem wv0 : ∀ w, w < 19 → (wv 0).getD w 99 = w := by decide
theorem wv0l : (wv 0).length = 19 := by decide
/-- a unit -/
theorem u_sim {B : Nat → Nat} {L N i w : Nat} {C : List (Nat × Nat)} {hc hm : PH} (j : JJ 0 B L N i w C hc hm) : (∃ u gc gm, mD_unit hc = some (1, gc) ∧ mm_readUnit hm = some (0, gm) ∧ JJ 0 B L N (i + 1) w (C ++ [u]) gc gm ∧ ((u.1 = 0 ∧ u.2 < 10000) ∨ (u.1 = 1 ∧ u.2 < 12)) ∧ FC hc gc ∧ FX hm gm) ∨ (∃ gc gm, mD_unit hc = some (0, gc) ∧ mm_readUnit hm = some (-1, gm) ∧ FF gc gm ∧ FC hc gc ∧ FX hm gm) := by
  have tc := cu_tk j.1
  have tm : TkM (tt B L i) (hm 104 14) (hm 104 15) := j.2.1.2.2.2
  have ok : ∀ k v, (tt B L i).1 ≠ 0 → k ≠ 5 → ((k = 0 ∧ v < 10000) ∨ (k = 1 ∧ v < 12)) → (mD_unit hc = bd2 (mR_add 93 (nI k) (nI v) 0 0 0 hc) fun _ h5 => bd (mD_advance h5) fun h3 => some (1, h3)) → (mm_readUnit hm = bd (mm_emits (nI k) (nI v) hm) fun h8 => bd (mm_reads h8) fun h9 => some (0, h9)) → ∃ u gc gm, mD_unit hc = some (1, gc) ∧ mm_readUnit hm = some (0, gm) ∧ JJ 0 B L N (i + 1) w (C ++ [u]) gc gm ∧ ((u.1 = 0 ∧ u.2 < 10000) ∨ (u.1 = 1 ∧ u.2 < 12)) ∧ FC hc gc ∧ FX hm gm := fun k v n0 k5 k01 ec em => by
    obtain ⟨j1, j2, j3, j4, j5⟩ := j
    have iN := cu_lt j1 n0
    have N4 := j1.1.2.1
    have le := xp_le C
    obtain ⟨gc, a1, a2, a3⟩ := cc_add j3 (by omega) k v
    obtain ⟨b1, b2⟩ := mc_add j4 (by omega) k v
    obtain ⟨d1, d2⟩ := cu_adv (cu_b j1 a3) iN
    obtain ⟨gm, e1, e2, e3⟩ := mu_adv (mu_em j2 (xp C).length (nI k) (nI v))
    rw [a1, bd2_e, d1, bd_e] at ec
    rw [b1, bd_e, e1, bd_e] at em
    refine ⟨(k, v), _, _, ec, em, ⟨d2, e3, cc_b a2 (avH_b gc _ 93 (by decide)) (avH_b gc _ 94 (by decide)), ?_, ?_⟩, k01, fc_t ⟨fun b b1 b2 b3 => a3 b b2 b3, by rw [a3 90 (by decide) (by decide)]⟩ (fc_av gc _), fx_t fx_em (fx_4 e2)⟩
    · rw [xp_app, xp_1 k5]
      exact mc_4 b2 e2
    · rw [xp_app, xp_1 k5, List.length_append]
      show (xp C).length + 1 + w ≤ i + 1
      omega
  have bad : mD_unit hc = (bd2 (mD_refuse 1 hc) fun r h => some (nb r, h)) → mm_readUnit hm = (bd2 (mm_errs 1 hm) fun r h => some (r, h)) → ∃ gc gm, mD_unit hc = some (0, gc) ∧ mm_readUnit hm = some (-1, gm) ∧ FF gc gm ∧ FC hc gc ∧ FX hm gm := fun ec em => by
    obtain ⟨gc, gm, r1, r2, r3, r4, r5⟩ := j_ref j 1
    rw [r1, bd2_e] at ec
    rw [r2, bd2_e] at em
    exact ⟨gc, gm, ec, em, r3, r4, r5⟩
  rcases tm with ⟨a, e⟩ | ⟨a, e⟩ | ⟨a, a2, e, e2⟩ | ⟨a, a2, e, e2⟩ | ⟨a, a2, e, e2⟩
  · refine Or.inr (bad ?_ (mu_bad (Or.inl e)))
    rcases tc with ⟨b, f⟩ | ⟨b, f⟩ | ⟨b, _⟩ | ⟨b, _⟩ | ⟨b, _⟩
    · exact cu_bad (Or.inl f)
    all_goals (rw [a] at b; exact absurd b (by decide))
  · refine Or.inr (bad ?_ (mu_bad (Or.inr (Or.inl e))))
    rcases tc with ⟨b, f⟩ | ⟨b, f⟩ | ⟨b, _⟩ | ⟨b, _⟩ | ⟨b, _⟩
    · rw [a] at b; exact absurd b (by decide)
    · exact cu_bad (Or.inr (Or.inr f))
    all_goals (rw [a] at b; exact absurd b (by decide))
  · have av := ask_v (tt B L i).2 a2 hm
    rw [← e2] at av
    rcases tc with ⟨b, f⟩ | ⟨b, f⟩ | ⟨b, b2, ⟨x, x1, x2, f, f2⟩ | ⟨f, f2⟩⟩ | ⟨b, _⟩ | ⟨b, _⟩
    · rw [a] at b; exact absurd b (by decide)
    · rw [a] at b; exact absurd b (by decide)
    · rw [wv0l] at x1
      rw [wv0 x x1] at x2
      by_cases c7 : x < 7
      · rw [if_neg (by omega)] at av
        refine Or.inr (bad (cu_bad1 f ?_) (mu_bad2 e av))
        rw [f2]
        exact nI_lt (b := 7) c7 (by decide)
      · rw [if_pos (by omega)] at av
        have s7 : nI x - 7 = nI (x - 7) := by rw [show (7 : Int32) = nI 7 from rfl, nI_sub (by omega)]
        refine Or.inl (ok 1 (x - 7) (by omega) (by decide) (Or.inr ⟨rfl, by omega⟩) ?_ ?_)
        · rw [cu_kn f (by rw [f2]; exact nI_nlt (b := 7) (by omega) (by omega)), f2, s7]; rfl
        · rw [mu_ask e av, e2, ← x2, s7]; rfl
    · have c7 : ¬ (7 ≤ (tt B L i).2 ∧ (tt B L i).2 ≤ 18) := fun z => f2 (tt B L i).2 (by rw [wv0l]; omega) (wv0 _ (by omega))
      rw [if_neg c7] at av
      exact Or.inr (bad (cu_bad (Or.inr (Or.inr f))) (mu_bad2 e av))
    · rw [a] at b; exact absurd b (by decide)
    · rw [a] at b; exact absurd b (by decide)
  · rcases tc with ⟨b, f⟩ | ⟨b, f⟩ | ⟨b, _⟩ | ⟨b, b2, f, f2⟩ | ⟨b, _⟩
    · rw [a] at b; exact absurd b (by decide)
    · rw [a] at b; exact absurd b (by decide)
    · rw [a] at b; exact absurd b (by decide)
    · refine Or.inl (ok 0 (tt B L i).2 (by omega) (by decide) (Or.inl ⟨rfl, b2⟩) ?_ ?_)
      · rw [cu_num f, f2]; rfl
      · rw [mu_num e, e2]; rfl
    · rw [a] at b; exact absurd b (by decide)
  · refine Or.inr (bad ?_ (mu_bad (Or.inr (Or.inr e))))
    rcases tc with ⟨b, f⟩ | ⟨b, f⟩ | ⟨b, _⟩ | ⟨b, _⟩ | ⟨b, b2, f, f2⟩
    · rw [a] at b; exact absurd b (by decide)
    · rw [a] at b; exact absurd b (by decide)
    · rw [a] at b; exact absurd b (by decide)
    · rw [a] at b; exact absurd b (by decide)
    · exact cu_bad (Or.inr (Or.inl f))
end
