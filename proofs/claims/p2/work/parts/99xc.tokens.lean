/-! TOKENS: one after the other, on both sides -/
theorem nI_nm1 {m : Nat} (h : m < 2 ^ 31) : ¬ nI m = -1 := fun z => by
  have := congrArg Int32.toInt z
  rw [nI_toInt h, show (-1 : Int32).toInt = -1 from rfl] at this
  omega
def rnF (f : Nat → Bool) (B : Nat → Nat) (L : Nat) : Nat → Nat → Nat
  | 0, p => p
  | n + 1, p => if p < L ∧ f (B p) = true then rnF f B L n (p + 1) else p
def rn (f : Nat → Bool) (B : Nat → Nat) (L p : Nat) : Nat := rnF f B L (L - p) p
theorem rn_go {f : Nat → Bool} {B : Nat → Nat} {L p : Nat} (h : p < L) (hf : f (B p) = true) : rn f B L p = rn f B L (p + 1) := by
  unfold rn
  rw [show L - p = (L - (p + 1)) + 1 by omega, rnF, if_pos ⟨h, hf⟩]
theorem rn_st {f : Nat → Bool} {B : Nat → Nat} {L p : Nat} (h : ¬ (p < L ∧ f (B p) = true)) : rn f B L p = p := by
  unfold rn
  cases L - p with
  | zero => rfl
  | succ n => rw [rnF, if_neg h]
theorem rn_le (f : Nat → Bool) (B : Nat → Nat) (L : Nat) : ∀ (d p : Nat), L - p = d → p ≤ rn f B L p ∧ (p ≤ L → rn f B L p ≤ L) ∧ (∀ i, p ≤ i → i < rn f B L p → f (B i) = true) ∧ ¬ (rn f B L p < L ∧ f (B (rn f B L p)) = true) := by
  intro d
  induction d with
  | zero =>
    intro p hd
    have st : rn f B L p = p := rn_st (by omega)
    rw [st]
    exact ⟨Nat.le_refl _, fun h => h, fun i h1 h2 => by omega, fun z => by omega⟩
  | succ d ih =>
    intro p hd
    by_cases c : p < L ∧ f (B p) = true
    · rw [rn_go c.1 c.2]
      obtain ⟨h1, h2, h3, h4⟩ := ih (p + 1) (by omega)
      refine ⟨by omega, fun _ => h2 (by omega), fun i i1 i2 => ?_, h4⟩
      by_cases z : i = p
      · rw [z]; exact c.2
      · exact h3 i (by omega) i2
    · rw [rn_st c]
      exact ⟨Nat.le_refl _, fun h => h, fun i h1 h2 => by omega, c⟩
def nx (B : Nat → Nat) (L q : Nat) : Nat := if bLt (B q) = true then rn bLt B L (q + 1) else if bDg (B q) = true then rn bDg B L (q + 1) else q + 1
theorem nx_le (B : Nat → Nat) (L q : Nat) (h : q < L) : q < nx B L q ∧ nx B L q ≤ L := by
  unfold nx
  have a := rn_le bLt B L _ (q + 1) rfl
  have b := rn_le bDg B L _ (q + 1) rfl
  split
  · exact ⟨by omega, a.2.1 (by omega)⟩
  · split
    · exact ⟨by omega, b.2.1 (by omega)⟩
    · exact ⟨by omega, by omega⟩
def pl (B : Nat → Nat) (L : Nat) : Nat → Nat
  | 0 => rn bBk B L 0
  | j + 1 => if pl B L j < L then rn bBk B L (nx B L (pl B L j)) else L
/-- the number that the first d digits make -/
def nv (B : Nat → Nat) (q : Nat) : Nat → Nat
  | 0 => 0
  | d + 1 => 10 * nv B q d + B (q + d) - 48
theorem bDg_r {c : Nat} (h : bDg c = true) : 48 ≤ c ∧ c ≤ 57 := by
  unfold bDg at h
  rw [Bool.and_eq_true] at h
  exact ⟨of_decide_eq_true h.1, of_decide_eq_true h.2⟩
theorem nv_lt (B : Nat → Nat) (q : Nat) : ∀ d, (∀ i, i < d → bDg (B (q + i)) = true) → nv B q d < 10 ^ d := by
  intro d
  induction d with
  | zero => intro _; rw [nv]; decide
  | succ d ih =>
    intro h
    have a := ih (fun i hi => h i (by omega))
    have b := bDg_r (h d (by omega))
    rw [nv, Nat.pow_succ]
    omega
def tk (B : Nat → Nat) (L q : Nat) : Nat × Nat :=
  if q < L then
    if bLt (B q) = true then
      if wI (blk B q (nx B L q)) W27 0 = -1 then (1, 0) else (2, (wI (blk B q (nx B L q)) W27 0).toInt.toNat)
    else if bDg (B q) = true then
      if nx B L q - q < 5 then (3, nv B q (nx B L q - q)) else (1, 0)
    else if bSg (B q) = true then (4, B q) else (1, 0)
  else (0, 0)
def TkC (s : Nat) (t : Nat × Nat) (k v : Int32) : Prop :=
  (t.1 = 0 ∧ k = 0) ∨ (t.1 = 1 ∧ k = 4) ∨ (t.1 = 2 ∧ t.2 < 27 ∧ ((∃ w, w < (wv s).length ∧ (wv s).getD w 99 = t.2 ∧ k = 1 ∧ v = nI w) ∨ (k = 4 ∧ ∀ w, w < (wv s).length → (wv s).getD w 99 ≠ t.2))) ∨ (t.1 = 3 ∧ t.2 < 10000 ∧ k = 2 ∧ v = nI t.2) ∨ (t.1 = 4 ∧ t.2 < 256 ∧ k = 3 ∧ v = nI t.2)
def TkM (t : Nat × Nat) (k v : Int32) : Prop := (t.1 = 0 ∧ k = 0) ∨ (t.1 = 1 ∧ k = 1) ∨ (t.1 = 2 ∧ t.2 < 27 ∧ k = 2 ∧ v = nI t.2) ∨ (t.1 = 3 ∧ t.2 < 10000 ∧ k = 3 ∧ v = nI t.2) ∨ (t.1 = 4 ∧ t.2 < 256 ∧ k = 4 ∧ v = nI t.2)
/-! the class -/
theorem isL_c (c : Nat) (hc : c < 256) (h : PH) : mA_isLetter (nI c) h = some (if bLt c = true then 1 else 0) := by
  unfold mA_isLetter
  simp only [within_eq, bd_e]
  revert hc
  revert c
  decide +kernel
theorem isD_c (c : Nat) (hc : c < 256) (h : PH) : mA_isDigit (nI c) h = some (if bDg c = true then 1 else 0) := by
  unfold mA_isDigit
  simp only [within_eq, bd_e]
  revert hc
  revert c
  decide +kernel
theorem isB_c (c : Nat) (hc : c < 256) (h : PH) : mA_isBlank (nI c) h = some (if bBk c = true then 1 else 0) := by
  unfold mA_isBlank
  revert hc
  revert c
  decide +kernel
theorem bt17 {B : Nat → Nat} {L : Nat} {h : PH} (t : TC B L h) : ∀ (n p : Nat), L < n + p → p ≤ L → mA_behindToken_L17 h n (nI p) = some (nI (rn bLt B L p)) := by
  intro n
  have tL := t.1
  induction n with
  | zero => intro p h1 h2; omega
  | succ n ih =>
    intro p h1 h2
    rw [mA_behindToken_L17, t.2.1]
    by_cases c : p < L
    · rw [if_neg (nI_ge c (by omega)), by_in t c, bd_e, isL_c _ (t.2.2 p c).2, bd_e]
      by_cases d : bLt (B p) = true
      · rw [if_pos d, if_neg (by decide), nI_1, rn_go c d]
        exact ih (p + 1) (by omega) (by omega)
      · rw [if_neg d, if_pos rfl, rn_st (fun z => d z.2)]
    · rw [if_pos (nI_le (by omega) (by omega)), rn_st (fun z => c z.1)]
theorem bt49 {B : Nat → Nat} {L : Nat} {h : PH} (t : TC B L h) : ∀ (n p : Nat), L < n + p → p ≤ L → mA_behindToken_L49 h n (nI p) = some (nI (rn bDg B L p)) := by
  intro n
  have tL := t.1
  induction n with
  | zero => intro p h1 h2; omega
  | succ n ih =>
    intro p h1 h2
    rw [mA_behindToken_L49, t.2.1]
    by_cases c : p < L
    · rw [if_neg (nI_ge c (by omega)), by_in t c, bd_e, isD_c _ (t.2.2 p c).2, bd_e]
      by_cases d : bDg (B p) = true
      · rw [if_pos d, if_neg (by decide), nI_1, rn_go c d]
        exact ih (p + 1) (by omega) (by omega)
      · rw [if_neg d, if_pos rfl, rn_st (fun z => d z.2)]
    · rw [if_pos (nI_le (by omega) (by omega)), rn_st (fun z => c z.1)]
theorem bt_at {B : Nat → Nat} {L : Nat} {h : PH} (t : TC B L h) (q : Nat) (hq : q < L) : mA_behindToken (nI q) h = some (nI (nx B L q)) := by
  have tL := t.1
  have hb := (t.2.2 q hq).2
  unfold mA_behindToken nx
  rw [by_in t hq, bd_e, lt_e, isL_c _ hb, bd_e, nI_1]
  by_cases d : bLt (B q) = true
  · rw [if_pos d, if_neg (by decide), if_pos d]
    exact bt17 t FU (q + 1) (by unfold FU; omega) (by omega)
  · rw [if_neg d, if_pos rfl, if_neg d, isD_c _ hb, bd_e]
    by_cases e : bDg (B q) = true
    · rw [if_pos e, if_neg (by decide), if_pos e]
      exact bt49 t FU (q + 1) (by unfold FU; omega) (by omega)
    · rw [if_neg e, if_pos rfl, if_neg e]
theorem nu_go {B : Nat → Nat} {L : Nat} {h : PH} (t : TC B L h) (q e : Nat) (he : e ≤ L) (hd : ∀ i, q + i < e → bDg (B (q + i)) = true) (h4 : e - q < 5) : ∀ (n d : Nat), e - q < n + d → q + d ≤ e → mA_numberAt_L5 (nI e) h n (nI (nv B q d)) (nI (q + d)) = some (nI (nv B q (e - q))) := by
  intro n
  have tL := t.1
  induction n with
  | zero => intro d h1 h2; omega
  | succ n ih =>
    intro d h1 h2
    rw [mA_numberAt_L5]
    by_cases c : q + d = e
    · rw [if_pos (nI_le (show e ≤ q + d by omega) (by omega)), show e - q = d by omega]
    · have b := bDg_r (hd d (by omega))
      rw [if_neg (nI_ge (show q + d < e by omega) (by omega)), by_in t (show q + d < L by omega), bd_e, lt_e, show (10 : Int32) * nI (nv B q d) = nI (10 * nv B q d) from nI_mul 10 _, nI_add, show (48 : Int32) = nI 48 from rfl, nI_sub (by omega), nI_1]
      exact ih (d + 1) (by omega) (by omega)
theorem ic_h (s : Nat) (p3 p4 : Int32) (h g : PH) : ∀ (n : Nat) (v : Int32), mH_indexOfChar_L7 s p3 p4 h n v = mH_indexOfChar_L7 s p3 p4 g n v := by
  intro n
  induction n with
  | zero => intro v; rfl
  | succ n ih => intro v; rw [mH_indexOfChar_L7, mH_indexOfChar_L7, ih]
theorem ix_h (x : Int32) (h g : PH) : mG_indexOf 4 x h = mG_indexOf 4 x g := by
  unfold mG_indexOf mG_indexOf2 mH_indexOf mH_indexOfChar mG_isLatin1 mG_length mG_coder mH_canEncode
  simp only [ic_h 4 _ _ h g]
theorem ix_0 : ∀ c, c < 256 → (mG_indexOf 4 (i2c (nI c)) (fun _ _ => 0)).isSome = true ∧ (decide (((mG_indexOf 4 (i2c (nI c)) (fun _ _ => 0)).getD 0) < 0) = !bSg c) := by decide +kernel
theorem ix_at (c : Nat) (hc : c < 256) (h : PH) : ∃ r, mG_indexOf 4 (i2c (nI c)) h = some r ∧ (r < 0 ↔ ¬ bSg c = true) := by
  rw [ix_h _ h (fun _ _ => 0)]
  obtain ⟨a, b⟩ := ix_0 c hc
  cases e : mG_indexOf 4 (i2c (nI c)) (fun _ _ => 0) with
  | none => rw [e] at a; cases a
  | some r =>
    rw [e] at b
    have b : decide (r < 0) = !bSg c := b
    refine ⟨r, rfl, ?_⟩
    cases q : bSg c with
    | true =>
      rw [q] at b
      exact ⟨fun z => absurd z (of_decide_eq_false b), fun z => absurd rfl z⟩
    | false =>
      rw [q] at b
      exact ⟨fun _ z => (by cases z), fun _ => of_decide_eq_true b⟩
theorem val4 {B : Nat → Nat} {L : Nat} {h : PH} (t : TC B L h) (s : Nat) (k : Int32) (q : Nat) (hq : q < L) (p4 : Int32) (h1 : ¬ k = 1) (h2 : ¬ k = 2) : mA_valueOf s k (nI q) p4 h = some (nI (B q)) := by
  unfold mA_valueOf
  rw [if_neg h1, if_neg h2, by_in t hq, bd_e]
theorem kd_at {B : Nat → Nat} {L : Nat} {h : PH} (t : TC B L h) (s : Nat) (hs : s < 4) (q : Nat) (hq : q < L) : ∃ k v, mA_kindOf s (nI q) (nI (nx B L q)) h = some k ∧ mA_valueOf s k (nI q) (nI (nx B L q)) h = some v ∧ TkC s (tk B L q) k v := by
  have tL := t.1
  have hb := (t.2.2 q hq).2
  obtain ⟨n1, n2⟩ := nx_le B L q hq
  unfold mA_kindOf
  rw [by_in t hq, bd_e, isL_c _ hb, bd_e]
  have w1 : ¬ (4 : Int32) = 1 := by decide
  have w2 : ¬ (4 : Int32) = 2 := by decide
  by_cases cl : bLt (B q) = true
  · have wn := wnC_at t s hs q (nx B L q) n2 n1
    rw [if_pos cl, if_neg (by decide), wn, bd_e]
    have tke : tk B L q = if wI (blk B q (nx B L q)) W27 0 = -1 then (1, 0) else (2, (wI (blk B q (nx B L q)) W27 0).toInt.toNat) := by
      unfold tk
      rw [if_pos hq, if_pos cl]
    rcases word_rel s hs (blk B q (nx B L q)) with ⟨e1, e2⟩ | ⟨m, m1, m2, e | e⟩
    · rw [e2, if_pos rfl]
      rw [e1, if_pos rfl] at tke
      exact ⟨4, _, rfl, val4 t s 4 q hq _ w1 w2, Or.inr (Or.inl ⟨by rw [tke], rfl⟩)⟩
    · rw [m2, if_neg (nI_nm1 (by omega)), nI_toInt (by omega), Int.toNat_natCast] at tke
      rw [e.1, if_pos rfl]
      exact ⟨4, _, rfl, val4 t s 4 q hq _ w1 w2, Or.inr (Or.inr (Or.inl ⟨by rw [tke], by rw [tke]; exact m1, Or.inr ⟨rfl, by rw [tke]; exact e.2⟩⟩))⟩
    · obtain ⟨w, x1, x2, x3⟩ := e
      have := (wk_l s hs).2
      rw [m2, if_neg (nI_nm1 (by omega)), nI_toInt (by omega), Int.toNat_natCast] at tke
      rw [x3, if_neg (nI_nm1 (by omega))]
      refine ⟨1, nI w, rfl, ?_, Or.inr (Or.inr (Or.inl ⟨by rw [tke], by rw [tke]; exact m1, Or.inl ⟨w, x1, by rw [tke]; exact x2, rfl, rfl⟩⟩))⟩
      unfold mA_valueOf
      rw [if_pos rfl, wn, bd_e, x3]
  · rw [if_neg cl, if_pos rfl, isD_c _ hb, bd_e]
    by_cases cd : bDg (B q) = true
    · have nxe : nx B L q = rn bDg B L (q + 1) := by unfold nx; rw [if_neg cl, if_pos cd]
      have tke : tk B L q = if nx B L q - q < 5 then (3, nv B q (nx B L q - q)) else (1, 0) := by
        unfold tk
        rw [if_pos hq, if_neg cl, if_pos cd]
      rw [if_pos cd, if_neg (by decide), nI_sub (by omega)]
      have dg : ∀ i, q + i < nx B L q → bDg (B (q + i)) = true := fun i hi => by
        by_cases z : i = 0
        · rw [z]; exact cd
        · exact (rn_le bDg B L _ (q + 1) rfl).2.2.1 (q + i) (by omega) (by rw [← nxe]; exact hi)
      by_cases c5 : nx B L q - q < 5
      · rw [if_neg (show ¬ (4 : Int32) < nI (nx B L q - q) from nI_nlt (a := 4) (by omega) (by decide))]
        rw [if_pos c5] at tke
        have nu := nu_go t q (nx B L q) n2 dg c5 FU 0 (by unfold FU; omega) (by omega)
        have nu : mA_numberAt (nI q) (nI (nx B L q)) h = some (nI (nv B q (nx B L q - q))) := nu
        have lt := nv_lt B q (nx B L q - q) (fun i hi => dg i (by omega))
        have p4 : 10 ^ (nx B L q - q) ≤ 10 ^ 4 := Nat.pow_le_pow_right (by decide) (by omega)
        refine ⟨2, nI (nv B q (nx B L q - q)), rfl, ?_, Or.inr (Or.inr (Or.inr (Or.inl ⟨by rw [tke], by rw [tke]; show nv B q (nx B L q - q) < 10000; omega, rfl, by rw [tke]⟩)))⟩
        unfold mA_valueOf
        rw [if_neg (by decide), if_pos rfl, nu, bd_e]
      · rw [if_pos (show (4 : Int32) < nI (nx B L q - q) from nI_lt (a := 4) (by omega) (by omega))]
        rw [if_neg c5] at tke
        exact ⟨4, _, rfl, val4 t s 4 q hq _ w1 w2, Or.inr (Or.inl ⟨by rw [tke], rfl⟩)⟩
    · rw [if_neg cd, if_pos rfl]
      have tke : tk B L q = if bSg (B q) = true then (4, B q) else (1, 0) := by
        unfold tk
        rw [if_pos hq, if_neg cl, if_neg cd]
      obtain ⟨r, r1, r2⟩ := ix_at (B q) hb h
      rw [r1, bd_e]
      by_cases cs : bSg (B q) = true
      · rw [if_neg (fun z => r2.mp z cs)]
        rw [if_pos cs] at tke
        exact ⟨3, _, rfl, val4 t s 3 q hq _ (by decide) (by decide), Or.inr (Or.inr (Or.inr (Or.inr ⟨by rw [tke], by rw [tke]; exact hb, rfl, by rw [tke]⟩)))⟩
      · rw [if_pos (r2.mpr cs)]
        rw [if_neg cs] at tke
        exact ⟨4, _, rfl, val4 t s 4 q hq _ w1 w2, Or.inr (Or.inl ⟨by rw [tke], rfl⟩)⟩
def kT (h : PH) (c : Nat) (k v p : Int32) : PH := up (up (up (up h 87 c k) 88 c v) 89 c p) 85 5 (nI (c + 1))
theorem kt_at (h : PH) (c : Nat) (hc : c ≤ 400) (e : h 85 5 = nI c) (k v p : Int32) : mA_keepToken k v p h = some (kT h c k v p) := by
  have x : ix (nI c) = c := nI_clamp (by omega)
  have e1 : up h 87 c k 85 5 = nI c := by rw [up_oc (by decide)]; exact e
  have e2 : up (up h 87 c k) 88 c v 85 5 = nI c := by rw [up_oc (by decide)]; exact e1
  have e3 : up (up (up h 87 c k) 88 c v) 89 c p 85 5 = nI c := by rw [up_oc (by decide)]; exact e2
  unfold mA_keepToken
  rw [e, if_neg (show ¬ (400 : Int32) < nI c from nI_nlt (a := 400) hc (by decide)), ck_nI (show c < 401 by omega) (by decide), lt_e, x, e1, ck_nI (show c < 401 by omega) (by decide), lt_e, x, e2, ck_nI (show c < 401 by omega) (by decide), lt_e, x, e3, lt_e, nI_1]
  rfl
/-- c tokens are kept -/
def SCI (s : Nat) (B : Nat → Nat) (L : Nat) (h0 : PH) (c : Nat) (h : PH) : Prop := TC B L h ∧ h 85 5 = nI c ∧ (∀ j, j < c → pl B L j < L ∧ TkC s (tk B L (pl B L j)) (h 87 j) (h 88 j) ∧ h 89 j = nI (pl B L j)) ∧ ∀ b, b ≠ 85 → b ≠ 87 → b ≠ 88 → b ≠ 89 → h b = h0 b
theorem tc_kT {B : Nat → Nat} {L : Nat} {h : PH} (t : TC B L h) (c : Nat) (k v p : Int32) : TC B L (kT h c k v p) := by
  refine ⟨t.1, ?_, fun j hj => ?_⟩
  · unfold kT
    rw [up_oj (by decide), up_oc (by decide), up_oc (by decide), up_oc (by decide)]
    exact t.2.1
  · unfold kT
    rw [up_oc (by decide), up_oc (by decide), up_oc (by decide), up_oc (by decide)]
    exact t.2.2 j hj
theorem kT_87 (h : PH) (c : Nat) (k v p : Int32) (j : Nat) : kT h c k v p 87 j = (if j = c then k else h 87 j) ∧ kT h c k v p 88 j = (if j = c then v else h 88 j) ∧ kT h c k v p 89 j = (if j = c then p else h 89 j) := by
  unfold kT
  refine ⟨?_, ?_, ?_⟩
  · rw [up_oc (by decide), up_oc (by decide), up_oc (by decide), up_at, if_pos rfl]
  · rw [up_oc (by decide), up_oc (by decide), up_at, if_pos rfl, up_oc (by decide)]
  · rw [up_oc (by decide), up_at, if_pos rfl, up_oc (by decide), up_oc (by decide)]
theorem kT_b (h : PH) (c : Nat) (k v p : Int32) (b : Nat) (h1 : b ≠ 85) (h2 : b ≠ 87) (h3 : b ≠ 88) (h4 : b ≠ 89) : kT h c k v p b = h b := by
  funext j
  unfold kT
  rw [up_oc h1, up_oc h4, up_oc h3, up_oc h2]
theorem sc_go (s : Nat) (hs : s < 4) (B : Nat → Nat) (L : Nat) (h0 : PH) (k0 : PH → Option PH) : ∀ (n p it c : Nat) (h : PH), L < n + p → p ≤ L → it ≤ p → c ≤ p → SCI s B L h0 c h → rn bBk B L p = pl B L c → ∃ N h', mA_scan_L9 s k0 n (nI p) (nI it) h = k0 h' ∧ N ≤ L ∧ SCI s B L h0 N h' ∧ pl B L N = L := by
  intro n
  induction n with
  | zero => intro p it c h h1 h2; omega
  | succ n ih =>
    intro p it c h h1 h2 h3 h4 st hp
    obtain ⟨t, e5, ar, fr⟩ := st
    have tL := t.1
    rw [mA_scan_L9]
    by_cases c1 : p = L
    · have fin : pl B L c = L := by rw [← hp, rn_st (by omega)]; exact c1
      by_cases c2 : it = 400
      · rw [if_pos (by rw [c2]; decide)]
        exact ⟨c, h, rfl, by omega, ⟨t, e5, ar, fr⟩, fin⟩
      · rw [if_neg (show ¬ (400 : Int32) ≤ nI it from nI_ge (b := 400) (by omega) (by decide)), t.2.1, if_pos (nI_le (by omega) (by omega))]
        exact ⟨c, h, rfl, by omega, ⟨t, e5, ar, fr⟩, fin⟩
    · have hq : p < L := by omega
      have hb := (t.2.2 p hq).2
      obtain ⟨n1, n2⟩ := nx_le B L p hq
      rw [if_neg (show ¬ (400 : Int32) ≤ nI it from nI_ge (b := 400) (by omega) (by decide)), t.2.1, if_neg (nI_ge hq (by omega)), bt_at t p hq, bd_e, by_in t hq, bd_e, isB_c _ hb, bd_e]
      by_cases cb : bBk (B p) = true
      · have nxe : nx B L p = p + 1 := by
          unfold nx
          have z : B p = 32 ∨ B p = 10 := by
            unfold bBk at cb
            rw [Bool.or_eq_true] at cb
            rcases cb with cb | cb
            · exact Or.inl (of_decide_eq_true cb)
            · exact Or.inr (of_decide_eq_true cb)
          rcases z with z | z <;> rw [z] <;> rfl
        rw [if_pos cb, if_neg (by decide), nxe, nI_1]
        exact ih (p + 1) (it + 1) c h (by omega) (by omega) (by omega) (by omega) ⟨t, e5, ar, fr⟩ (by rw [← hp, rn_go hq cb])
      · have pe : pl B L c = p := by rw [← hp, rn_st (fun z => cb z.2)]
        obtain ⟨k, v, k1, k2, k3⟩ := kd_at t s hs p hq
        rw [if_neg cb, if_pos rfl, k1, bd_e, k2, bd_e, kt_at h c (by omega) e5, bd_e, nI_1]
        refine ih (nx B L p) (it + 1) (c + 1) (kT h c k v (nI p)) (by omega) n2 (by omega) (by omega) ⟨tc_kT t c k v _, up_same, fun j hj => ?_, fun b b1 b2 b3 b4 => by rw [kT_b h c k v _ b b1 b2 b3 b4]; exact fr b b1 b2 b3 b4⟩ ?_
        · obtain ⟨a1, a2, a3⟩ := kT_87 h c k v (nI p) j
          rw [a1, a2, a3]
          by_cases z : j = c
          · rw [if_pos z, if_pos z, if_pos z, z, pe]
            exact ⟨hq, k3, rfl⟩
          · rw [if_neg z, if_neg z, if_neg z]
            exact ar j (by omega)
        · rw [pl, pe, if_pos hq]
/-- the class holds the N tokens and their end -/
def CTk (s : Nat) (B : Nat → Nat) (L N : Nat) (h : PH) : Prop := TC B L h ∧ N ≤ 400 ∧ h 85 5 = nI (N + 1) ∧ pl B L N = L ∧ (∀ j, j < N → pl B L j < L) ∧ ∀ j, j ≤ N → TkC s (tk B L (pl B L j)) (h 87 j) (h 88 j) ∧ h 89 j = nI (pl B L j)
theorem sc_at (s : Nat) (hs : s < 4) (B : Nat → Nat) (L : Nat) (h : PH) (t : TC B L h) : ∃ N g, mA_scan s h = some g ∧ CTk s B L N g ∧ ∀ b, b ≠ 85 → b ≠ 87 → b ≠ 88 → b ≠ 89 → g b = h b := by
  have tL := t.1
  have t0 : TC B L (up h 85 5 0) := ⟨t.1, by rw [up_oj (by decide)]; exact t.2.1, fun j hj => by rw [up_oc (by decide)]; exact t.2.2 j hj⟩
  obtain ⟨N, g, q1, q2, ⟨a1, a2, a3, a4⟩, q4⟩ := sc_go s hs B L h (fun (h8 : PH) => bd (mA_keepToken 0 0 (h8 85 4) h8) fun h9 => some h9) FU 0 0 0 (up h 85 5 0) (by unfold FU; omega) (by omega) (by omega) (by omega) ⟨t0, up_same, fun j hj => absurd hj (by omega), fun b b1 b2 b3 b4 => by funext j; exact up_oc b1⟩ rfl
  refine ⟨N, kT g N 0 0 (g 85 4), ?_, ⟨tc_kT a1 _ _ _ _, by omega, up_same, q4, fun j hj => (a3 j hj).1, fun j hj => ?_⟩, fun b b1 b2 b3 b4 => by rw [kT_b g N _ _ _ b b1 b2 b3 b4]; exact a4 b b1 b2 b3 b4⟩
  · unfold mA_scan
    rw [lt_e]
    rw [nI_0] at q1
    rw [q1]
    show bd (mA_keepToken 0 0 (g 85 4) g) _ = _
    rw [kt_at g N (by omega) a2, bd_e]
  · obtain ⟨b1, b2, b3⟩ := kT_87 g N 0 0 (g 85 4) j
    rw [b1, b2, b3]
    by_cases z : j = N
    · rw [if_pos z, if_pos z, if_pos z, z, q4]
      refine ⟨Or.inl ⟨?_, rfl⟩, a1.2.1⟩
      unfold tk
      rw [if_neg (by omega)]
    · rw [if_neg z, if_neg z, if_neg z]
      exact (a3 j (by omega)).2
