/-! MEASURES answers alike -/
def abN (a b : Nat) : Nat := (a - b) + (b - a)
def ms2 (M : Nat → Nat) (k : Nat) : Nat → Nat → Bool
  | 0, _ => false
  | j + 1, d => ms2 M k j d || decide (abN (M k) (M j) = d)
def ms1 (M : Nat → Nat) : Nat → Nat → Bool
  | 0, _ => false
  | k + 1, d => ms1 M k d || decide (M k = d) || ms2 M k k d
theorem ms2_mono (M : Nat → Nat) (k d : Nat) : ∀ n j, j ≤ n → ms2 M k j d = true → ms2 M k n d = true := by
  intro n
  induction n with
  | zero => intro j hj h; rw [show j = 0 by omega] at h; exact h
  | succ n ih =>
    intro j hj h
    by_cases e : j = n + 1
    · rw [← e]; exact h
    · rw [ms2, ih j (by omega) h]; rfl
theorem ms1_mono (M : Nat → Nat) (d : Nat) : ∀ n k, k ≤ n → ms1 M k d = true → ms1 M n d = true := by
  intro n
  induction n with
  | zero => intro j hj h; rw [show j = 0 by omega] at h; exact h
  | succ n ih =>
    intro j hj h
    by_cases e : j = n + 1
    · rw [← e]; exact h
    · rw [ms1, ih j (by omega) h]; rfl
theorem ms2_hi (M : Nat → Nat) (k d : Nat) (hd : 60 < d) (hk : M k ≤ 60) : ∀ n, (∀ j, j < n → M j ≤ 60) → ms2 M k n d = false := by
  intro n
  induction n with
  | zero => intro _; rfl
  | succ n ih =>
    intro h
    have := h n (by omega)
    rw [ms2, ih (fun j hj => h j (by omega)), decide_eq_false (by unfold abN; omega)]
    rfl
theorem ms1_hi (M : Nat → Nat) (d : Nat) (hd : 60 < d) : ∀ n, (∀ j, j < n → M j ≤ 60) → ms1 M n d = false := by
  intro n
  induction n with
  | zero => intro _; rfl
  | succ n ih =>
    intro h
    have := h n (by omega)
    rw [ms1, ih (fun j hj => h j (by omega)), decide_eq_false (by omega), ms2_hi M n d hd this n (fun j hj => h j (by omega))]
    rfl
theorem sh_a : ∀ a, a < 61 → ∀ b, b < 61 → uL (1 <<< ((iabs (nI a - nI b)).toInt64 &&& 63)) = 2 ^ abN a b := by decide +kernel
theorem mshl1 : ∀ a, a < 61 → uL (1 <<< ((nI a).toInt64 &&& 63)) = 2 ^ a := by decide +kernel
theorem tb_or (x y : Int64) (e d : Nat) (hy : uL y = 2 ^ e) : (uL (x ||| y)).testBit d = ((uL x).testBit d || decide (e = d)) := by
  rw [uL_or, hy, Nat.testBit_or, Nat.testBit_two_pow]
theorem m2_tb : ∀ d, d < 64 → (uL (-2)).testBit d = decide (1 ≤ d) := by decide +kernel
theorem sr_tb (x : Int64) (d : Nat) (hd : d < 61) : ((x >>> ((nI d).toInt64 &&& 63)) &&& 1) = 0 ↔ (uL x).testBit d = false := by
  have hb : ∀ d, d < 61 → ((((nI d).toInt64 &&& 63)).toBitVec.smod 64).toNat = d := by decide +kernel
  have e1 : (1 : Int64).toBitVec = 1#64 := by decide
  have e0 : (0 : Int64).toBitVec = 0#64 := by decide
  have key : ((x >>> ((nI d).toInt64 &&& 63)) &&& 1).toBitVec.getLsbD 0 = (uL x).testBit d := by
    rw [Int64.toBitVec_and, Int64.toBitVec_shiftRight, e1, BitVec.getLsbD_and, BitVec.sshiftRight', hb d hd, BitVec.getLsbD_sshiftRight]
    simp only [Nat.add_zero, show d < 64 by omega, if_pos]
    simp
    rfl
  rw [← key]
  constructor
  · intro h; rw [h, e0]; rfl
  · intro h
    apply Int64.toBitVec_inj.mp
    rw [e0]
    apply BitVec.eq_of_getLsbD_eq
    intro i hi
    by_cases c : i = 0
    · subst c; rw [h]; rfl
    · rw [Int64.toBitVec_and, e1, BitVec.getLsbD_and]
      simp [BitVec.getLsbD_one, c]
theorem ni_inj {a b : Nat} (ha : a < 2 ^ 31) (hb : b < 2 ^ 31) (h : nI a = nI b) : a = b := by
  have := congrArg Int32.toInt h
  rw [nI_toInt ha, nI_toInt hb] at this
  omega
theorem ap_v : ∀ a, a < 61 → ∀ b, b < 61 → (if nI a ≤ nI b then some (nI b - nI a) else some (nI a - nI b)) = some (nI (abN a b)) := by decide +kernel
theorem mk_at (h : PH) (i : Inv h) {n k : Nat} (hn : n ≤ 5) (en : h 22 3 = nI n) (hk : k < n) : mR_at 22 (nI k) 0 h = some (h 23 k) := by
  have := at_row (a := 22) (m := 5) (w := 1) rfl rfl (by decide) (by decide) i (c := 0) en hn hk (by decide)
  rw [nI_0, show k * 1 + 0 = k by omega] at this
  exact this
theorem le26 (h : PH) (i : Inv h) (n : Nat) (hn : n ≤ 5) (en : h 22 3 = nI n) (M : Nat → Nat) (hM : ∀ k, k < n → h 23 k = nI (M k) ∧ M k ≤ 60) (p : Nat) (hp : p < n) (k0 : Int64 → Option Int64) (A : Nat → Bool) : ∀ (f j : Nat) (x : Int64), p < f + j → j ≤ p → (∀ d, d < 64 → (uL x).testBit d = (A d || ms2 M p j d)) → ∃ y, mK_lengths_L26 22 (nI p) h k0 f x (nI j) = k0 y ∧ ∀ d, d < 64 → (uL y).testBit d = (A d || ms2 M p p d) := by
  intro f
  induction f with
  | zero => intro j x h1 h2; omega
  | succ f ih =>
    intro j x h1 h2 hx
    rw [mK_lengths_L26]
    by_cases e : j = p
    · subst e
      rw [if_pos (nI_le (Nat.le_refl _) (by omega))]
      exact ⟨x, rfl, hx⟩
    · have hj : j < p := by omega
      obtain ⟨m1, m2⟩ := hM p hp
      obtain ⟨m3, m4⟩ := hM j (by omega)
      rw [if_neg (nI_ge hj (by omega)), mk_at h i hn en hp, bd_e, mk_at h i hn en (show j < n by omega), bd_e, lt_e, nI_1, m1, m3]
      refine ih (j + 1) _ (by omega) (by omega) (fun d hd => ?_)
      rw [tb_or _ _ (abN (M p) (M j)) d (sh_a (M p) (by omega) (M j) (by omega)), hx d hd, ms2, Bool.or_assoc]
theorem le4 (h : PH) (i : Inv h) (n : Nat) (hn : n ≤ 5) (en : h 22 3 = nI n) (M : Nat → Nat) (hM : ∀ k, k < n → h 23 k = nI (M k) ∧ M k ≤ 60) : ∀ (f k : Nat) (x : Int64), n < f + k → k ≤ n → (∀ d, d < 64 → (uL x).testBit d = ms1 M k d) → ∃ y, mK_lengths_L4 22 h f x (nI k) = some y ∧ ∀ d, d < 64 → (uL y).testBit d = (ms1 M n d && decide (1 ≤ d)) := by
  intro f
  induction f with
  | zero => intro k x h1 h2; omega
  | succ f ih =>
    intro k x h1 h2 hx
    rw [mK_lengths_L4, en]
    by_cases e : k = n
    · subst e
      rw [if_pos (nI_le (Nat.le_refl _) (by omega))]
      refine ⟨_, rfl, fun d hd => ?_⟩
      rw [uL_and, Nat.testBit_and, hx d hd, m2_tb d hd]
    · have hk : k < n := by omega
      obtain ⟨m1, m2⟩ := hM k hk
      rw [if_neg (nI_ge hk (by omega)), mk_at h i hn en hk, bd_e, lt_e, m1]
      obtain ⟨y, q1, q2⟩ := le26 h i n hn en M hM k hk (fun (x6 : Int64) => mK_lengths_L4 22 h f x6 (nI k + 1)) (fun d => ms1 M k d || decide (M k = d)) FU 0 (x ||| (1 <<< ((nI (M k)).toInt64 &&& 63))) (by unfold FU; omega) (by omega) (fun d hd => by
        rw [tb_or _ _ (M k) d (mshl1 (M k) (by omega)), hx d hd, ms2, Bool.or_false])
      rw [nI_0] at q1
      rw [q1]
      try dsimp only
      rw [nI_1]
      exact ih (k + 1) y (by omega) (by omega) (fun d hd => by rw [q2 d hd, ms1])
theorem im24 (g : PH) (n : Nat) (hn : n ≤ 5) (M : Nat → Nat) (hM : ∀ k, k < n → g 132 k = nI (M k) ∧ M k ≤ 60) (d : Nat) (hd : d ≤ 60) (p : Nat) (hp : p < n) (k0 : Option Int32) : ∀ (f j : Nat), p < f + j → j ≤ p → ms2 M p j d = false → mm_isMeasured_L24 (nI d) (nI p) g k0 f (nI j) = if ms2 M p p d = true then some 1 else k0 := by
  intro f
  induction f with
  | zero => intro j h1 h2; omega
  | succ f ih =>
    intro j h1 h2 hx
    rw [mm_isMeasured_L24]
    by_cases e : j = p
    · subst e
      rw [if_pos (nI_le (Nat.le_refl _) (by omega)), if_neg (by rw [hx]; decide)]
    · have hj : j < p := by omega
      obtain ⟨m1, m2⟩ := hM p hp
      obtain ⟨m3, m4⟩ := hM j (by omega)
      have ap : mm_apart (nI (M p)) (nI (M j)) g = some (nI (abN (M p) (M j))) := by
        unfold mm_apart
        exact ap_v (M p) (by omega) (M j) (by omega)
      rw [if_neg (nI_ge hj (by omega)), ck_nI (by omega) (by decide), ck_nI (by omega) (by decide), show ix (nI p) = p from nI_clamp (by omega), show ix (nI j) = j from nI_clamp (by omega), m1, m3, ap, bd_e]
      by_cases c : abN (M p) (M j) = d
      · rw [if_pos (by rw [c]), if_pos (ms2_mono M p d p (j + 1) (by omega) (by rw [ms2, decide_eq_true c, Bool.or_true]))]
      · rw [if_neg (fun q => c (ni_inj (by unfold abN; omega) (by omega) q)), nI_1]
        exact ih (j + 1) (by omega) (by omega) (by rw [ms2, hx, decide_eq_false c]; rfl)
theorem im2 (g : PH) (n : Nat) (hn : n ≤ 5) (em : g 104 49 = nI n) (M : Nat → Nat) (hM : ∀ k, k < n → g 132 k = nI (M k) ∧ M k ≤ 60) (d : Nat) (hd : d ≤ 60) : ∀ (f k : Nat), n < f + k → k ≤ n → ms1 M k d = false → mm_isMeasured_L2 (nI d) g f (nI k) = some (if ms1 M n d = true then 1 else 0) := by
  intro f
  induction f with
  | zero => intro k h1 h2; omega
  | succ f ih =>
    intro k h1 h2 hx
    rw [mm_isMeasured_L2, em]
    by_cases e : k = n
    · subst e
      rw [if_pos (nI_le (Nat.le_refl _) (by omega)), if_neg (by rw [hx]; decide)]
    · have hk : k < n := by omega
      obtain ⟨m1, m2⟩ := hM k hk
      rw [if_neg (nI_ge hk (by omega)), ck_nI (by omega) (by decide), show ix (nI k) = k from nI_clamp (by omega), m1]
      by_cases c : M k = d
      · rw [if_pos (by rw [c]), if_pos (ms1_mono M d n (k + 1) (by omega) (by rw [ms1, decide_eq_true c, Bool.or_true]; rfl))]
      · rw [if_neg (fun q => c (ni_inj (by omega) (by omega) q))]
        have := im24 g n hn M hM d hd k hk (mm_isMeasured_L2 (nI d) g f (nI k + 1)) FU 0 (by unfold FU; omega) (by omega) rfl
        rw [nI_0] at this
        rw [this]
        by_cases c2 : ms2 M k k d = true
        · rw [if_pos c2, if_pos (ms1_mono M d n (k + 1) (by omega) (by rw [ms1, c2, Bool.or_true]))]
        · rw [if_neg c2, nI_1]
          have c2 : ms2 M k k d = false := by
            cases q : ms2 M k k d
            · rfl
            · exact absurd q c2
          exact ih (k + 1) (by omega) (by omega) (by rw [ms1, hx, decide_eq_false c, c2]; rfl)
theorem im_at (g : PH) (n : Nat) (hn : n ≤ 5) (em : g 104 49 = nI n) (M : Nat → Nat) (hM : ∀ k, k < n → g 132 k = nI (M k) ∧ M k ≤ 60) (d : Nat) (hd : d ≤ 60) : mm_isMeasured (nI d) g = some (if ms1 M n d = true then 1 else 0) := by
  have := im2 g n hn em M hM d hd FU 0 (by unfold FU; omega) (by omega) rfl
  rw [nI_0] at this
  exact this
def msB (M : Nat → Nat) (n d : Nat) : Nat := if (ms1 M n d && decide (1 ≤ d)) = true then 1 else 0
theorem sN_le (M : Nat → Nat) (n : Nat) : ∀ d, bq_sN (msB M n) d ≤ d := by
  intro d
  induction d with
  | zero => exact Nat.le_refl _
  | succ d ih =>
    rw [bq_sN]
    have : msB M n d ≤ 1 := by unfold msB; split <;> omega
    omega
theorem me0 (g : PH) (n : Nat) (hn : n ≤ 5) (em : g 104 49 = nI n) (M : Nat → Nat) (hM : ∀ k, k < n → g 132 k = nI (M k) ∧ M k ≤ 60) (k0 : Int32 → Option (Int32 × PH)) : ∀ (f d : Nat), 61 < f + d → d ≤ 61 → 1 ≤ d → mm_measures_L21 0 g k0 f (nI (bq_sN (msB M n) d)) (nI d) = k0 (nI (bq_sN (msB M n) 61)) := by
  intro f
  induction f with
  | zero => intro d h1 h2; omega
  | succ f ih =>
    intro d h1 h2 h3
    rw [mm_measures_L21]
    by_cases e : d = 61
    · subst e
      rw [if_pos (show (60 : Int32) < nI 61 by decide)]
    · have nlt : ¬ (60 : Int32) < nI d := by
        rw [Int32.lt_iff_toInt_lt, nI_toInt (by omega)]
        simp only [show (60 : Int32).toInt = 60 from rfl]
        omega
      rw [if_neg nlt, im_at g n hn em M hM d (by omega), bd_e]
      by_cases c : ms1 M n d = true
      · have b1 : msB M n d = 1 := by unfold msB; rw [c, decide_eq_true h3]; rfl
        rw [if_pos c, if_neg (by decide), lt_e, nI_1, nI_1, ← ih (d + 1) (by omega) (by omega) (by omega), bq_sN, b1]
      · have b0 : msB M n d = 0 := by
          unfold msB
          rw [if_neg (fun q => c (by rw [Bool.and_eq_true] at q; exact q.1))]
        (rw [if_neg c, if_pos rfl, if_neg (by decide), nI_1, ← ih (d + 1) (by omega) (by omega) (by omega), bq_sN, b0]) <;> rfl
theorem lgc0 (x : Int64) : lg_cmp x 0 = 0 ↔ x = 0 := by
  unfold lg_cmp
  constructor
  · intro h
    by_cases c : x > 0
    · rw [if_pos c] at h; exact absurd h (by decide)
    · rw [if_neg c] at h
      by_cases c2 : x = 0
      · exact c2
      · rw [if_neg c2] at h; exact absurd h (by decide)
  · intro h; subst h; decide
theorem me1 (h g : PH) (n : Nat) (hn : n ≤ 5) (em : g 104 49 = nI n) (M : Nat → Nat) (hM : ∀ k, k < n → g 132 k = nI (M k) ∧ M k ≤ 60) (y : Int64) (hy : ∀ d, d < 64 → (uL y).testBit d = (ms1 M n d && decide (1 ≤ d))) (k0 : Int32 → Option (Int32 × PH)) (hk : ∀ c, k0 c = some (-1, g)) : ∀ (f d : Nat) (c : Int32), 61 < f + d → d ≤ 61 → 1 ≤ d → ∃ r, mK_leastMissing_L7 y h f (nI d) = some r ∧ mm_measures_L21 1 g k0 f c (nI d) = some (r, g) := by
  intro f
  induction f with
  | zero => intro d c h1 h2; omega
  | succ f ih =>
    intro d c h1 h2 h3
    rw [mm_measures_L21, mK_leastMissing_L7]
    by_cases e : d = 61
    · subst e
      rw [if_pos (show (60 : Int32) < nI 61 by decide), if_pos (show (60 : Int32) < nI 61 by decide), hk]
      exact ⟨_, rfl, rfl⟩
    · have nlt : ¬ (60 : Int32) < nI d := by
        rw [Int32.lt_iff_toInt_lt, nI_toInt (by omega)]
        simp only [show (60 : Int32).toInt = 60 from rfl]
        omega
      have tb := hy d (by omega)
      rw [decide_eq_true h3, Bool.and_true] at tb
      rw [if_neg nlt, if_neg nlt, im_at g n hn em M hM d (by omega), bd_e]
      by_cases q : ms1 M n d = true
      · rw [if_pos q, if_neg (show ¬ (1 : Int32) = 0 by decide), lt_e, if_neg (show ¬ lg_cmp (y >>> ((nI d).toInt64 &&& 63) &&& 1) 0 = 0 from fun z => by
          have := (sr_tb y d (by omega)).mp ((lgc0 _).mp z)
          rw [tb, q] at this
          cases this), nI_1]
        exact ih (d + 1) _ (by omega) (by omega) (by omega)
      · have q' : ms1 M n d = false := by
          cases z : ms1 M n d
          · rfl
          · exact absurd z q
        rw [if_neg q, if_pos rfl, if_pos rfl, if_pos ((lgc0 _).mpr ((sr_tb y d (by omega)).mpr (by rw [tb, q'])))]
        exact ⟨_, rfl, rfl⟩
theorem pop_ms (M : Nat → Nat) (n : Nat) (hM : ∀ k, k < n → M k ≤ 60) (u : Nat) (hy : ∀ d, d < 64 → u.testBit d = (ms1 M n d && decide (1 ≤ d))) : bq_pop u = bq_sN (msB M n) 61 := by
  have e : ∀ d, d < 64 → u / 2 ^ d % 2 = msB M n d := fun d hd => by
    rw [← Nat.toNat_testBit, hy d hd]
    unfold msB
    cases (ms1 M n d && decide (1 ≤ d)) <;> rfl
  have sx : ∀ m, m ≤ 64 → bq_sN (fun k => u / 2 ^ k % 2) m = bq_sN (msB M n) m := by
    intro m
    induction m with
    | zero => intro _; rfl
    | succ m ih => intro hm; rw [bq_sN, bq_sN, ih (by omega), e m (by omega)]
  have z : ∀ d, 60 < d → msB M n d = 0 := fun d hd => by
    unfold msB
    rw [ms1_hi M d hd n hM]
    rfl
  unfold bq_pop
  rw [sx 64 (Nat.le_refl _), show (64 : Nat) = 63 + 1 from rfl, bq_sN, z 63 (by decide), show (63 : Nat) = 62 + 1 from rfl, bq_sN, z 62 (by decide), show (62 : Nat) = 61 + 1 from rfl, bq_sN, z 61 (by decide)]
  rfl
theorem ag_measures (a1 : Int32) (h : PH) (i : IM h) (rl : RLA h) {rX rm : Int32} {h2 : PH} (e1 : mX_measures a1 h = some rX) (e2 : mm_measures a1 h = some (rm, h2)) : rX = rm := by
  unfold mX_measures at e1
  unfold mm_measures at e2
  rw [lt_e] at e2
  have z01 : ¬ (1 : Int32) = 0 := by decide
  by_cases f1 : 0 ≤ a1 ∧ a1 ≤ 1
  · rw [within_y f1, bd_e, if_neg z01] at e1
    rw [isIn_y f1, bd_e, if_neg z01] at e2
    obtain ⟨n, n1, n2, en⟩ := nat_of (show R 0 5 (h 22 3) from inv_rng i.1 rfl) (by decide)
    have own : LS_mark h := rl.1.2.2.1
    unfold LS_mark at own
    have hr : ∀ k, k < n → h 23 k = h 132 k ∧ R 1 60 (h 23 k) := fun k hk => own.2 k (by rw [en, nI_toInt n2]; omega)
    have hM : ∀ k, k < n → h 23 k = nI ((h 23 k).toInt.toNat) ∧ (h 23 k).toInt.toNat ≤ 60 := fun k hk => by
      obtain ⟨w, w1, w2, ew⟩ := nat_of (hr k hk).2 (by decide)
      rw [ew, nI_toInt w2]
      exact ⟨rfl, by omega⟩
    have hM2 : ∀ k, k < n → (up h 104 0 0) 132 k = nI ((h 23 k).toInt.toNat) ∧ (h 23 k).toInt.toNat ≤ 60 := fun k hk => by
      rw [up_oc (by decide), ← (hr k hk).1]
      exact hM k hk
    have em : (up h 104 0 0) 104 49 = nI n := by rw [up_oj (by decide), ← own.1]; exact en
    obtain ⟨y, q1, q2⟩ := le4 h i.1 n (by omega) en (fun k => (h 23 k).toInt.toNat) hM FU 0 0 (by unfold FU; omega) (by omega) (fun d hd => by
      rw [show uL 0 = 0 from rfl, Nat.zero_testBit]
      rfl)
    rw [nI_0] at q1
    have q1 : mK_lengths 22 h = some y := q1
    by_cases c : a1 = 0
    · subst c
      have bc := bitc y h
      rw [pop_ms (fun k => (h 23 k).toInt.toNat) n (fun k hk => (hM k hk).2) _ q2] at bc
      have cl : mK_countLengths 22 h = some (nI (bq_sN (msB (fun k => (h 23 k).toInt.toNat) n) 61)) := by
        unfold mK_countLengths
        rw [q1, bd_e, bc, bd_e]
      rw [if_pos rfl, cl, bd_e] at e1
      have m := me0 (up h 104 0 0) n (by omega) em (fun k => (h 23 k).toInt.toNat) hM2 (fun (x5 : Int32) => if (0 : Int32) = 0 then some (x5, up h 104 0 0) else some ((-1), up h 104 0 0)) FU 1 (by unfold FU; omega) (by decide) (by decide)
      have s1 : bq_sN (msB (fun k => (h 23 k).toInt.toNat) n) 1 = 0 := by
        rw [bq_sN, bq_sN]
        unfold msB
        rw [decide_eq_false (by decide), Bool.and_false]
        rfl
      rw [s1, nI_0, show nI 1 = (1 : Int32) from rfl] at m
      rw [m, if_pos rfl] at e2
      cases e1
      cases e2
      rfl
    · have c1 : a1 = 1 := by
        obtain ⟨w, w1, w2, ew⟩ := nat_of (rng_of (x := 0) (y := 1) rfl rfl f1) (by decide)
        have : w ≠ 0 := fun q => c (by rw [ew, q]; rfl)
        rw [ew, show w = 1 by omega]
        rfl
      subst c1
      obtain ⟨r, m1, m2⟩ := me1 h (up h 104 0 0) n (by omega) em (fun k => (h 23 k).toInt.toNat) hM2 y q2 (fun (x5 : Int32) => if (1 : Int32) = 0 then some (x5, up h 104 0 0) else some ((-1), up h 104 0 0)) (fun _ => if_neg z01) FU 1 0 (by unfold FU; omega) (by decide) (by decide)
      rw [show nI 1 = (1 : Int32) from rfl] at m1 m2
      have lm : mK_leastMissing 22 h = some r := by
        unfold mK_leastMissing
        rw [q1, bd_e]
        exact m1
      rw [if_neg c, lm, bd_e] at e1
      rw [m2] at e2
      cases e1
      cases e2
      rfl
  · rw [within_n f1, bd_e, if_pos rfl] at e1
    rw [isIn_n f1, bd_e, if_pos rfl] at e2
    cases e1
    cases e2
    rfl
