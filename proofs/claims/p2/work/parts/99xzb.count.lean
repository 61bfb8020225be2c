/-! HOW MANY FELL: sets as numbers -/
def zN (p : Nat → Bool) : Nat → Nat
  | 0 => 0
  | k + 1 => zN p k + (if p k then 2 ^ k else 0)
def zct (p : Nat → Bool) : Nat → Nat
  | 0 => 0
  | k + 1 => zct p k + (if p k then 1 else 0)
theorem zN_lt (p : Nat → Bool) : ∀ k, zN p k < 2 ^ k := by
  intro k
  induction k with
  | zero => exact Nat.one_pos
  | succ k ih =>
    rw [zN, Nat.pow_succ]
    split <;> omega
theorem zN_bit (p : Nat → Bool) : ∀ k i, (zN p k).testBit i = (decide (i < k) && p i) := by
  intro k
  induction k with
  | zero => intro i; rw [zN, Nat.zero_testBit]; rfl
  | succ k ih =>
    intro i
    have l := zN_lt p k
    rcases Nat.lt_trichotomy i k with c | c | c
    · rw [decide_eq_true (show i < k + 1 by omega), Bool.true_and, zN]
      have b := ih i
      rw [decide_eq_true c, Bool.true_and] at b
      cases hp : p k
      · rw [if_neg (by decide), Nat.add_zero]; exact b
      · rw [if_pos rfl, Nat.add_comm, Nat.testBit_two_pow_add_gt c]; exact b
    · subst c
      rw [decide_eq_true (show i < i + 1 by omega), Bool.true_and, zN]
      have b := Nat.testBit_lt_two_pow l
      cases hp : p i
      · rw [if_neg (by decide), Nat.add_zero]; exact b
      · rw [if_pos rfl, Nat.add_comm, Nat.testBit_two_pow_add_eq, b]; rfl
    · rw [decide_eq_false (show ¬ i < k + 1 by omega), Bool.false_and]
      have l2 := zN_lt p (k + 1)
      exact Nat.testBit_lt_two_pow (Nat.lt_of_lt_of_le l2 (Nat.pow_le_pow_right (by decide) (by omega)))
theorem zc_eq {p q : Nat → Bool} : ∀ k, (∀ i, i < k → p i = q i) → zct p k = zct q k := by
  intro k
  induction k with
  | zero => intro _; rfl
  | succ k ih => intro e; rw [zct, zct, ih (fun i hi => e i (by omega)), e k (by omega)]
theorem zc_ext {p : Nat → Bool} {k : Nat} (f : ∀ i, k ≤ i → p i = false) : ∀ d, zct p (k + d) = zct p k := by
  intro d
  induction d with
  | zero => rfl
  | succ d ih => rw [show k + (d + 1) = k + d + 1 by omega, zct, ih, f (k + d) (by omega), if_neg (by decide), Nat.add_zero]
/-- how many bits -/
def zpop (s : Nat) : Nat := zct (fun i => s.testBit i) 12
theorem zpop_e (p : Nat → Bool) {k : Nat} (hk : k ≤ 12) : zpop (zN p k) = zct p k := by
  unfold zpop
  rw [zc_eq (q := fun i => decide (i < k) && p i) 12 (fun i _ => zN_bit p k i), show 12 = k + (12 - k) by omega, zc_ext (fun i hi => by rw [decide_eq_false (by omega), Bool.false_and])]
  exact zc_eq k (fun i hi => by rw [decide_eq_true hi, Bool.true_and])
theorem zct_le (p : Nat → Bool) : ∀ k, zct p k ≤ k := by
  intro k
  induction k with
  | zero => exact Nat.le_refl _
  | succ k ih =>
    rw [zct]
    split <;> omega
/-- those of p that are not of q -/
theorem zc_sub {p q : Nat → Bool} : ∀ k, (∀ i, i < k → q i = true → p i = true) → zct q k + zct (fun i => p i && !q i) k = zct p k := by
  intro k
  induction k with
  | zero => intro _; rfl
  | succ k ih =>
    intro e
    have b := ih (fun i hi => e i (by omega))
    have c := e k (by omega)
    rw [zct, zct, zct]
    cases hq : q k
    · cases hp : p k <;> simp <;> omega
    · have hp := c hq
      rw [hp]
      simp
      omega
theorem bc_0 : ∀ s, s < 1024 → mJ_bitCount (nI s) (fun _ _ => 0) = some (nI (zpop s)) := by decide +kernel
theorem bc_1 : ∀ s, s < 1024 → mJ_bitCount (nI (1024 + s)) (fun _ _ => 0) = some (nI (zpop (1024 + s))) := by decide +kernel
theorem bc_2 : ∀ s, s < 1024 → mJ_bitCount (nI (2048 + s)) (fun _ _ => 0) = some (nI (zpop (2048 + s))) := by decide +kernel
theorem bc_3 : ∀ s, s < 1024 → mJ_bitCount (nI (3072 + s)) (fun _ _ => 0) = some (nI (zpop (3072 + s))) := by decide +kernel
theorem bc_e (h : PH) {s : Nat} (hs : s < 4096) : mJ_bitCount (nI s) h = some (nI (zpop s)) := by
  have e : mJ_bitCount (nI s) h = mJ_bitCount (nI s) (fun _ _ => 0) := rfl
  rw [e]
  by_cases c0 : s < 1024
  · exact bc_0 s c0
  · by_cases c1 : s < 2048
    · have := bc_1 (s - 1024) (by omega)
      rw [show 1024 + (s - 1024) = s by omega] at this
      exact this
    · by_cases c2 : s < 3072
      · have := bc_2 (s - 2048) (by omega)
        rw [show 2048 + (s - 2048) = s by omega] at this
        exact this
      · have := bc_3 (s - 3072) (by omega)
        rw [show 3072 + (s - 3072) = s by omega] at this
        exact this
abbrev zsP (s : Nat) : Prop := s = 0 ∨ (nI s &&& (nI s - 1) = nI (s &&& (s - 1)) ∧ (s &&& (s - 1)) < s ∧ zpop s = zpop (s &&& (s - 1)) + 1)
theorem zs_0 : ∀ s, s < 512 → zsP (0 + s) := by decide +kernel
theorem zs_1 : ∀ s, s < 512 → zsP (512 + s) := by decide +kernel
theorem zs_2 : ∀ s, s < 512 → zsP (1024 + s) := by decide +kernel
theorem zs_3 : ∀ s, s < 512 → zsP (1536 + s) := by decide +kernel
theorem zs_4 : ∀ s, s < 512 → zsP (2048 + s) := by decide +kernel
theorem zs_5 : ∀ s, s < 512 → zsP (2560 + s) := by decide +kernel
theorem zs_6 : ∀ s, s < 512 → zsP (3072 + s) := by decide +kernel
theorem zs_7 : ∀ s, s < 512 → zsP (3584 + s) := by decide +kernel
theorem zs_and : ∀ s, s < 4096 → zsP s := by
  intro s hs
  by_cases c0 : s < 512
  · have := zs_0 (s - 0) (by omega)
    rw [show 0 + (s - 0) = s by omega] at this
    exact this
  by_cases c1 : s < 1024
  · have := zs_1 (s - 512) (by omega)
    rw [show 512 + (s - 512) = s by omega] at this
    exact this
  by_cases c2 : s < 1536
  · have := zs_2 (s - 1024) (by omega)
    rw [show 1024 + (s - 1024) = s by omega] at this
    exact this
  by_cases c3 : s < 2048
  · have := zs_3 (s - 1536) (by omega)
    rw [show 1536 + (s - 1536) = s by omega] at this
    exact this
  by_cases c4 : s < 2560
  · have := zs_4 (s - 2048) (by omega)
    rw [show 2048 + (s - 2048) = s by omega] at this
    exact this
  by_cases c5 : s < 3072
  · have := zs_5 (s - 2560) (by omega)
    rw [show 2560 + (s - 2560) = s by omega] at this
    exact this
  by_cases c6 : s < 3584
  · have := zs_6 (s - 3072) (by omega)
    rw [show 3072 + (s - 3072) = s by omega] at this
    exact this
  have := zs_7 (s - 3584) (by omega)
  rw [show 3584 + (s - 3584) = s by omega] at this
  exact this
theorem on_e (h : PH) : ∀ (s n c : Nat), s < 4096 → zpop s < n → mm_onesOf_L4 h n (nI c) (nI s) = some (nI (c + zpop s)) := by
  intro s
  induction s using Nat.strongRecOn with
  | _ s ih =>
    intro n c hs hn
    cases n with
    | zero => omega
    | succ n =>
      rw [mm_onesOf_L4]
      rcases zs_and s hs with e | ⟨e1, e2, e3⟩
      · subst e
        rw [if_pos nI_0, show zpop 0 = 0 from by decide, Nat.add_zero]
      · rw [if_neg (nI_ne0 (by omega) (by omega)), lt_e, lt_e, nI_1, e1, ih _ e2 n (c + 1) (by omega) (by omega), e3]
        congr 2
        omega
theorem bs_1 : ∀ k, k < 12 → ∀ s, s < 2 ^ k → nI s ||| (1 <<< (nI k &&& 31)) = nI (s + 2 ^ k) := by decide +kernel
/-- who stands, as a number -/
def upb (h : PH) (i : Nat) : Bool := !(decide (upI h i = 0))
theorem us_nat {A : Nat → Prop} {H : Nat} {hc hm : PH} (t : TW A H hc hm) : ∀ (n k : Nat), H < n + k → k ≤ H → mB_upSet_L4 1 hc n (nI (zN (upb hc) k)) (nI k) = some (nI (zN (upb hc) H)) ∧ mm_standingSet_L4 hm n (nI (zN (upb hc) k)) (nI k) = some (nI (zN (upb hc) H)) := by
  intro n
  have h12 := t.1
  induction n with
  | zero => intro k h1 h2; omega
  | succ n ih =>
    intro k h1 h2
    rw [mB_upSet_L4, mm_standingSet_L4, t.2.1, t.2.2.1]
    by_cases c : k = H
    · subst c
      rw [if_pos (nI_le (Nat.le_refl _) (by omega)), if_pos (nI_le (Nat.le_refl _) (by omega))]
      exact ⟨rfl, rfl⟩
    · have hk : k < H := by omega
      rw [if_neg (nI_ge hk (by omega)), if_neg (nI_ge hk (by omega)), isBB t hk, bd_e, isM t hk, bd_e, nI_1]
      have nx := ih (k + 1) (by omega) (by omega)
      by_cases d : upI hc k = 0
      · have b : upb hc k = false := by unfold upb; rw [decide_eq_true d]; rfl
        rw [zN, b, if_neg (by decide), Nat.add_zero] at nx
        rw [if_pos d, if_pos d]
        exact nx
      · have b : upb hc k = true := by unfold upb; rw [decide_eq_false d]; rfl
        rw [zN, b, if_pos rfl] at nx
        rw [if_neg d, if_neg d, lt_e, lt_e, bs_1 k (by omega) _ (zN_lt _ k)]
        exact nx
theorem us_n {A : Nat → Prop} {H : Nat} {hc hm : PH} (t : TW A H hc hm) : mB_upSet 1 hc = some (nI (zN (upb hc) H)) ∧ mm_standingSet hm = some (nI (zN (upb hc) H)) := by
  have := us_nat t FU 0 (by have := t.1; unfold FU; omega) (Nat.zero_le _)
  rw [zN, nI_0] at this
  exact this
theorem cu_n {A : Nat → Prop} {H : Nat} {hc hm : PH} (t : TW A H hc hm) : mB_countUp 1 hc = some (nI (zct (upb hc) H)) := by
  have h12 := t.1
  have l := zN_lt (upb hc) H
  have l2 : 2 ^ H ≤ 2 ^ 12 := Nat.pow_le_pow_right (by decide) h12
  unfold mB_countUp
  rw [(us_n t).1, bd_e, bc_e hc (show _ < 4096 by omega), bd_e, zpop_e _ h12]
theorem zs_dif {p q : Nat → Bool} {H : Nat} (hH : H ≤ 12) : nI (zN p H) &&& (nI (zN q H) ^^^ (-1)) = nI (zN (fun i => p i && !q i) H) := by
  have bit : ∀ (f : Nat → Bool) i, i < 32 → (nI (zN f H)).toBitVec.getLsbD i = (decide (i < H) && f i) := fun f i hi => by
    have : (nI (zN f H)).toBitVec = BitVec.ofNat 32 (zN f H) := rfl
    rw [this, BitVec.getLsbD_ofNat, zN_bit, decide_eq_true hi, Bool.true_and]
  have m1 : ∀ i, i < 32 → (-1 : Int32).toBitVec.getLsbD i = true := by decide
  apply Int32.toBitVec_inj.mp
  rw [Int32.toBitVec_and, Int32.toBitVec_xor]
  apply BitVec.eq_of_getLsbD_eq
  intro i hi
  rw [BitVec.getLsbD_and, BitVec.getLsbD_xor, bit p i hi, bit q i hi, m1 i hi, bit _ i hi]
  by_cases c : i < H
  · rw [decide_eq_true c]
    cases p i <;> cases q i <;> rfl
  · rw [decide_eq_false c]
    cases p i <;> cases q i <;> rfl
/-- how many fell: the class's difference is the model's count -/
theorem fell_e {p q : Nat → Bool} {H : Nat} (hH : H ≤ 12) (e : ∀ i, i < H → q i = true → p i = true) (h : PH) : mm_onesOf (nI (zN p H) &&& (nI (zN q H) ^^^ (-1))) h = some (nI (zct p H) - nI (zct q H)) := by
  have l := zN_lt (fun i => p i && !q i) H
  have l2 : 2 ^ H ≤ 2 ^ 12 := Nat.pow_le_pow_right (by decide) hH
  have s := zc_sub H e
  have b := zct_le (fun i => p i && !q i) H
  unfold mm_onesOf
  rw [zs_dif hH, ← nI_0, on_e h _ FU 0 (show _ < 4096 by omega) (by rw [zpop_e _ hH]; unfold FU; omega), zpop_e _ hH, nI_sub (by omega), Nat.zero_add]
  congr 2
  omega
