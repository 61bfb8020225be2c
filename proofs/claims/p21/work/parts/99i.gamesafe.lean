/-! THE GAME, its safety alone (for claims that don't compare its answer) -/
theorem shr5 {x : Int32} (h : R 0 32767 x) : R 0 1023 (x >>> (5 &&& 31)) := by
  have e : (x >>> (5 &&& 31)).toInt = x.toInt / 32 := by
    have e1 : (x >>> (5 &&& 31)).toInt = (x >>> (5 &&& 31)).toBitVec.toInt := rfl
    have e2 : (x >>> (5 &&& 31)).toBitVec = x.toBitVec.sshiftRight 5 := rfl
    rw [e1, e2, BitVec.toInt_sshiftRight, Int.shiftRight_eq_div_pow]
    rfl
  obtain ⟨h1, h2⟩ := h
  exact ⟨by omega, by omega⟩
theorem ls_len (p0 p1 : Int32) (h : PH) : Sf (mL_lengthOf p0 p1 h) (fun r => R 0 7 r) := by
  unfold mL_lengthOf
  exact s_some (r_and (a := 7) ⟨by decide, by decide⟩ (by decide))
theorem ls_shape5 (p0 : Int32) (h : PH) : ∀ (n k : Nat) (v : Int32), 5 < n + k → k ≤ 5 → Sf (mL_isShape_L5 p0 h n v (nI k)) (fun _ => True) := by
  intro n
  induction n with
  | zero => intro k v h1 h2; omega
  | succ n ih =>
    intro k v h1 h2
    rw [mL_isShape_L5]
    by_cases e : k = 5
    · subst e
      rw [if_pos (by decide)]
      exact s_some trivial
    · rw [if_neg (show ¬ (5 : Int32) ≤ nI k from nI_ge (b := 5) (by omega) (by omega))]
      refine s_bd (ls_len p0 (nI k) h) (fun r _ => ?_)
      rw [nI_1]
      exact s_if (fun _ => ih (k + 1) _ (by omega) (by omega)) (fun _ => s_some trivial)
theorem ls_shape (p0 : Int32) (h : PH) : Sf (mL_isShape p0 h) (fun _ => True) := by
  have := ls_shape5 p0 h FU 0 6 (by unfold FU; omega) (by omega)
  rw [nI_0] at this
  exact this
theorem ls_bit5 (p0 p1 p2 : Int32) (h : PH) : ∀ (n k : Nat) (v : Int32), 5 < n + k → k ≤ 5 → Sf (mL_bitten_L5 p0 p1 p2 h n v (nI k)) (fun _ => True) := by
  intro n
  induction n with
  | zero => intro k v h1 h2; omega
  | succ n ih =>
    intro k v h1 h2
    rw [mL_bitten_L5]
    by_cases e : k = 5
    · subst e
      rw [if_pos (by decide)]
      exact s_some trivial
    · rw [if_neg (show ¬ (5 : Int32) ≤ nI k from nI_ge (b := 5) (by omega) (by omega))]
      refine s_bd (ls_len p0 (nI k) h) (fun r _ => ?_)
      refine s_jn1 (P := fun _ => True) (fun x _ => ?_) (fun j kj => s_if (fun _ => kj _ trivial) (fun _ => kj _ trivial))
      rw [lt_e, nI_1]
      exact ih (k + 1) _ (by omega) (by omega)
theorem ls_lost (p1 : Int32) (h : PH) : Sf (mL_isLost p1 h) (fun _ => True) := by
  unfold mL_isLost
  rw [lt_e]
  refine s_if (fun _ => s_some trivial) (fun c1 => s_if (fun _ => s_some trivial) (fun c2 => ?_))
  have f1 : R 0 2147483647 (p1 >>> (5 &&& 31)) := le_lo (show R 0 0 (0 : Int32) from ⟨by decide, by decide⟩) (r_full _) (nlt_le c1)
  have f2 : R 0 1023 (p1 >>> (5 &&& 31)) := lt_hi f1 (show R 1024 1024 (1024 : Int32) from ⟨by decide, by decide⟩) (nle_lt c2) (by decide)
  exact s_ck f2 (by decide) (s_if (fun _ => s_some trivial) (fun _ => s_some trivial))
theorem ls_win16 (p1 p2 p3 : Int32) (f3 : R 0 7 p3) (h : PH) (k0 : Option Int32) (hk0 : Sf k0 (fun _ => True)) : ∀ (n k : Nat), 7 < n + k → k ≤ 7 → Sf (mL_winningBite_L16 p1 p2 p3 h k0 n (nI k)) (fun _ => True) := by
  intro n
  induction n with
  | zero => intro k h1 h2; omega
  | succ n ih =>
    intro k h1 h2
    rw [mL_winningBite_L16]
    refine s_if (fun _ => hk0) (fun c => ?_)
    have c2 := nle_lt c
    rw [Int32.lt_iff_toInt_lt, nI_toInt (by omega)] at c2
    have := f3.2
    refine s_bd (P := fun _ => True) ?_ (fun r2 _ => ?_)
    · have := ls_bit5 p1 p2 (nI k) h FU 0 0 (by unfold FU; omega) (by omega)
      rw [nI_0] at this
      exact this
    · refine s_bd (ls_lost r2 h) (fun r3 _ => s_if (fun _ => ?_) (fun _ => s_some trivial))
      rw [nI_1]
      exact ih (k + 1) (by omega) (by omega)
theorem ls_win2 (p1 : Int32) (h : PH) : ∀ (n k : Nat), 5 < n + k → k ≤ 5 → Sf (mL_winningBite_L2 p1 h n (nI k)) (fun _ => True) := by
  intro n
  induction n with
  | zero => intro k h1 h2; omega
  | succ n ih =>
    intro k h1 h2
    rw [mL_winningBite_L2]
    by_cases e : k = 5
    · subst e
      rw [if_pos (by decide)]
      exact s_some trivial
    · rw [if_neg (show ¬ (5 : Int32) ≤ nI k from nI_ge (b := 5) (by omega) (by omega))]
      refine s_bd (ls_len p1 (nI k) h) (fun r fr => ?_)
      rw [nI_1]
      have := ls_win16 p1 (nI k) r fr h _ (ih (k + 1) (by omega) (by omega)) FU 0 (by unfold FU; omega) (by omega)
      rw [nI_0] at this
      exact this
theorem ls_win (p1 : Int32) (h : PH) : Sf (mL_winningBite p1 h) (fun _ => True) := by
  have := ls_win2 p1 h FU 0 (by unfold FU; omega) (by omega)
  rw [nI_0] at this
  exact this
theorem inv103 {h : PH} (i : Inv h) {j : Nat} (v : Int32) : Inv (up h 103 j v) := inv_put i (show sp 103 j = (-2147483648, 2147483647) from rfl) (r_full v)
theorem ls_learn2 : ∀ (n k : Nat) (h : PH), 32768 < n + k → k ≤ 32768 → Inv h → Sf (mL_learn_L2 n (nI k) h) Inv := by
  intro n
  induction n with
  | zero => intro k h h1 h2; omega
  | succ n ih =>
    intro k h h1 h2 i
    rw [mL_learn_L2]
    by_cases e : k = 32768
    · subst e
      rw [if_pos (by decide)]
      exact s_some i
    · rw [if_neg (show ¬ (32768 : Int32) ≤ nI k from nI_ge (b := 32768) (by omega) (by omega))]
      refine s_bd (ls_shape (nI k) h) (fun r1 _ => ?_)
      have go : ∀ g, Inv g → Sf (mL_learn_L2 n (nI k + 1) g) Inv := fun g ig => by
        rw [nI_1]
        exact ih (k + 1) g (by omega) (by omega) ig
      refine s_if (fun _ => go h i) (fun _ => ?_)
      refine s_bd (ls_win (nI k) h) (fun r2 _ => s_if (fun _ => ?_) (fun _ => go h i))
      have f : R 0 1023 (nI k >>> (5 &&& 31)) := shr5 ⟨by rw [nI_toInt (by omega)]; omega, by rw [nI_toInt (by omega)]; omega⟩
      refine s_ck f (by decide) (s_ck f (by decide) ?_)
      rw [lt_e]
      exact go _ (inv103 i _)
theorem ls_best21 (p1 p2 : Int32) (f1 : R 1 5 p1) (h : PH) (k0 : Int32 → Option (Int32 × PH)) {Q : Int32 × PH → Prop} (hk0 : ∀ x, Sf (k0 x) Q) : ∀ (n k : Nat) (v : Int32), 5 < n + k → k ≤ 5 → Sf (mL_bestBite_L21 p1 p2 h k0 n v (nI k)) Q := by
  intro n
  induction n with
  | zero => intro k v h1 h2; omega
  | succ n ih =>
    intro k v h1 h2
    rw [mL_bestBite_L21]
    refine s_if (fun _ => hk0 v) (fun c => ?_)
    have c2 := nle_lt c
    rw [Int32.lt_iff_toInt_lt, nI_toInt (by omega)] at c2
    have := f1.2
    rw [lt_e, nI_1]
    exact ih (k + 1) _ (by omega) (by omega)
theorem game_class (a b : Int32) (h : PH) (i : Inv h) (_ : GI h) : Sf (mX_game a b h) (fun r => Inv r.2 ∧ GI r.2 ∧ True ∧ True) := by
  have gt : ∀ g : PH, GI g := fun g => Or.inl ⟨rfl, rfl⟩
  unfold mX_game
  simp only [within_eq, bd_e]
  refine s_if (fun _ => s_some ⟨i, gt h, trivial, trivial⟩) (fun n1 => ?_)
  have c1 : 1 ≤ a ∧ a ≤ 5 := by
    by_cases c : 1 ≤ a ∧ a ≤ 5
    · exact c
    · rw [if_neg c] at n1; exact absurd rfl n1
  refine s_if (fun _ => s_some ⟨i, gt h, trivial, trivial⟩) (fun n2 => ?_)
  have f1 : R 1 5 a := by
    obtain ⟨q1, q2⟩ := c1
    rw [Int32.le_iff_toInt_le] at q1 q2
    exact ⟨q1, q2⟩
  refine s_bd2 (P := fun r => Inv r.2) ?_ (fun r3 h4 q => s_some ⟨q, gt h4, trivial, trivial⟩)
  unfold mL_bestBite
  refine s_jn1 (P := Inv) (fun h2 i2 => ?_) (fun j1 kj => ?_)
  · have := ls_best21 a b f1 h2 (fun (x4 : Int32) => bd (mL_winningBite x4 h2) fun r5 => some (r5, h2)) (Q := fun r => Inv r.2) (fun x => s_bd (ls_win x h2) (fun r _ => s_some i2)) FU 0 0 (by unfold FU; omega) (by omega)
    rw [nI_0] at this
    exact this
  · refine s_if (fun _ => ?_) (fun _ => kj _ i)
    have := ls_learn2 FU 1 h (by unfold FU; omega) (by omega) i
    refine s_bd (x := mL_learn h) this (fun h6 i6 => ?_)
    rw [lt_e]
    exact kj _ (inv_put i6 (show sp 102 1 = (-2147483648, 2147483647) from rfl) (r_full _))
/-! the model's side -/
def SL (h : PH) : Prop := ∀ j, j < 5 → R 0 6 (h 147 j)
theorem im147 {h : PH} (i : IM h) {j : Nat} (v : Int32) : IM (up h 147 j v) := im_put i (show sp 147 j = (-2147483648, 2147483647) from rfl) (r_full v) (by decide)
theorem im146 {h : PH} (i : IM h) {j : Nat} (v : Int32) : IM (up h 146 j v) := im_put i (show sp 146 j = (-2147483648, 2147483647) from rfl) (r_full v) (by decide)
theorem dz7 {ρ : Type} (k : Option ρ) : dz 7 k = k := dz_nz (by decide)
theorem gs_take4 : ∀ (n k : Nat) (v : Int32) (h : PH), 5 < n + k → k ≤ 5 → R 0 2147483647 v → IM h → (∀ j, j < k → R 0 6 (h 147 j)) → Sf (mm_takesSlab_L4 n v (nI k) h) (fun g => IM g ∧ SL g) := by
  intro n
  induction n with
  | zero => intro k v h h1 h2; omega
  | succ n ih =>
    intro k v h h1 h2 fv i sl
    rw [mm_takesSlab_L4]
    by_cases e : k = 5
    · subst e
      rw [if_pos (by decide)]
      exact s_some ⟨i, sl⟩
    · rw [if_neg (show ¬ (5 : Int32) ≤ nI k from nI_ge (b := 5) (by omega) (by omega)), dz7, ck_nI (by omega) (by decide), lt_e, dz7, lt_e, nI_1, show ix (nI k) = k from nI_clamp (by omega)]
      have m7 : R 7 7 (7 : Int32) := ⟨by decide, by decide⟩
      refine ih (k + 1) _ _ (by omega) (by omega) (r_w (r_div fv m7 (e := 0) (f := 2147483647) (by decide)) (by decide)) (im147 i _) (fun j hj => ?_)
      by_cases ej : j = k
      · subst ej
        rw [up_same]
        exact r_irm fv m7 (by decide)
      · rw [up_oj ej]
        exact sl j (by omega)
theorem gs_take (v : Int32) (h : PH) (fv : R 0 2147483647 v) (i : IM h) : Sf (mm_takesSlab v h) (fun g => IM g ∧ SL g) := by
  have := gs_take4 FU 0 v h (by unfold FU; omega) (by omega) fv i (fun j hj => by omega)
  rw [nI_0] at this
  exact this
theorem gs_is (h : PH) : ∀ (n k : Nat), 5 < n + k → 1 ≤ k → k ≤ 5 → Sf (mm_isSlab_L2 h n (nI k)) (fun _ => True) := by
  intro n
  induction n with
  | zero => intro k h1 h2 h3; omega
  | succ n ih =>
    intro k h1 h2 h3
    rw [mm_isSlab_L2]
    by_cases e : k = 5
    · subst e
      rw [if_pos (by decide)]
      exact s_some trivial
    · obtain ⟨m, rfl⟩ : ∃ m, k = m + 1 := ⟨k - 1, by omega⟩
      rw [if_neg (show ¬ (5 : Int32) ≤ nI (m + 1) from nI_ge (b := 5) (by omega) (by omega)), ck_nI (by omega) (by decide), nI_pred, ck_nI (by omega) (by decide), nI_1]
      exact s_if (fun _ => ih (m + 1 + 1) (by omega) (by omega) (by omega)) (fun _ => s_some trivial)
theorem gs_bit5 (p1 p2 : Int32) (f2 : R 0 6 p2) (h : PH) (sl : SL h) : ∀ (n k a : Nat), k < n → k ≤ 5 → a < 7 ^ (5 - k) → Sf (mm_bitten_L5 p1 p2 h n (nI a) (nI k - 1)) (fun r => R 0 16806 r) := by
  intro n
  induction n with
  | zero => intro k a h1; omega
  | succ n ih =>
    intro k a h1 h2 h3
    have p5 : 7 ^ (5 - k) ≤ 16807 := Nat.pow_le_pow_right (by decide) (show 5 - k ≤ 5 by omega)
    rw [mm_bitten_L5]
    by_cases e : k = 0
    · subst e
      rw [if_pos (by decide)]
      exact s_some ⟨by rw [nI_toInt (by omega)]; omega, by rw [nI_toInt (by omega)]; omega⟩
    · obtain ⟨m, rfl⟩ : ∃ m, k = m + 1 := ⟨k - 1, by omega⟩
      rw [nI_pred]
      rw [if_neg (show ¬ nI m < 0 by
        rw [Int32.lt_iff_toInt_lt, nI_toInt (by omega)]
        simp only [show (0 : Int32).toInt = 0 from rfl]
        omega)]
      have em : nI m + (-1) = nI m - 1 := by rw [Int32.sub_eq_add_neg]
      have pw : 7 ^ (5 - m) = 7 * 7 ^ (5 - (m + 1)) := by rw [show 5 - m = (5 - (m + 1)) + 1 by omega, Nat.pow_succ, Nat.mul_comm]
      have fin : ∀ r : Int32, R 0 6 r → Sf (mm_bitten_L5 p1 p2 h n ((7 * nI a) + r) (nI m + (-1))) (fun r => R 0 16806 r) := fun r fr => by
        obtain ⟨q, q1, q2, rfl⟩ := nat_of fr (by decide)
        rw [em, show (7 : Int32) * nI a = nI (7 * a) from nI_mul 7 a, nI_add]
        exact ih m (7 * a + q) (by omega) (by omega) (by omega)
      have fs : R 0 6 (h 147 (ix (nI m))) := by rw [show ix (nI m) = m from nI_clamp (by omega)]; exact sl m (by omega)
      refine s_if (fun _ => ?_) (fun _ => ?_)
      · rw [ck_nI (by omega) (by decide)]
        refine s_bd (P := fun r => R 0 6 r) ?_ (fun r fr => ?_)
        · unfold mm_lesser
          exact s_if (fun _ => s_some f2) (fun _ => s_some fs)
        · rw [lt_e]
          exact fin r fr
      · rw [ck_nI (by omega) (by decide), lt_e]
        exact fin _ fs
theorem gs_bit (p1 p2 : Int32) (f2 : R 0 6 p2) (h : PH) (sl : SL h) : Sf (mm_bitten p1 p2 h) (fun r => R 0 16806 r) := gs_bit5 p1 p2 f2 h sl FU 5 0 (by unfold FU; omega) (by omega) (by decide)
theorem gs_good9 (m : Nat) (hm : m < 5) (h : PH) (sl : SL h) (k0 : Option Int32) (hk0 : Sf k0 (fun _ => True)) : ∀ (n k : Nat), 6 < n + k → k ≤ 6 → Sf (mm_goodBite_L9 (nI m) h k0 n (nI k)) (fun _ => True) := by
  intro n
  induction n with
  | zero => intro k h1 h2; omega
  | succ n ih =>
    intro k h1 h2
    rw [mm_goodBite_L9, ck_nI (by omega) (by decide), show ix (nI m) = m from nI_clamp (by omega)]
    refine s_if (fun _ => hk0) (fun c => ?_)
    have c2 := nle_lt c
    rw [Int32.lt_iff_toInt_lt, nI_toInt (by omega)] at c2
    have f6 := (sl m hm).2
    have go : Sf (mm_goodBite_L9 (nI m) h k0 n (nI k + 1)) (fun _ => True) := by
      rw [nI_1]
      exact ih (k + 1) (by omega) (by omega)
    refine s_if (fun _ => go) (fun _ => ?_)
    refine s_bd (gs_bit (nI m) (nI k) ⟨by rw [nI_toInt (by omega)]; omega, by rw [nI_toInt (by omega)]; omega⟩ h sl) (fun r fr => ?_)
    exact s_ck fr (by decide) (s_if (fun _ => s_some trivial) (fun _ => go))
theorem gs_good2 (h : PH) (sl : SL h) : ∀ (n k : Nat), 5 < n + k → k ≤ 5 → Sf (mm_goodBite_L2 h n (nI k)) (fun _ => True) := by
  intro n
  induction n with
  | zero => intro k h1 h2; omega
  | succ n ih =>
    intro k h1 h2
    rw [mm_goodBite_L2]
    by_cases e : k = 5
    · subst e
      rw [if_pos (by decide)]
      exact s_some trivial
    · rw [if_neg (show ¬ (5 : Int32) ≤ nI k from nI_ge (b := 5) (by omega) (by omega)), nI_1]
      have := gs_good9 k (by omega) h sl _ (ih (k + 1) (by omega) (by omega)) FU 0 (by unfold FU; omega) (by omega)
      rw [nI_0] at this
      exact this
theorem gs_good (h : PH) (sl : SL h) : Sf (mm_goodBite h) (fun _ => True) := by
  have := gs_good2 h sl FU 0 (by unfold FU; omega) (by omega)
  rw [nI_0] at this
  exact this
theorem gs_55 (a : Nat) (ha : a < 16807) (k0 : PH → Option (Int32 × PH)) {Q : Int32 × PH → Prop} (hk0 : ∀ g, IM g → Sf (k0 g) Q) : ∀ (n k : Nat) (h : PH), a + 1 < n + k → k ≤ a + 1 → IM h → Sf (mm_game_L55 (nI a) k0 n (nI k) h) Q := by
  intro n
  induction n with
  | zero => intro k h h1 h2; omega
  | succ n ih =>
    intro k h h1 h2 i
    rw [mm_game_L55]
    refine s_if (fun _ => hk0 h i) (fun c => ?_)
    have c2 := nlt_le c
    rw [Int32.le_iff_toInt_le, nI_toInt (by omega), nI_toInt (by omega)] at c2
    refine s_bd (gs_take (nI k) h ⟨by rw [nI_toInt (by omega)]; omega, by rw [nI_toInt (by omega)]; omega⟩ i) (fun h6 q => ?_)
    obtain ⟨i6, s6⟩ := q
    refine s_bd (x := mm_isSlab h6) (gs_is h6 FU 1 (by unfold FU; omega) (by omega) (by omega)) (fun r7 _ => ?_)
    refine s_jn1 (P := fun _ => True) (fun x9 _ => ?_) (fun j8 kj => ?_)
    · rw [ck_nI (by omega) (by decide), lt_e, nI_1]
      exact ih (k + 1) _ (by omega) (by omega) (im146 i6 _)
    · refine s_if (fun _ => kj _ trivial) (fun _ => ?_)
      exact s_bd (gs_good h6 s6) (fun r _ => s_if (fun _ => kj _ trivial) (fun _ => kj _ trivial))
theorem gs_33 (p1 p2 : Int32) (f1 : R 1 5 p1) (f2 : R 1 6 p2) (h : PH) (k0 : Int32 → Option (Int32 × PH)) {Q : Int32 × PH → Prop} (hk0 : ∀ a, a < 16807 → Sf (k0 (nI a)) Q) : ∀ (n k a : Nat), 5 < n + k → k ≤ 5 → a < 7 ^ k → Sf (mm_game_L33 p1 p2 h k0 n (nI a) (nI k)) Q := by
  intro n
  induction n with
  | zero => intro k a h1 h2; omega
  | succ n ih =>
    intro k a h1 h2 h3
    have p5 : 7 ^ k ≤ 16807 := Nat.pow_le_pow_right (by decide) (show k ≤ 5 by omega)
    rw [mm_game_L33]
    refine s_if (fun _ => hk0 a (by omega)) (fun c => ?_)
    have c2 := nle_lt c
    rw [Int32.lt_iff_toInt_lt, nI_toInt (by omega)] at c2
    have := f1.2
    obtain ⟨q, q1, q2, rfl⟩ := nat_of f2 (by decide)
    rw [lt_e, nI_1, show (7 : Int32) * nI a = nI (7 * a) from nI_mul 7 a, nI_add]
    exact ih (k + 1) (7 * a + q) (by omega) (by omega) (by rw [Nat.pow_succ]; omega)
theorem game_model (a b : Int32) (h : PH) (i : IM h) : Sf (mm_game a b h) (fun r => IM r.2 ∧ True ∧ True) := by
  unfold mm_game
  rw [lt_e]
  have i1 : IM (up h 104 0 0) := im_put i (show sp 104 0 = (-2147483648, 2147483647) from rfl) (r_full _) (by decide)
  refine s_isin (fun r2 _ w2 => s_if (fun _ => s_some ⟨i1, trivial, trivial⟩) (fun n2 => ?_))
  refine s_isin (fun r3 _ w3 => s_if (fun _ => s_some ⟨i1, trivial, trivial⟩) (fun n3 => ?_))
  have f1 : R 1 5 a := by
    obtain ⟨q1, q2⟩ := w2 n2
    rw [Int32.le_iff_toInt_le] at q1 q2
    exact ⟨q1, q2⟩
  have f2 : R 1 6 b := by
    obtain ⟨q1, q2⟩ := w3 n3
    rw [Int32.le_iff_toInt_le] at q1 q2
    exact ⟨q1, q2⟩
  have key := gs_33 a b f1 f2 (up h 104 0 0) (fun (x5 : Int32) => mm_game_L55 x5 (fun (h12 : PH) => bd (mm_takesSlab x5 h12) fun h13 => bd (mm_goodBite h13) fun r14 => some (r14, h13)) FU 1 (up h 104 0 0)) (Q := fun r => IM r.2 ∧ True ∧ True) (fun c hc => by
    refine gs_55 c hc _ (fun g ig => ?_) FU 1 _ (by unfold FU; omega) (by omega) i1
    refine s_bd (gs_take (nI c) g ⟨by rw [nI_toInt (by omega)]; omega, by rw [nI_toInt (by omega)]; omega⟩ ig) (fun h13 q => ?_)
    exact s_bd (gs_good h13 q.2) (fun r _ => s_some ⟨q.1, trivial, trivial⟩)) FU 0 0 (by unfold FU; omega) (by omega) (by decide)
  rw [nI_0] at key
  exact key
