/-! PLATE answers alike -/
theorem imin_c (x y : Int32) : imin x y = imin y x := by
  unfold imin
  by_cases c1 : y < x
  · rw [if_pos c1, if_neg (Int32.not_lt.mpr (Int32.le_of_lt c1))]
  · by_cases c2 : x < y
    · rw [if_neg c1, if_pos c2]
    · rw [if_neg c1, if_neg c2]
      exact Int32.le_antisymm (Int32.not_lt.mp c1) (Int32.not_lt.mp c2)
theorem greater_eq (x y : Int32) (h : PH) : mm_greater x y h = some (imax x y) := by
  unfold mm_greater imax
  by_cases c1 : x < y
  · rw [if_pos (Int32.le_of_lt c1), if_pos c1]
  · by_cases c2 : x ≤ y
    · rw [if_pos c2, if_neg c1, Int32.le_antisymm c2 (Int32.not_lt.mp c1)]
    · rw [if_neg c2, if_neg c1]
def ps (X : Nat → Int32) (a : Nat) : Nat → Int32
  | 0 => 0
  | d + 1 => ps X a d + X (a + d)
theorem ps_r {X : Nat → Int32} {n : Nat} (hn : n ≤ 9) (hX : ∀ k, k < n → R 0 99 (X k)) (a : Nat) : ∀ d, a + d ≤ n → R 0 (99 * (d : Int)) (ps X a d) := by
  intro d
  induction d with
  | zero => intro _; exact (show R 0 (99 * ((0 : Nat) : Int)) (0 : Int32) from ⟨by decide, by decide⟩)
  | succ d ih =>
    intro hd
    have r1 := ih (by omega)
    have r2 := hX (a + d) (by omega)
    have e := i_add r1 r2 (by omega)
    obtain ⟨a1, a2⟩ := r1
    obtain ⟨b1, b2⟩ := r2
    rw [ps]
    exact ⟨by omega, by omega⟩
def aF (X : Nat → Int32) (g : Nat → Int32) (f : Nat) : Nat → Int32
  | 0 => -1
  | d + 1 => imax (aF X g f d) (imin (ps X f (d + 1)) (g (f + d + 1)))
def dpl (X : Nat → Int32) (n : Nat) : Nat → Nat → Int32
  | 0, f => if f = n then 100000000 else -1
  | k + 1, f => aF X (dpl X n k) f (n - f)
theorem imax_lo {x y : Int32} (h : -1 ≤ x.toInt) : -1 ≤ (imax x y).toInt := by
  unfold imax
  split
  · rename_i c
    rw [Int32.lt_iff_toInt_lt] at c
    omega
  · exact h
theorem aF_lo (X g : Nat → Int32) (f : Nat) : ∀ d, -1 ≤ (aF X g f d).toInt := by
  intro d
  induction d with
  | zero => exact (by decide : (-1 : Int) ≤ (-1 : Int32).toInt)
  | succ d ih => rw [aF]; exact imax_lo ih
theorem imin_m1 {x : Int32} (h : 0 ≤ x.toInt) : imin x (-1) = -1 := by
  unfold imin
  rw [if_pos (by rw [Int32.lt_iff_toInt_lt]; simp only [show (-1 : Int32).toInt = -1 from rfl]; omega)]
theorem imax_m1 {x : Int32} (h : -1 ≤ x.toInt) : imax x (-1) = x := by
  unfold imax
  rw [if_neg (by rw [Int32.lt_iff_toInt_lt]; simp only [show (-1 : Int32).toInt = -1 from rfl]; omega)]
theorem aF_tail {X g : Nat → Int32} {f n : Nat} (hp : ∀ d, f + d ≤ n → 0 ≤ (ps X f d).toInt) (d0 : Nat) : ∀ e, f + d0 + e ≤ n → (∀ j, j < e → g (f + (d0 + j) + 1) = -1) → aF X g f (d0 + e) = aF X g f d0 := by
  intro e
  induction e with
  | zero => intro _ _; rfl
  | succ e ih =>
    intro he hg
    rw [show d0 + (e + 1) = (d0 + e) + 1 by omega, aF, hg e (by omega), imin_m1 (hp _ (by omega)), imax_m1 (aF_lo X g f _)]
    exact ih (by omega) (fun j hj => hg j (by omega))
theorem dpl_inf {X : Nat → Int32} {n : Nat} (hp : ∀ f d, f + d ≤ n → 0 ≤ (ps X f d).toInt) : ∀ k f, f ≤ n → n < f + (k + 1) → dpl X n (k + 1) f = -1 := by
  intro k
  induction k with
  | zero =>
    intro f h1 h2
    have : n - f = 0 := by omega
    rw [dpl, this, aF]
  | succ k ih =>
    intro f h1 h2
    rw [dpl]
    have := aF_tail (X := X) (g := dpl X n (k + 1)) (f := f) (n := n) (fun d hd => hp f d hd) 0 (n - f) (by omega) (fun j hj => ih _ (by omega) (by omega))
    rw [Nat.zero_add] at this
    rw [this, aF]
theorem dpl_1 {X : Nat → Int32} {n : Nat} (hp : ∀ f d, f + d ≤ n → 0 ≤ (ps X f d).toInt ∧ (ps X f d).toInt ≤ 1000) (f : Nat) (hf : f < n) : dpl X n 1 f = ps X f (n - f) := by
  rw [dpl]
  obtain ⟨m, hm⟩ : ∃ m, n - f = m + 1 := ⟨n - f - 1, by omega⟩
  rw [hm, aF]
  have t := aF_tail (X := X) (g := dpl X n 0) (f := f) (n := n) (fun d hd => (hp f d hd).1) 0 m (by omega) (fun j hj => by rw [dpl, if_neg (by omega)])
  rw [Nat.zero_add] at t
  rw [t, aF, dpl, if_pos (by omega)]
  obtain ⟨p1, p2⟩ := hp f (m + 1) (by omega)
  have e1 : imin (ps X f (m + 1)) 100000000 = ps X f (m + 1) := by
    unfold imin
    rw [if_neg (by rw [Int32.lt_iff_toInt_lt]; simp only [show (100000000 : Int32).toInt = 100000000 from rfl]; omega)]
  rw [e1]
  unfold imax
  rw [if_pos (by rw [Int32.lt_iff_toInt_lt]; simp only [show (-1 : Int32).toInt = -1 from rfl]; omega)]
/-! the class's recursion -/
theorem at18 {h : PH} (i : Inv h) {n k : Nat} (hn : n ≤ 9) (en : h 18 3 = nI n) (hk : k < n) : mR_at 18 (nI k) 0 h = some (h 19 k) := by
  have := at_row (a := 18) (m := 9) (w := 1) rfl rfl (by decide) (by decide) i (c := 0) en hn hk (by decide)
  rw [nI_0, show k * 1 + 0 = k by omega] at this
  exact this
theorem ls10 (h : PH) (i : Inv h) (n : Nat) (hn : n ≤ 9) (en : h 18 3 = nI n) (f0 : Nat → Int32 → Int32 → PH → Option Int32) (f : Nat) : ∀ (u d : Nat), n < u + (f + d) → f + d ≤ n → mK_leastShare_L10 18 f0 h u (ps (h 19) f d) (nI (f + d)) = some (ps (h 19) f (n - f)) := by
  intro u
  induction u with
  | zero => intro d h1 h2; omega
  | succ u ih =>
    intro d h1 h2
    rw [mK_leastShare_L10, en]
    by_cases e : f + d = n
    · rw [e, if_pos (nI_le (Nat.le_refl _) (by omega)), show n - f = d by omega]
    · rw [if_neg (nI_ge (by omega) (by omega)), at18 i hn en (by omega), bd_e, lt_e, nI_1]
      have := ih (d + 1) (by omega) (by omega)
      rw [ps] at this
      exact this
theorem ls45 (h : PH) (i : Inv h) (n : Nat) (hn : n ≤ 9) (en : h 18 3 = nI n) (f0 : Nat → Int32 → Int32 → PH → Option Int32) (k f : Nat) (hk : k + 2 ≤ n) (G : Nat → Int32) (hG : ∀ v, f < v → v ≤ n - (k + 1) → f0 18 (nI v) (nI (k + 1)) h = some (G v)) : ∀ (u d : Nat), n < u + (f + d) → f + d ≤ n - (k + 1) ∨ d = 0 → f + d ≤ n → mK_leastShare_L45 18 (nI (k + 2)) f0 h u (ps (h 19) f d) (aF (h 19) G f d) (nI (f + d + 1)) = some (aF (h 19) G f (d + (n - (k + 1) - (f + d)))) := by
  intro u
  induction u with
  | zero => intro d h1 h2 h3; omega
  | succ u ih =>
    intro d h1 h2 h3
    have e1 : nI (k + 2) - 1 = nI (k + 1) := nI_pred (k + 1)
    rw [mK_leastShare_L45, en, e1, nI_sub (by omega)]
    by_cases e : n - (k + 1) ≤ f + d
    · rw [if_pos (nI_lt (by omega) (by omega)), show n - (k + 1) - (f + d) = 0 by omega, Nat.add_zero]
    · rw [if_neg (by rw [Int32.lt_iff_toInt_lt, nI_toInt (by omega), nI_toInt (by omega)]; omega), nI_pred, at18 i hn en (by omega), bd_e, lt_e, hG (f + d + 1) (by omega) (by omega), bd_e, lt_e, nI_1]
      have := ih (d + 1) (by omega) (Or.inl (by omega)) (by omega)
      rw [ps, aF] at this
      rw [show f + (d + 1) + 1 = f + d + 1 + 1 by omega, show d + 1 + (n - (k + 1) - (f + (d + 1))) = d + (n - (k + 1) - (f + d)) by omega] at this
      exact this
theorem ls_all (h : PH) (i : Inv h) (n : Nat) (hn : n ≤ 9) (en : h 18 3 = nI n) (hX : ∀ k, k < n → R 0 99 (h 19 k)) : ∀ (k f u : Nat), k + 1 ≤ n → f ≤ n → (1 ≤ k ∨ f < n) → k + 1 ≤ u → mK_leastShare u 18 (nI f) (nI (k + 1)) h = some (dpl (h 19) n (k + 1) f) := by
  have hp : ∀ f d, f + d ≤ n → 0 ≤ (ps (h 19) f d).toInt ∧ (ps (h 19) f d).toInt ≤ 1000 := fun f d hd => by
    have := ps_r hn hX f d hd
    obtain ⟨p1, p2⟩ := this
    exact ⟨p1, by omega⟩
  intro k
  induction k with
  | zero =>
    intro f u h1 h2 h3 h4
    obtain ⟨v, rfl⟩ : ∃ v, u = v + 1 := ⟨u - 1, by omega⟩
    show mK_leastShare_F (mK_leastShare v) 18 (nI f) (nI (0 + 1)) h = _
    unfold mK_leastShare_F
    rw [if_neg (by decide)]
    have := ls10 h i n hn en (mK_leastShare v) f FU 0 (by unfold FU; omega) (by omega)
    rw [Nat.add_zero] at this
    rw [dpl_1 hp f (by omega)]
    exact this
  | succ k ih =>
    intro f u h1 h2 h3 h4
    obtain ⟨v, rfl⟩ : ∃ v, u = v + 1 := ⟨u - 1, by omega⟩
    show mK_leastShare_F (mK_leastShare v) 18 (nI f) (nI (k + 1 + 1)) h = _
    unfold mK_leastShare_F
    rw [if_pos (show (1 : Int32) < nI (k + 1 + 1) from nI_lt (a := 1) (by omega) (by omega)), lt_e, nI_1]
    have := ls45 h i n hn en (mK_leastShare v) k f (by omega) (dpl (h 19) n (k + 1)) (fun w w1 w2 => ih w v (by omega) (by omega) (by omega) (by omega)) FU 0 (by unfold FU; omega) (Or.inr rfl) (by omega)
    rw [Nat.add_zero, Nat.zero_add] at this
    refine Eq.trans this ?_
    congr 1
    rw [show dpl (h 19) n (k + 1 + 1) f = aF (h 19) (dpl (h 19) n (k + 1)) f (n - f) from rfl]
    have t := aF_tail (X := h 19) (g := dpl (h 19) n (k + 1)) (f := f) (n := n) (fun d hd => (hp f d hd).1) (n - (k + 1) - f) (n - f - (n - (k + 1) - f)) (by omega) (fun j hj => dpl_inf (fun f d hd => (hp f d hd).1) k _ (by omega) (by omega))
    rw [show n - (k + 1) - f + (n - f - (n - (k + 1) - f)) = n - f by omega] at t
    exact t.symm
theorem ss19 (h : PH) (i : Inv h) (n : Nat) (hn : n ≤ 9) (en : h 18 3 = nI n) (hX : ∀ k, k < n → R 0 99 (h 19 k)) (k : Nat) (hk : k + 2 ≤ n) (p2 : Int32) (g : PH) (eg : g 104 42 = nI n) (hY : ∀ j, j < n → g 127 j = h 19 j) (hD : ∀ f, f ≤ n → g 128 (10 * (k + 1) + f) = dpl (h 19) n (k + 1) f) (po : ∀ d, d ≤ n → mm_piecesOver 0 (nI d) g = some (ps (h 19) 0 d)) : ∀ (u d : Nat), n < u + d → d + 1 ≤ n → ∃ r, mK_secondShare_L19 18 (nI (k + 2)) p2 h u (ps (h 19) 0 d) (nI (d + 1)) = some r ∧ mm_plate_L53 (nI (k + 2)) p2 g u (nI (d + 1)) = some (r, g) := by
  intro u
  induction u with
  | zero => intro d h1 h2; omega
  | succ u ih =>
    intro d h1 h2
    have e1 : nI (k + 2) - 1 = nI (k + 1) := nI_pred (k + 1)
    rw [mK_secondShare_L19, mm_plate_L53, en, eg]
    by_cases e : d + 1 = n
    · rw [e, if_pos (nI_le (Nat.le_refl _) (by omega)), if_pos (nI_le (Nat.le_refl _) (by omega))]
      exact ⟨-1, rfl, rfl⟩
    · have l1 : ¬ nI n ≤ nI (d + 1) := nI_ge (by omega) (by omega)
      have l2 : ¬ nI (k + 2) ≤ 1 := nI_ge (a := 1) (by omega) (by omega)
      have e10 : (10 : Int32) * nI (k + 1) + nI (d + 1) = nI (10 * (k + 1) + (d + 1)) := by rw [show (10 : Int32) * nI (k + 1) = nI (10 * (k + 1)) from nI_mul 10 (k + 1)]; exact nI_add _ _
      rw [if_neg l1, if_neg l1, if_neg l2, nI_pred, at18 i hn en (by omega), bd_e, lt_e, e1, ls_all h i n hn en hX k (d + 1) 30 (by omega) (by omega) (by omega) (by omega), bd_e, po (d + 1) (by omega), bd_e, e10, ck_nI (by omega) (by decide), show ix (nI (10 * (k + 1) + (d + 1))) = 10 * (k + 1) + (d + 1) from nI_clamp (by omega), hD (d + 1) (by omega), lesser_eq, bd_e, imin_c (dpl (h 19) n (k + 1) (d + 1)), show ps (h 19) 0 (d + 1) = ps (h 19) 0 d + h 19 (0 + d) from rfl, Nat.zero_add]
      by_cases c : imin (ps (h 19) 0 d + h 19 d) (dpl (h 19) n (k + 1) (d + 1)) = p2
      · rw [if_pos c, if_pos c]
        exact ⟨_, rfl, rfl⟩
      · rw [if_neg c, if_neg c, nI_1]
        have := ih (d + 1) (by omega) (by omega)
        rw [show ps (h 19) 0 (d + 1) = ps (h 19) 0 d + h 19 (0 + d) from rfl, Nat.zero_add] at this
        exact this
/-! the model's table -/
theorem po_go (X : Nat → Int32) (n : Nat) (hn : n ≤ 9) (g : PH) (hY : ∀ j, j < n → g 127 j = X j) (a b : Nat) (hab : a ≤ b) (hb : b ≤ n) : ∀ (u d : Nat), b < u + (a + d) → a + d ≤ b → mm_piecesOver_L5 (nI b) g u (ps X a d) (nI (a + d)) = some (ps X a (b - a)) := by
  intro u
  induction u with
  | zero => intro d h1 h2; omega
  | succ u ih =>
    intro d h1 h2
    rw [mm_piecesOver_L5]
    by_cases e : a + d = b
    · rw [e, if_pos (nI_le (Nat.le_refl _) (by omega)), show b - a = d by omega]
    · rw [if_neg (nI_ge (by omega) (by omega)), ck_nI (by omega) (by decide), lt_e, show ix (nI (a + d)) = a + d from nI_clamp (by omega), hY (a + d) (by omega), nI_1]
      have := ih (d + 1) (by omega) (by omega)
      rw [ps] at this
      exact this
theorem po_at (X : Nat → Int32) (n : Nat) (hn : n ≤ 9) (g : PH) (hY : ∀ j, j < n → g 127 j = X j) (a b : Nat) (hab : a ≤ b) (hb : b ≤ n) : mm_piecesOver (nI a) (nI b) g = some (ps X a (b - a)) := by
  have := po_go X n hn g hY a b hab hb FU 0 (by unfold FU; omega) (by omega)
  rw [Nat.add_zero] at this
  exact this
theorem fs43 (X : Nat → Int32) (n : Nat) (hn : n ≤ 9) (g : PH) (eg : g 104 42 = nI n) (hY : ∀ j, j < n → g 127 j = X j) (k f : Nat) (hk : k < 9) (hf : f ≤ n) (hD : ∀ f, f ≤ n → g 128 (10 * k + f) = dpl X n k f) (k0 : Int32 → Option PH) : ∀ (u d : Nat), n < u + (f + d) → f + d ≤ n → mm_findsShares_L43 (nI (k + 1)) (nI f) g k0 u (aF X (dpl X n k) f d) (nI (f + d + 1)) = k0 (aF X (dpl X n k) f (n - f)) := by
  intro u
  induction u with
  | zero => intro d h1 h2; omega
  | succ u ih =>
    intro d h1 h2
    rw [mm_findsShares_L43, eg]
    by_cases e : f + d = n
    · rw [if_pos (nI_lt (by omega) (by omega)), show n - f = d by omega]
    · have e10 : (10 : Int32) * nI k + nI (f + d + 1) = nI (10 * k + (f + d + 1)) := by rw [show (10 : Int32) * nI k = nI (10 * k) from nI_mul 10 k]; exact nI_add _ _
      rw [if_neg (by rw [Int32.lt_iff_toInt_lt, nI_toInt (by omega), nI_toInt (by omega)]; omega), if_neg (show ¬ nI (k + 1) ≤ 0 from nI_ge (a := 0) (by omega) (by omega)), po_at X n hn g hY f (f + d + 1) (by omega) (by omega), bd_e, nI_pred, e10, ck_nI (by omega) (by decide), show ix (nI (10 * k + (f + d + 1))) = 10 * k + (f + d + 1) from nI_clamp (by omega), hD (f + d + 1) (by omega), lesser_eq, bd_e, greater_eq, bd_e, nI_1, imin_c (dpl X n k (f + d + 1)), show f + d + 1 - f = d + 1 by omega]
      have := ih (d + 1) (by omega) (by omega)
      rw [aF] at this
      rw [show f + (d + 1) + 1 = f + d + 1 + 1 by omega] at this
      exact this
def DT (X : Nat → Int32) (n k f : Nat) (g : PH) : Prop := g 104 42 = nI n ∧ (∀ j, j < n → g 127 j = X j) ∧ (∀ k' f', k' < k → f' ≤ n → g 128 (10 * k' + f') = dpl X n k' f') ∧ ∀ f', f' < f → g 128 (10 * k + f') = dpl X n k f'
theorem fs10 (X : Nat → Int32) (n : Nat) (hn : n ≤ 9) (k : Nat) (hk : k < 10) (k0 : PH → Option PH) {Q : PH → Prop} (hk0 : ∀ g, DT X n (k + 1) 0 g → Sf (k0 g) Q) : ∀ (u f : Nat) (g : PH), n + 1 < u + f → f ≤ n + 1 → DT X n k f g → Sf (mm_findsShares_L10 (nI k) k0 u (nI f) g) Q := by
  intro u
  induction u with
  | zero => intro f g h1 h2; omega
  | succ u ih =>
    intro f g h1 h2 st
    obtain ⟨s1, s2, s3, s4⟩ := st
    rw [mm_findsShares_L10, s1]
    by_cases e : f = n + 1
    · rw [if_pos (nI_lt (by omega) (by omega))]
      refine hk0 g ⟨s1, s2, fun k' f' h1 h2 => ?_, fun f' h1 => by omega⟩
      by_cases ek : k' = k
      · subst ek; exact s4 f' (by omega)
      · exact s3 k' f' (by omega) h2
    · rw [if_neg (by rw [Int32.lt_iff_toInt_lt, nI_toInt (by omega), nI_toInt (by omega)]; omega), jn1_e]
      have e10 : (10 : Int32) * nI k + nI f = nI (10 * k + f) := by rw [show (10 : Int32) * nI k = nI (10 * k) from nI_mul 10 k]; exact nI_add _ _
      have put : Sf (ck ((10 : Int32) * nI k + nI f) 100 <| lt (up g 128 (ix ((10 : Int32) * nI k + nI f)) (dpl X n k f)) fun h8 => mm_findsShares_L10 (nI k) k0 u (nI f + 1) h8) Q := by
        rw [e10, ck_nI (by omega) (by decide), lt_e, nI_1, show ix (nI (10 * k + f)) = 10 * k + f from nI_clamp (by omega)]
        refine ih (f + 1) _ (by omega) (by omega) ⟨by rw [up_oc (by decide)]; exact s1, fun j hj => by rw [up_oc (by decide)]; exact s2 j hj, fun k' f' h1 h2 => ?_, fun f' h1 => ?_⟩
        · rw [up_oj (by omega)]; exact s3 k' f' h1 h2
        · by_cases ef : f' = f
          · subst ef; exact up_same
          · rw [up_oj (by omega)]; exact s4 f' (by omega)
      cases k with
      | zero =>
        have base : ∀ x : Int32, x = dpl X n 0 f → Sf (lt (nI f + 1) fun x3 => mm_findsShares_L43 (nI 0) (nI f) g (fun (x7 : Int32) => ck ((10 * nI 0) + nI f) 100 <| lt (up g 128 (ix ((10 * nI 0) + nI f)) x7) fun h8 => mm_findsShares_L10 (nI 0) k0 u (nI f + 1) h8) FU x x3) Q := fun x hx => by
          rw [lt_e, show FU = 99999 + 1 from rfl, mm_findsShares_L43, if_pos (show nI 0 ≤ 0 by decide), ite_self, hx]
          exact put
        rw [if_pos (show nI 0 = 0 from rfl)]
        by_cases ef : f = n
        · rw [if_pos (by rw [ef])]
          exact base _ (by rw [dpl, if_pos ef])
        · rw [if_neg (fun q => ef ((nI_eq (by omega) (by omega)).mp q))]
          exact base _ (by rw [dpl, if_neg ef])
      | succ k =>
        rw [if_neg (fun q => by
          have : (nI (k + 1)).toInt = 0 := by rw [q]; rfl
          rw [nI_toInt (by omega)] at this
          omega)]
        dsimp only
        rw [lt_e, nI_1]
        have := fs43 X n hn g s1 s2 k f (by omega) (by omega) (fun f' hf => s3 k f' (by omega) hf) (fun (x7 : Int32) => ck ((10 * nI (k + 1)) + nI f) 100 <| lt (up g 128 (ix ((10 * nI (k + 1)) + nI f)) x7) fun h8 => mm_findsShares_L10 (nI (k + 1)) k0 u (nI (f + 1)) h8) FU 0 (by unfold FU; omega) (by omega)
        rw [Nat.add_zero, show aF X (dpl X n k) f 0 = -1 from rfl] at this
        rw [this]
        rw [nI_1] at put
        exact put
theorem fs2 (X : Nat → Int32) (n : Nat) (hn : n ≤ 9) : ∀ (u k : Nat) (g : PH), 10 < u + k → k ≤ 10 → DT X n k 0 g → Sf (mm_findsShares_L2 u (nI k) g) (fun g' => DT X n 10 0 g') := by
  intro u
  induction u with
  | zero => intro k g h1 h2; omega
  | succ u ih =>
    intro k g h1 h2 st
    rw [mm_findsShares_L2]
    by_cases e : k = 10
    · subst e
      rw [if_pos (by decide)]
      exact s_some st
    · rw [if_neg (show ¬ (10 : Int32) ≤ nI k from nI_ge (b := 10) (by omega) (by omega))]
      have := fs10 X n hn k (by omega) (fun (h9 : PH) => mm_findsShares_L2 u (nI k + 1) h9) (Q := fun g' => DT X n 10 0 g') (fun g' st' => by
        rw [nI_1]
        exact ih (k + 1) g' (by omega) (by omega) st') FU 0 g (by unfold FU; omega) (by omega) st
      rw [nI_0] at this
      exact this
theorem ag_plate (a1 a2 : Int32) (h : PH) (i : IM h) (rl : RLA h) {rX rm : Int32} {h2 : PH} (e1 : mX_plate a1 a2 h = some rX) (e2 : mm_plate a1 a2 h = some (rm, h2)) : rX = rm := by
  have z01 : ¬ (1 : Int32) = 0 := by decide
  obtain ⟨n, n1, n2, en⟩ := nat_of (show R 0 9 (h 18 3) from inv_rng i.1 rfl) (by decide)
  have own : LS_piece h := rl.1.1
  unfold LS_piece at own
  have hX : ∀ k, k < n → R 0 99 (h 19 k) := fun k hk => (own.2 k (by rw [en, nI_toInt n2]; omega)).2
  have em : up h 104 0 0 104 42 = nI n := by rw [up_oj (by decide), ← own.1]; exact en
  unfold mX_plate at e1
  unfold mm_plate at e2
  rw [en] at e1
  rw [lt_e, em] at e2
  by_cases f1 : 1 ≤ a1 ∧ a1 ≤ nI n
  · rw [within_y f1, bd_e, if_neg z01] at e1
    rw [isIn_y f1, bd_e, if_neg z01] at e2
    by_cases f2 : 0 ≤ a2 ∧ a2 ≤ 1
    · rw [within_y f2, bd_e, if_neg z01] at e1
      rw [isIn_y f2, bd_e, if_neg z01] at e2
      obtain ⟨k, k1, k2, ek⟩ := nat_of (rng_of (x := 1) (y := (n : Int)) rfl (nI_toInt n2) f1) (by decide)
      have kp : 1 ≤ k := by
        have := f1.1
        rw [ek, Int32.le_iff_toInt_le, nI_toInt k2] at this
        simp only [show (1 : Int32).toInt = 1 from rfl] at this
        omega
      obtain ⟨m, rfl⟩ : ∃ m, k = m + 1 := ⟨k - 1, by omega⟩
      have key := fs2 (h 19) n (by omega) FU 0 (up h 104 0 0) (by unfold FU; omega) (by omega) ⟨em, fun j hj => by rw [up_oc (by decide)]; exact (own.2 j (by rw [en, nI_toInt n2]; omega)).1.symm, fun k' f' h1 => by omega, fun f' h1 => by omega⟩
      rw [nI_0] at key
      obtain ⟨g, eg, s1, s2, s3, -⟩ := key
      have eg : mm_findsShares (up h 104 0 0) = some g := eg
      have e10 : (10 : Int32) * nI (m + 1) = nI (10 * (m + 1)) := nI_mul 10 (m + 1)
      have v := s3 (m + 1) 0 (by omega) (by omega)
      rw [Nat.add_zero] at v
      rw [eg, bd_e, ek, e10, ck_nI (by omega) (by decide), lt_e, show ix (nI (10 * (m + 1))) = 10 * (m + 1) from nI_clamp (by omega), v] at e2
      have la := ls_all h i.1 n (by omega) en hX m 0 30 (by omega) (by omega) (by omega) (by omega)
      rw [nI_0] at la
      by_cases c : a2 = 0
      · rw [if_pos c, ek, la, bd_e] at e1
        rw [if_pos c] at e2
        cases e1
        cases e2
        rfl
      · rw [if_neg c, ek] at e1
        rw [if_neg c] at e2
        unfold mK_secondShare at e1
        cases m with
        | zero =>
          rw [if_neg (by decide), bd_e] at e1
          rw [show FU = 99999 + 1 from rfl, mm_plate_L53, if_pos (show nI (0 + 1) ≤ 1 by decide), ite_self] at e2
          cases e1
          cases e2
          rfl
        | succ m =>
          rw [if_pos (show (1 : Int32) < nI (m + 1 + 1) from nI_lt (a := 1) (by omega) (by omega)), la, bd_e] at e1
          obtain ⟨r, q1, q2⟩ := ss19 h i.1 n (by omega) en hX m (by omega) (dpl (h 19) n (m + 1 + 1) 0) g s1 s2 (fun f hf => s3 (m + 1) f (by omega) hf) (fun d hd => by
            have := po_at (h 19) n (by omega) g s2 0 d (by omega) hd
            rw [nI_0, Nat.sub_zero] at this
            exact this) FU 0 (by unfold FU; omega) (by omega)
          rw [Nat.zero_add, show nI 1 = (1 : Int32) from rfl, show ps (h 19) 0 0 = 0 from rfl] at q1
          rw [Nat.zero_add, show nI 1 = (1 : Int32) from rfl] at q2
          rw [q1, bd_e] at e1
          rw [q2] at e2
          cases e1
          cases e2
          rfl
    · rw [within_n f2, bd_e, if_pos rfl] at e1
      rw [isIn_n f2, bd_e, if_pos rfl] at e2
      cases e1
      cases e2
      rfl
  · rw [within_n f1, bd_e, if_pos rfl] at e1
    rw [isIn_n f1, bd_e, if_pos rfl] at e2
    cases e1
    cases e2
    rfl
