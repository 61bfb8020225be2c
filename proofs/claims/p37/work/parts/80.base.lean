/-! what the first claim proved and every claim can use. Taken out of claims/p1 (80-88) by wip/gen/pbase.py -/
/-! NUMBERS AND HEAPS: how the pure step is computed -/
theorem up_at (h : PH) (a j : Nat) (x : Int32) (b i : Nat) : up h a j x b i = if b = a then (if i = j then x else h a i) else h b i := by
  unfold up setC upd
  by_cases hb : b = a
  · subst hb; simp
  · simp [hb]
theorem ck_in {ρ : Type} {i : Int32} {n : Nat} {k : Option ρ} (h : vp_in i n) : ck i n k = k := by
  unfold ck; exact if_neg h
theorem ck_nI {ρ : Type} {i n : Nat} {k : Option ρ} (h : i < n) (hn : n < 2 ^ 31) : ck (nI i) n k = k := ck_in (vp_in_nI h hn)
/-! the mortgage: the same loop on both sides -/
theorem dz_nz {ρ : Type} {y : Int32} {k : Option ρ} (h : ¬ y = 0) : dz y k = k := by unfold dz; exact if_neg h
theorem lesser_eq (x y : Int32) (h : PH) : mm_lesser x y h = some (imin y x) := by
  unfold mm_lesser imin
  split
  · rename_i c
    first | rfl | (simp only [c]; try rfl) | simp [Int32.not_lt.mpr c]
  · rename_i c
    first | rfl | (simp only [c]; try rfl) | simp [Int32.not_le.mp c]
theorem mort_sim (q p w w' : Int32) (h1 h2 : PH) (kc : Int32 → Int32 → Option Int32) (km : Int32 → Int32 → Option (Int32 × PH)) (hk : ∀ x y, km x y = (kc x y).map (fun r => (r, h2))) :
    ∀ (n : Nat) (a b c : Int32), mm_mortgage_L62 q p w h2 km n a b c = (mK_payOff_L9 q p w' h1 kc n a b c).map (fun r => (r, h2)) := by
  have hz : ¬ (100 : Int32) = 0 := by decide
  intro n
  induction n with
  | zero => intro a b c; rfl
  | succ n ih =>
    intro a b c
    unfold mm_mortgage_L62 mK_payOff_L9
    simp only [lt, dz_nz hz, lesser_eq, bd]
    by_cases c1 : 400 < c
    · simp [c1]
    · simp only [c1, if_false]
      generalize a + (a * q + 99) / 100 = x
      by_cases c2 : x = imin p x
      · rw [if_pos c2, if_pos c2.symm]
        exact hk _ _
      · have c2' : ¬ imin p x = x := fun e => c2 e.symm
        rw [if_neg c2, if_neg c2']
        by_cases c3 : x - imin p x < a
        · rw [if_pos c3, if_pos c3]
          exact ih _ _ _
        · rw [if_neg c3, if_neg c3]
          rfl
theorem mort_some (q p w : Int32) (h : PH) (kc : Int32 → Int32 → Option Int32) (hk : ∀ x y, ∃ r, kc x y = some r) : ∀ (n k : Nat) (a b : Int32), 401 < n + k → k ≤ 401 → ∃ r, mK_payOff_L9 q p w h kc n a b (nI k) = some r := by
  have hz : ¬ (100 : Int32) = 0 := by decide
  intro n
  induction n with
  | zero => intro k a b h1 h2; omega
  | succ n ih =>
    intro k a b h1 h2
    unfold mK_payOff_L9
    simp only [lt, dz_nz hz]
    by_cases c1 : 400 < nI k
    · exact ⟨_, if_pos c1⟩
    · rw [if_neg c1]
      have hk2 : k ≤ 400 := by
        rcases Nat.lt_or_ge 400 k with q | q
        · exact absurd (nI_lt (a := 400) q (by omega)) c1
        · exact q
      split
      · exact hk _ _
      · split
        · rw [nI_1]; exact ih (k + 1) _ _ (by omega) (by omega)
        · exact ⟨_, rfl⟩
theorem within_eq (v a b : Int32) (h : PH) : mX_within v a b h = some (if a ≤ v ∧ v ≤ b then 1 else 0) := by
  unfold mX_within
  by_cases c0 : v < a
  · have c1 : ¬ a ≤ v := Int32.not_le.mpr c0
    simp [c0, c1]
  · have c1 : a ≤ v := Int32.not_lt.mp c0
    by_cases c2 : b < v
    · have c3 : ¬ v ≤ b := Int32.not_le.mpr c2
      simp [c0, c2, c3]
    · have c3 : v ≤ b := Int32.not_lt.mp c2
      simp [c0, c1, c2, c3]
theorem isIn_eq (v a b : Int32) (h : PH) : mm_isIn v a b h = some (if a ≤ v ∧ v ≤ b then 1 else 0) := by
  unfold mm_isIn
  by_cases c0 : v < a
  · have c1 : ¬ a ≤ v := Int32.not_le.mpr c0
    simp [c0, c1]
  · have c1 : a ≤ v := Int32.not_lt.mp c0
    by_cases c2 : b < v
    · have c3 : ¬ v ≤ b := Int32.not_le.mpr c2
      simp [c0, c2, c3]
    · have c3 : v ≤ b := Int32.not_lt.mp c2
      simp [c0, c1, c2, c3]
theorem payOff_some (a q p w : Int32) (h : PH) : ∃ r, mK_payOff a q p w h = some r := by
  unfold mK_payOff
  exact mort_some q p w h _ (fun x y => by by_cases c : w = 0 <;> simp [c]) FU 1 a 0 (by unfold FU; omega) (by omega)
/-! THE WINDOW -/
def wst : Nat → Int32 × Int32 × Int32 × Int32 × Int32
  | 0 => (1, 0, 0, 0, 0)
  | n + 1 => ((((wst n).1 + (wst n).2.2.2.1) + (wst n).2.1) + (wst n).2.2.2.2, (wst n).1, (wst n).2.1, (wst n).2.2.1, (wst n).2.2.2.1)
def wo (n : Nat) : Int32 := (wst n).1
def wt (n : Nat) : Int32 := (wst n).2.2.2.1
theorem ni_sub (m c : Nat) : nI (m + c) - nI c = nI m := by
  rw [← nI_add]; exact Int32.add_sub_cancel _ _
theorem win_class (N : Nat) (hN : N ≤ 20) (h : PH) : ∀ (n k : Nat), N < n + k → k ≤ N → mK_windowWays_L15 (nI N) h n (wst k).1 (wst k).2.1 (wst k).2.2.1 (wst k).2.2.2.1 (wst k).2.2.2.2 (nI (k + 1)) = some (wo N + wt N) := by
  intro n
  induction n with
  | zero => intro k h1 h2; omega
  | succ n ih =>
    intro k h1 h2
    unfold mK_windowWays_L15
    by_cases hk : k = N
    · subst hk
      rw [if_pos (nI_lt (by omega) (by omega))]
      rfl
    · rw [if_neg (nI_nlt (by omega) (by omega))]
      have := ih (k + 1) (by omega) (by omega)
      rw [nI_1]
      exact this
theorem win_model (N : Nat) (hN : N ≤ 20) (k0 : PH → Option (Int32 × PH)) : ∀ (n k : Nat) (h : PH), N + 1 < n + k → k ≤ N + 1 → (∀ u, u < k → h 142 u = wo u ∧ h 143 u = wt u) → ∃ hf, mm_window_L20 (nI N) k0 n (nI k) h = k0 hf ∧ ∀ u, u ≤ N → hf 142 u = wo u ∧ hf 143 u = wt u := by
  intro n
  induction n with
  | zero => intro k h h1 h2; omega
  | succ n ih =>
    intro k h h1 h2 hu
    unfold mm_window_L20
    by_cases hk : k = N + 1
    · subst hk
      rw [if_pos (nI_lt (by omega) (by omega))]
      exact ⟨h, rfl, fun u hu' => hu u (by omega)⟩
    · rw [if_neg (nI_nlt (by omega) (by omega))]
      have ckk : ∀ (ρ : Type) (q : Option ρ), ck (nI k) 21 q = q := fun _ _ => ck_nI (by omega) (by omega)
      have ixk : ix (nI k) = k := nI_clamp (by omega)
      have go : ∀ (x9 : Int32) (h7 : PH), (h7 142 k = wo k) → x9 = wt k → (∀ u, u < k → h7 142 u = wo u ∧ h7 143 u = wt u) → ∃ hf, mm_window_L20 (nI N) k0 n (nI k + 1) (up h7 143 k x9) = k0 hf ∧ ∀ u, u ≤ N → hf 142 u = wo u ∧ hf 143 u = wt u := by
        intro x9 h7 e1 e2 e3
        rw [nI_1]
        refine ih (k + 1) _ (by omega) (by omega) (fun u hu' => ?_)
        by_cases huk : u = k
        · subst huk
          simp [up_at, e1, e2]
        · have := e3 u (by omega)
          simp [up_at, huk, this]
      match k, hk, hu, ckk, ixk, go with
      | 0, hk, hu, ckk, ixk, go =>
        simp only [jn1, lt, ckk, ixk, show nI 0 = 0 from nI_0, show (0 : Int32) ≤ 1 by decide, show (0 : Int32) ≤ 2 by decide, if_true]
        simp only [nI_0] at go ckk ixk
        simp only [ckk, ixk]
        exact go _ _ (by simp [up_at]; rfl) rfl (fun u hu' => by omega)
      | 1, hk, hu, ckk, ixk, go =>
        have a0 : nI 1 - 1 = nI 0 := nI_pred 0
        have c0 : ∀ (ρ : Type) (q : Option ρ), ck (nI 0) 21 q = q := fun _ _ => ck_nI (by omega) (by omega)
        have i0 : ix (nI 0) = 0 := nI_clamp (by omega)
        have z1 : ¬ nI 1 = 0 := nI_ne0 (by omega) (by omega)
        have z2 : nI 1 ≤ 1 := nI_le (a := 1) (b := 1) (by omega) (by omega)
        have z3 : nI 1 ≤ 2 := nI_le (a := 1) (b := 2) (by omega) (by omega)
        simp only [jn1, lt, ckk, ixk, z1, z2, z3, if_true, if_false, a0, c0, i0]
        have := hu 0 (by omega)
        exact go _ _ (by simp [up_at, this]; rfl) rfl (fun u hu' => by
          have hz : u = 0 := by omega
          subst hz
          simp [up_at, this])
      | k + 2, hk, hu, ckk, ixk, go =>
        have a1 : nI (k + 2) - 1 = nI (k + 1) := nI_pred (k + 1)
        have a2 : nI (k + 2) - 2 = nI k := ni_sub k 2
        have c1 : ∀ (ρ : Type) (q : Option ρ), ck (nI (k + 1)) 21 q = q := fun _ _ => ck_nI (by omega) (by omega)
        have c2 : ∀ (ρ : Type) (q : Option ρ), ck (nI k) 21 q = q := fun _ _ => ck_nI (by omega) (by omega)
        have i1 : ix (nI (k + 1)) = k + 1 := nI_clamp (by omega)
        have i2 : ix (nI k) = k := nI_clamp (by omega)
        have z1 : ¬ nI (k + 2) = 0 := nI_ne0 (by omega) (by omega)
        have z2 : ¬ nI (k + 2) ≤ 1 := nI_ge (a := 1) (by omega) (by omega)
        have u0 := hu k (by omega)
        have u1 := hu (k + 1) (by omega)
        simp only [jn1, lt, ckk, ixk, z1, z2, if_false, a1, a2, c1, c2, i1, i2]
        have key : ∀ x9, x9 = wt (k + 2) → ∃ hf, mm_window_L20 (nI N) k0 n (nI (k + 2) + 1) (up (up (up h 142 (k + 2) (h 142 (k + 1) + h 143 (k + 1))) 142 (k + 2) (up h 142 (k + 2) (h 142 (k + 1) + h 143 (k + 1)) 142 (k + 2) + up h 142 (k + 2) (h 142 (k + 1) + h 143 (k + 1)) 142 k + up h 142 (k + 2) (h 142 (k + 1) + h 143 (k + 1)) 143 k)) 143 (k + 2) x9) = k0 hf ∧ ∀ u, u ≤ N → hf 142 u = wo u ∧ hf 143 u = wt u := by
          intro x9 hx
          refine go _ _ ?_ hx (fun u hu' => ?_)
          · simp [up_at, u0, u1]
            rfl
          · have := hu u hu'
            have hne : ¬ u = k + 2 := by omega
            simp [up_at, hne, this]
        by_cases h3 : nI (k + 2) ≤ 2
        · rw [if_pos h3]
          have hk0 : k = 0 := by
            rcases Nat.eq_zero_or_pos k with q | q
            · exact q
            · exact absurd h3 (nI_ge (a := 2) (by omega) (by omega))
          subst hk0
          exact key _ rfl
        · rw [if_neg h3]
          have hk1 : 1 ≤ k := by
            rcases Nat.eq_zero_or_pos k with q | q
            · subst q; exact absurd (nI_le (a := 2) (b := 2) (by omega) (by omega)) h3
            · exact q
          obtain ⟨j, rfl⟩ : ∃ j, k = j + 1 := ⟨k - 1, by omega⟩
          have a3 : nI (j + 1 + 2) - 3 = nI j := ni_sub j 3
          have c3 : ∀ (ρ : Type) (q : Option ρ), ck (nI j) 21 q = q := fun _ _ => ck_nI (by omega) (by omega)
          have i3 : ix (nI j) = j := nI_clamp (by omega)
          rw [a3, c3]
          refine key _ ?_
          have := hu j (by omega)
          have n1 : ¬ j = j + 1 + 2 := by omega
          simp [up_at, i3, n1, this]
          rfl
theorem win_in {a : Int32} (h1 : 1 ≤ a) (h2 : a ≤ 20) : ∃ N, 1 ≤ N ∧ N ≤ 20 ∧ a = nI N := by
  obtain ⟨j, hj, e⟩ := nI_of2 (x := a) (M := 20) (n := 20) rfl (Int32.not_lt.mpr (Int32.le_trans (by decide) h1)) h2
  refine ⟨j, ?_, hj, e⟩
  rcases Nat.eq_zero_or_pos j with q | q
  · subst q
    rw [e] at h1
    exact absurd h1 (by decide)
  · exact q
/-! THE FIRST CALL: what is closed is computed -/
theorem in_nat {lo hi : Nat} {a : Int32} (hh : hi < 2 ^ 31) (h1 : nI lo ≤ a) (h2 : a ≤ nI hi) (hl : lo < 2 ^ 31) : ∃ k, lo ≤ k ∧ k < hi + 1 ∧ a = nI k := by
  obtain ⟨j, hj, e⟩ := nI_of2 (x := a) (M := nI hi) (n := hi) (nI_toInt hh) (Int32.not_lt.mpr (Int32.le_trans (nI_pos' hl) h1)) h2
  refine ⟨j, ?_, by omega, e⟩
  rw [e] at h1
  exact (nI_leI hl (by omega)).mp h1
/-! calls whose numbers aren't looked into -/
theorem ho0 {h : PH} (e : h 104 6 = 0) (x : Int32) : mm_isHouse x h = some 0 := by
  unfold mm_isHouse
  by_cases c : x < 0
  · rw [if_pos c]
  · rw [if_neg c, if_pos (show h 104 6 ≤ x by rw [e]; exact Int32.not_lt.mp c)]
/-! a house -/
theorem wr_at {a0 i k n : Nat} {h : PH} (e : h a0 1 = nI n) (hi : i < n) (hn : n ≤ 12) (hk : k < 11) (v : Int32) : mB_write a0 (nI i) (nI k) v h = some (up h (a0 + 1) (11 * i + k) v) := by
  unfold mB_write
  have e1 : nI i * 11 + nI k = nI (11 * i + k) := by
    rw [show nI i * 11 = nI (i * 11) from (Int32.ofNat_mul i 11).symm, nI_add, Nat.mul_comm]
  rw [if_neg (nI_pos (by omega)), e, if_neg (nI_ge hi (by omega)), if_neg (nI_pos (by omega)), if_neg (show ¬ (11 : Int32) ≤ nI k from nI_ge (b := 11) hk (by omega)), e1, ck_nI (by omega) (by omega), show ix (nI (11 * i + k)) = 11 * i + k from nI_clamp (by omega)]
  rfl
theorem bu_19 (a0 n : Nat) (hn : n < 12) (p1 p2 p3 : Int32) (k0 : PH → Option (Int32 × PH)) : ∀ (f w : Nat) (h : PH), 4 < f + w → w ≤ 4 → h a0 1 = nI (n + 1) → ∃ h', mB_build_L19 a0 p1 p2 p3 (nI n) k0 f (nI w) h = k0 h' ∧ ∀ b, b ≠ a0 + 1 → h' b = h b := by
  intro f
  induction f with
  | zero => intro w h h1 h2; omega
  | succ f ih =>
    intro w h h1 h2 e
    rw [mB_build_L19]
    by_cases hw : w = 4
    · subst hw
      rw [if_pos (show (4 : Int32) ≤ nI 4 by decide)]
      exact ⟨h, rfl, fun _ _ => rfl⟩
    · rw [if_neg (show ¬ (4 : Int32) ≤ nI w from nI_ge (b := 4) (by omega) (by omega)), wr_at e (by omega) (by omega) (by omega)]
      simp only [bd]
      rw [nI_1]
      have ha : ¬ a0 = a0 + 1 := by omega
      obtain ⟨h', q1, q2⟩ := ih (w + 1) (up h (a0 + 1) (11 * n + w) p1) (by omega) (by omega) (by rw [up_at, if_neg ha]; exact e)
      refine ⟨h', q1, fun b hb => ?_⟩
      rw [q2 b hb]
      funext j
      simp [up_at, hb]
theorem bu_at (a0 n : Nat) (hn : n < 12) (p1 p2 p3 : Int32) (h : PH) (e : h a0 1 = nI n) : ∃ h', mB_build a0 p1 p2 p3 h = some (nI n, h') ∧ h' a0 1 = nI (n + 1) ∧ (∀ b, b ≠ a0 → b ≠ a0 + 1 → h' b = h b) ∧ ∀ j, j ≠ 1 → h' a0 j = h a0 j := by
  unfold mB_build
  simp only [lt]
  rw [e, nI_1]
  have ha : ¬ a0 = a0 + 1 := by omega
  have key : ∀ k0 : PH → Option (Int32 × PH), ∃ h', mB_build_L19 a0 p1 p2 p3 (nI n) k0 FU 0 (up h a0 1 (nI (n + 1))) = k0 h' ∧ ∀ b, b ≠ a0 + 1 → h' b = (up h a0 1 (nI (n + 1))) b := fun k0 => by
    have := bu_19 a0 n hn p1 p2 p3 k0 FU 0 (up h a0 1 (nI (n + 1))) (by unfold FU; omega) (by omega) (by simp [up_at])
    rw [nI_0] at this
    exact this
  have hw : ∀ (g : PH) (k : Nat) (v : Int32), g a0 1 = nI (n + 1) → k < 11 → ∃ g', mB_write a0 (nI n) (nI k) v g = some g' ∧ g' a0 1 = nI (n + 1) ∧ ∀ b, b ≠ a0 + 1 → g' b = g b := fun g k v eg hk => by
    refine ⟨_, wr_at eg (by omega) (by omega) hk v, by rw [up_at, if_neg ha]; exact eg, fun b hb => ?_⟩
    funext j
    simp [up_at, hb]
  have fin : ∀ g : PH, g a0 1 = nI (n + 1) → ∃ h', (bd (mB_write a0 (nI n) 4 p2 g) fun h5 => bd (mB_write a0 (nI n) 5 p3 h5) fun h6 => bd (mB_write a0 (nI n) 6 0 h6) fun h7 => bd (mB_write a0 (nI n) 7 1 h7) fun h8 => bd (mB_write a0 (nI n) 8 0 h8) fun h9 => bd (mB_write a0 (nI n) 9 0 h9) fun h10 => bd (mB_write a0 (nI n) 10 0 h10) fun h11 => some (nI n, h11)) = some (nI n, h') ∧ h' a0 1 = nI (n + 1) ∧ ∀ b, b ≠ a0 + 1 → h' b = g b := by
    intro g eg
    obtain ⟨g1, x1, y1, z1⟩ := hw g 4 p2 eg (by decide)
    obtain ⟨g2, x2, y2, z2⟩ := hw g1 5 p3 y1 (by decide)
    obtain ⟨g3, x3, y3, z3⟩ := hw g2 6 0 y2 (by decide)
    obtain ⟨g4, x4, y4, z4⟩ := hw g3 7 1 y3 (by decide)
    obtain ⟨g5, x5, y5, z5⟩ := hw g4 8 0 y4 (by decide)
    obtain ⟨g6, x6, y6, z6⟩ := hw g5 9 0 y5 (by decide)
    obtain ⟨g7, x7, y7, z7⟩ := hw g6 10 0 y6 (by decide)
    rw [show (4 : Int32) = nI 4 from rfl, show (5 : Int32) = nI 5 from rfl, show (6 : Int32) = nI 6 from rfl, show (7 : Int32) = nI 7 from rfl, show (8 : Int32) = nI 8 from rfl, show (9 : Int32) = nI 9 from rfl, show (10 : Int32) = nI 10 from rfl, x1]
    simp only [bd]
    rw [x2]; simp only
    rw [x3]; simp only
    rw [x4]; simp only
    rw [x5]; simp only
    rw [x6]; simp only
    rw [x7]
    exact ⟨g7, rfl, y7, fun b hb => by rw [z7 b hb, z6 b hb, z5 b hb, z4 b hb, z3 b hb, z2 b hb, z1 b hb]⟩
  obtain ⟨g, k1, k2⟩ := key (fun h4 => bd (mB_write a0 (nI n) 4 p2 h4) fun h5 => bd (mB_write a0 (nI n) 5 p3 h5) fun h6 => bd (mB_write a0 (nI n) 6 0 h6) fun h7 => bd (mB_write a0 (nI n) 7 1 h7) fun h8 => bd (mB_write a0 (nI n) 8 0 h8) fun h9 => bd (mB_write a0 (nI n) 9 0 h9) fun h10 => bd (mB_write a0 (nI n) 10 0 h10) fun h11 => some (nI n, h11))
  obtain ⟨h', f1, f2, f3⟩ := fin g (by rw [k2 a0 ha]; simp [up_at])
  refine ⟨h', k1.trans f1, f2, fun b b1 b2 => ?_, fun j hj => ?_⟩
  · rw [f3 b b2, k2 b b2]; funext j; simp [up_at, b1]
  · rw [f3 a0 ha, k2 a0 ha]; simp [up_at, hj]
theorem mh_52 (n : Nat) (hn : n < 12) (p1 p2 p3 : Int32) (k0 : PH → Option (Int32 × PH)) : ∀ (f w : Nat) (h : PH), 4 < f + w → w ≤ 4 → h 104 6 = nI n → ∃ h', mm_house_L52 p1 p2 p3 k0 f (nI w) h = k0 h' ∧ ∀ b, b ≠ 105 → h' b = h b := by
  intro f
  induction f with
  | zero => intro w h h1 h2; omega
  | succ f ih =>
    intro w h h1 h2 e
    rw [mm_house_L52]
    by_cases hw : w = 4
    · subst hw
      rw [if_pos (show (4 : Int32) ≤ nI 4 by decide)]
      exact ⟨h, rfl, fun _ _ => rfl⟩
    · have e1 : 7 + 4 * nI n + nI w = nI (7 + 4 * n + w) := by
        rw [show 4 * nI n = nI (4 * n) from (Int32.ofNat_mul 4 n).symm, show 7 + nI (4 * n) = nI (7 + 4 * n) from nI_add 7 (4 * n), nI_add]
      rw [if_neg (show ¬ (4 : Int32) ≤ nI w from nI_ge (b := 4) (by omega) (by omega)), e, e1, ck_nI (by omega) (by omega)]
      simp only [lt]
      rw [nI_1]
      obtain ⟨h', q1, q2⟩ := ih (w + 1) (up h 105 (ix (nI (7 + 4 * n + w))) p1) (by omega) (by omega) (by rw [up_at]; simpa using e)
      refine ⟨h', q1, fun b hb => ?_⟩
      rw [q2 b hb]
      funext j
      simp [up_at, hb]
theorem mh_at (n : Nat) (hn : n < 12) (p1 p2 p3 : Int32) (c1 : 0 ≤ p1 ∧ p1 ≤ 99) (c2 : 0 ≤ p2 ∧ p2 ≤ 9) (c3 : 0 ≤ p3 ∧ p3 ≤ 9) (h : PH) (e : h 104 6 = nI n) : ∃ h', mm_house p1 p2 p3 h = some (nI n, h') := by
  unfold mm_house
  have e0 : up h 104 0 0 104 6 = nI n := by rw [up_at]; simpa using e
  have n12 : ¬ nI n = 12 := fun q => by
    have := (nI_eq (by omega) (by omega)).mp (show nI n = nI 12 from q)
    omega
  simp only [isIn_eq, bd, lt, if_pos c1, if_pos c2, if_pos c3, show ¬ (1 : Int32) = 0 by decide, if_false, e0, n12]
  have key : ∀ k0 : PH → Option (Int32 × PH), (∀ g : PH, g 104 6 = nI n → ∃ h', k0 g = some (nI n, h')) → ∃ h', mm_house_L52 p1 p2 p3 k0 FU 0 (up h 104 0 0) = some (nI n, h') := fun k0 hk => by
    obtain ⟨g, q1, q2⟩ := mh_52 n hn p1 p2 p3 k0 FU 0 (up h 104 0 0) (by unfold FU; omega) (by omega) e0
    rw [nI_0] at q1
    rw [q1]
    exact hk g (by rw [q2 104 (by decide)]; exact e0)
  refine key _ (fun g eg => ?_)
  have c55 : ∀ {ρ : Type} (k : Option ρ), ck (55 + nI n) 115 k = k := fun k => by rw [show 55 + nI n = nI (55 + n) from nI_add 55 n]; exact ck_nI (by omega) (by omega)
  have c67 : ∀ {ρ : Type} (k : Option ρ), ck (67 + nI n) 115 k = k := fun k => by rw [show 67 + nI n = nI (67 + n) from nI_add 67 n]; exact ck_nI (by omega) (by omega)
  have c79 : ∀ {ρ : Type} (k : Option ρ), ck (79 + nI n) 115 k = k := fun k => by rw [show 79 + nI n = nI (79 + n) from nI_add 79 n]; exact ck_nI (by omega) (by omega)
  have c91 : ∀ {ρ : Type} (k : Option ρ), ck (91 + nI n) 115 k = k := fun k => by rw [show 91 + nI n = nI (91 + n) from nI_add 91 n]; exact ck_nI (by omega) (by omega)
  have c103 : ∀ {ρ : Type} (k : Option ρ), ck (103 + nI n) 115 k = k := fun k => by rw [show 103 + nI n = nI (103 + n) from nI_add 103 n]; exact ck_nI (by omega) (by omega)
  have c12 : ∀ {ρ : Type} (k : Option ρ), ck (nI n) 12 k = k := fun k => ck_nI hn (by omega)
  have u5 : ∀ (g : PH) (j : Nat) (v : Int32), up g 105 j v 104 6 = g 104 6 := fun g j v => by simp [up_at]
  have u8 : ∀ (g : PH) (j : Nat) (v : Int32), up g 108 j v 104 6 = g 104 6 := fun g j v => by simp [up_at]
  have u9 : ∀ (g : PH) (j : Nat) (v : Int32), up g 109 j v 104 6 = g 104 6 := fun g j v => by simp [up_at]
  simp only [eg, u5, u8, u9, c55, c67, c79, c91, c103, c12]
  refine ⟨_, congrArg some (Prod.ext ?_ rfl)⟩
  show up (up _ 104 6 (nI n + 1)) 104 3 0 104 6 - 1 = nI n
  rw [up_at, if_pos rfl, if_neg (by decide), up_at, if_pos rfl, if_pos rfl, nI_1, nI_pred]
/-! twenty bytes -/
theorem tk_step {p v : Int32} {h : PH} {l n : Nat} (hv : ¬ v < 0) (e : h 85 4 = nI l) (hl : l < 400) : mA_take_L3 p (n + 1) v h = mA_take_L3 p n (v + (-8)) (up (up h 86 l (i2b (i2b (ushr p v)))) 85 4 (nI (l + 1))) := by
  rw [mA_take_L3, if_neg hv, e, if_neg (show ¬ (400 : Int32) ≤ nI l from nI_ge (b := 400) hl (by omega)), ck_nI hl (by omega), show ix (nI l) = l from nI_clamp (by omega)]
  simp only [lt]
  have e2 : up h 86 l (i2b (i2b (ushr p v))) 85 4 = nI l := by rw [up_at]; simpa using e
  rw [e2, nI_1]
theorem take4 (p : Int32) (h : PH) (l : Nat) (e : h 85 4 = nI l) (hl : l + 4 ≤ 400) : ∃ h', mA_take p h = some h' ∧ h' 85 4 = nI (l + 4) ∧ (∀ b, b ≠ 85 → b ≠ 86 → h' b = h b) ∧ ∀ j, j ≠ 4 → h' 85 j = h 85 j := by
  unfold mA_take
  rw [show FU = 99995 + 1 + 1 + 1 + 1 + 1 from rfl]
  rw [tk_step (by decide) e (by omega), tk_step (l := l + 1) (by decide) (by simp [up_at]) (by omega), tk_step (l := l + 1 + 1) (by decide) (by simp [up_at]) (by omega), tk_step (l := l + 1 + 1 + 1) (by decide) (by simp [up_at]) (by omega), mA_take_L3, if_pos (by decide)]
  refine ⟨_, rfl, by simp [up_at], fun b b1 b2 => ?_, fun j hj => ?_⟩
  · funext j; simp [up_at, b1, b2]
  · simp [up_at, hj]
theorem ty_step {p v : Int32} {h : PH} {l n : Nat} (hv : ¬ v < 0) (e : h 104 11 = nI l) (hl : l < 400) : mm_types_L3 p (n + 1) v h = mm_types_L3 p n (v + (-8)) (up (up h 111 l ((p >>> (v &&& 31)) &&& 255)) 104 11 (nI (l + 1))) := by
  rw [mm_types_L3, if_neg hv, e, ck_nI hl (by omega), show ix (nI l) = l from nI_clamp (by omega)]
  simp only [lt]
  have e2 : up h 111 l ((p >>> (v &&& 31)) &&& 255) 104 11 = nI l := by rw [up_at]; simpa using e
  rw [e2, nI_1]
theorem types4 (p : Int32) (h : PH) (l : Nat) (e : h 104 11 = nI l) (hl : l + 4 ≤ 400) : ∃ h', mm_types p h = some h' ∧ h' 104 11 = nI (l + 4) ∧ (∀ b, b ≠ 104 → b ≠ 111 → h' b = h b) ∧ ∀ j, j ≠ 11 → h' 104 j = h 104 j := by
  unfold mm_types
  rw [show FU = 99995 + 1 + 1 + 1 + 1 + 1 from rfl]
  rw [ty_step (by decide) e (by omega), ty_step (l := l + 1) (by decide) (by simp [up_at]) (by omega), ty_step (l := l + 1 + 1) (by decide) (by simp [up_at]) (by omega), ty_step (l := l + 1 + 1 + 1) (by decide) (by simp [up_at]) (by omega), mm_types_L3, if_pos (by decide)]
  refine ⟨_, rfl, by simp [up_at], fun b b1 b2 => ?_, fun j hj => ?_⟩
  · funext j; simp [up_at, b1, b2]
  · simp [up_at, hj]
theorem feed_class (a b c d e : Int32) (h : PH) (l : Nat) (el : h 85 4 = nI l) (hl : l + 20 ≤ 400) : ∃ h', mX_feed a b c d e h = some (nI (l + 20), h') ∧ h' 85 4 = nI (l + 20) ∧ (∀ x, x ≠ 85 → x ≠ 86 → h' x = h x) ∧ ∀ j, j ≠ 4 → h' 85 j = h 85 j := by
  unfold mX_feed
  rw [el, show nI l + 20 = nI (l + 20) from nI_add l 20, if_pos (show nI (l + 20) ≤ (400 : Int32) from nI_le (b := 400) hl (by omega))]
  obtain ⟨h1, p1, q1, r1, s1⟩ := take4 a h l el (by omega)
  obtain ⟨h2, p2, q2, r2, s2⟩ := take4 b h1 (l + 4) q1 (by omega)
  obtain ⟨h3, p3, q3, r3, s3⟩ := take4 c h2 (l + 4 + 4) q2 (by omega)
  obtain ⟨h4, p4, q4, r4, s4⟩ := take4 d h3 (l + 4 + 4 + 4) q3 (by omega)
  obtain ⟨h5, p5, q5, r5, s5⟩ := take4 e h4 (l + 4 + 4 + 4 + 4) q4 (by omega)
  rw [p1]; simp only [bd]
  rw [p2]; simp only
  rw [p3]; simp only
  rw [p4]; simp only
  rw [p5]; simp only
  rw [q5]
  refine ⟨h5, rfl, q5, fun x x1 x2 => ?_, fun j hj => ?_⟩
  · rw [r5 x x1 x2, r4 x x1 x2, r3 x x1 x2, r2 x x1 x2, r1 x x1 x2]
  · rw [s5 j hj, s4 j hj, s3 j hj, s2 j hj, s1 j hj]
theorem feed_model (a b c d e : Int32) (h : PH) (l : Nat) (el : h 104 11 = nI l) (hl : l + 20 ≤ 400) : ∃ h', mm_feed a b c d e h = some (nI (l + 20), h') ∧ h' 104 11 = nI (l + 20) ∧ (∀ x, x ≠ 104 → x ≠ 111 → h' x = h x) ∧ ∀ j, j ≠ 11 → j ≠ 0 → h' 104 j = h 104 j := by
  unfold mm_feed
  have e0 : up h 104 0 0 104 11 = nI l := by rw [up_at]; simpa using el
  simp only [lt]
  rw [e0, if_pos (show nI l ≤ (380 : Int32) from nI_le (b := 380) (by omega) (by omega))]
  obtain ⟨h1, p1, q1, r1, s1⟩ := types4 a (up h 104 0 0) l e0 (by omega)
  obtain ⟨h2, p2, q2, r2, s2⟩ := types4 b h1 (l + 4) q1 (by omega)
  obtain ⟨h3, p3, q3, r3, s3⟩ := types4 c h2 (l + 4 + 4) q2 (by omega)
  obtain ⟨h4, p4, q4, r4, s4⟩ := types4 d h3 (l + 4 + 4 + 4) q3 (by omega)
  obtain ⟨h5, p5, q5, r5, s5⟩ := types4 e h4 (l + 4 + 4 + 4 + 4) q4 (by omega)
  rw [p1]; simp only [bd]
  rw [p2]; simp only
  rw [p3]; simp only
  rw [p4]; simp only
  rw [p5]; simp only
  rw [q5]
  refine ⟨h5, rfl, q5, fun x x1 x2 => ?_, fun j hj h0 => ?_⟩
  · rw [r5 x x1 x2, r4 x x1 x2, r3 x x1 x2, r2 x x1 x2, r1 x x1 x2]; funext i; simp [up_at, x1]
  · rw [s5 j hj, s4 j hj, s3 j hj, s2 j hj, s1 j hj]; simp [up_at, h0]
/-! QUARTERS IN WHICH NOBODY LIVES: no house, no line of sky or office -/
theorem lt_e {α ρ : Type} (x : α) (f : α → Option ρ) : lt x f = f x := Eq.trans (b := f x) rfl rfl
theorem bd_e {α ρ : Type} (x : α) (f : α → Option ρ) : bd (some x) f = f x := Eq.trans (b := f x) rfl rfl
theorem bd2_e {α β ρ : Type} (x : α) (y : β) (f : α → β → Option ρ) : bd2 (some (x, y)) f = f x y := Eq.trans (b := f x y) rfl rfl
theorem jn1_e {α ρ : Type} (f : α → Option ρ) (b : (α → Option ρ) → Option ρ) : jn1 f b = b f := Eq.trans (b := b f) rfl rfl
theorem FU_s : FU = 99999 + 1 := rfl
theorem z_le {x y : Int32} (h : x = 0) (k : y = 0) : x ≤ y := by rw [h, k]; decide
theorem bc0 (h : PH) : mJ_bitCount 0 h = some 0 := rfl
theorem c0_115 {ρ : Type} (k : Option ρ) : ck 0 115 k = k := ck_nI (i := 0) (by decide) (by decide)
theorem zc_wea {a : Nat} {h : PH} (z2 : h 10 3 = 0) : mS_weather a h = some h := by
  unfold mS_weather
  rw [FU_s, mS_weather_L10]
  rw [if_pos (z_le z2 rfl)]
theorem zc_L6 {a : Nat} {h : PH} {k : PH → Option (Int32 × PH)} (z3 : h 12 3 = 0) : mS_pass_L6 a k FU 0 h = k h := by
  rw [FU_s, mS_pass_L6, if_pos (z_le z3 rfl)]
theorem zc_L70 {a : Nat} {p : Int32} {h : PH} {k : PH → Option (Int32 × PH)} (z : h (sT a) 1 = 0) : mS_pass_L70 a p k FU 0 h = k h := by
  rw [FU_s, mS_pass_L70, if_pos (z_le z rfl)]
theorem zc_L118 {a : Nat} {p : Int32} {h : PH} {k : PH → Option (Int32 × PH)} (z : h (sT a) 1 = 0) : mS_pass_L118 a p k FU 0 h = k h := by
  rw [FU_s, mS_pass_L118, if_pos (z_le z rfl)]
theorem zc_L142 {a : Nat} {p : Int32} {h : PH} {k : PH → Option (Int32 × PH)} (z : h (sT a) 1 = 0) : mS_pass_L142 a p k FU 0 h = k h := by
  rw [FU_s, mS_pass_L142, if_pos (z_le z rfl)]
theorem zc_L180 {a : Nat} {p : Int32} {h : PH} {k : PH → Option (Int32 × PH)} (z : h (sT a) 1 = 0) : mS_pass_L180 a p k FU 0 h = k h := by
  rw [FU_s, mS_pass_L180, if_pos (z_le z rfl)]
theorem zc_up {t : Nat} {h : PH} (z : h t 1 = 0) : mB_countUp t h = some 0 := by
  unfold mB_countUp mB_upSet
  rw [FU_s, mB_upSet_L4, if_pos (z_le z rfl)]
  simp only [bd, bc0]
theorem zc_har {a : Nat} {h : PH} (z : h (sT a) 1 = 0) : mS_harden a h = some h := by
  unfold mS_harden
  rw [FU_s, mS_harden_L2, if_pos (z_le z rfl)]
theorem zc_gro {a : Nat} {h : PH} (z : h (sT a) 1 = 0) : mS_grow a h = some (up h (sT a) 6 (imin 9999 (h (sT a) 6 + 1))) := by
  unfold mS_grow
  rw [FU_s, mS_grow_L2, if_pos (z_le z rfl)]
  rfl
theorem pass0 {a : Nat} {h : PH} (z : h (sT a) 1 = 0) (z2 : h 10 3 = 0) (z3 : h 12 3 = 0) : mS_pass a h = some (0, up h (sT a) 6 (imin 9999 (h (sT a) 6 + 1))) := by
  unfold mS_pass
  simp only [zc_wea z2, bd, zc_L6 z3, zc_up z, zc_L70 z, zc_L118 z, zc_L142 z, zc_har z, zc_L180 z, zc_gro z, lt]
  rfl
theorem zc_tot {t : Nat} {c : Int32} {h : PH} (z : h t 1 = 0) : mB_total t c h = some 0 := by
  unfold mB_total
  rw [FU_s, mB_total_L4, if_pos (z_le z rfl)]
/-- the model -/
theorem zm_sky {h : PH} (z2 : h 104 33 = 0) : mm_skyOf h = some h := by
  unfold mm_skyOf
  rw [FU_s, mm_skyOf_L2, if_pos (by rw [z2]; decide)]
theorem zm_L6 {h : PH} {k : PH → Option (Int32 × PH)} (z3 : h 104 35 = 0) : mm_goesBy_L6 k FU 0 h = k h := by
  rw [FU_s, mm_goesBy_L6, if_pos (by rw [z3]; decide)]
theorem zm_L50 {p : Int32} {h : PH} {k : PH → Option (Int32 × PH)} (z : h 104 6 = 0) : mm_goesBy_L50 p k FU 0 h = k h := by
  rw [FU_s, mm_goesBy_L50, if_pos (z_le z rfl)]
theorem zm_L91 {p : Int32} {h : PH} {k : PH → Option (Int32 × PH)} (z : h 104 6 = 0) : mm_goesBy_L91 p k FU 0 h = k h := by
  rw [FU_s, mm_goesBy_L91, if_pos (z_le z rfl)]
theorem zm_L112 {p : Int32} {h : PH} {k : PH → Option (Int32 × PH)} (z : h 104 6 = 0) : mm_goesBy_L112 p k FU 0 h = k h := by
  rw [FU_s, mm_goesBy_L112, if_pos (z_le z rfl)]
theorem zm_L133 {p : Int32} {h : PH} {k : PH → Option (Int32 × PH)} (z : h 104 6 = 0) : mm_goesBy_L133 p k FU 0 h = k h := by
  rw [FU_s, mm_goesBy_L133, if_pos (z_le z rfl)]
theorem zm_L193 {p : Int32} {h : PH} {k : PH → Option (Int32 × PH)} (z : h 104 6 = 0) : mm_goesBy_L193 p k FU 0 h = k h := by
  rw [FU_s, mm_goesBy_L193, if_pos (z_le z rfl)]
theorem zm_set {h : PH} (z : h 104 6 = 0) : mm_standingSet h = some 0 := by
  unfold mm_standingSet
  rw [FU_s, mm_standingSet_L4, if_pos (z_le z rfl)]
theorem zm_ones {h : PH} : mm_onesOf 0 h = some 0 := by
  unfold mm_onesOf
  rw [FU_s, mm_onesOf_L4, if_pos rfl]
theorem zm_all {c : Int32} {h : PH} (z : h 104 6 = 0) : mm_allOf c h = some 0 := by
  unfold mm_allOf
  rw [FU_s, mm_allOf_L4, if_pos (z_le z rfl)]
theorem goes0 {h : PH} (z : h 104 6 = 0) (z2 : h 104 33 = 0) (z3 : h 104 35 = 0) : mm_goesBy h = some (0, up h 105 0 (h 105 0 + 1)) := by
  unfold mm_goesBy
  have e : up h 105 (ix 0) (h 105 (ix 0) + 1) 104 6 = 0 := by rw [up_at]; simpa using z
  simp only [zm_sky z2, bd, zm_L6 z3, zm_set z, zm_L50 z, zm_L91 z, zm_L112 z, zm_L133 z, zm_L193 z, lt, c0_115, zm_set e]
  have e2 : (0 : Int32) &&& (0 ^^^ (-1)) = 0 := by decide
  rw [e2]
  simp only [zm_ones]
  rfl
/-- the copies of a borough -/
theorem cc_132 {ρ : Type} (k : Option ρ) : cc 132 132 0 0 132 k = k := by
  unfold cc
  exact if_neg (by decide)
theorem copy_fr (a0 a1 : Nat) (h : PH) (h01 : ¬ a1 = a0) (h02 : ¬ a0 = a1 + 1) (h03 : ¬ a1 = a0 + 1) : ∃ h', mB_copyFrom a0 a1 h = some h' ∧ (∀ b, b ≠ a0 → b ≠ a0 + 1 → h' b = h b) ∧ h' a0 1 = h a1 1 ∧ h' a0 2 = h a1 2 ∧ h' a0 3 = h a1 3 ∧ h' a0 4 = h a1 4 ∧ h' a0 5 = h a1 5 ∧ h' a0 6 = h a1 6 ∧ h' a0 7 = h a1 7 := by
  unfold mB_copyFrom
  simp only [cc_132, lt]
  refine ⟨_, rfl, fun b h1 h2 => ?_, ?_, ?_, ?_, ?_, ?_, ?_, ?_⟩
  · funext j
    simp [up, cpy, setC, upd, h1, h2]
  all_goals simp [up_at, cpy, setC, h01, h02, h03]
theorem irm6 : ∀ f, f < 6 → ∀ m, m < 7 → irm (nI f + nI m) 6 = nI ((f + m) % 6) := by decide +kernel
theorem irm6' : ∀ f, f < 6 → irm (nI f + 1) 6 = nI ((f + 1) % 6) := by decide +kernel
theorem dz6 {ρ : Type} (k : Option ρ) : dz 6 k = k := if_neg (by decide)
theorem keep_fr (p : Int32) (h : PH) (f m : Nat) (hf : f < 6) (hm : m < 7) (e1 : h 70 2 = nI f) (e2 : h 70 3 = nI m) : ∃ h', mP_keep 1 p h = some h' ∧ (∀ b, b ≠ 70 → b < 72 ∨ 84 < b → h' b = h b) ∧ ∃ f' m', f' < 6 ∧ m' < 7 ∧ h' 70 2 = nI f' ∧ h' 70 3 = nI m' := by
  unfold mP_keep
  have hs : (f + m) % 6 < 6 := Nat.mod_lt _ (by decide)
  simp only [dz6, lt, e1, e2, irm6 f hf m hm]
  generalize (f + m) % 6 = s at hs ⊢
  have cks : ∀ (ρ : Type) (q : Option ρ), ck (nI s) 6 q = q := fun _ _ => ck_nI hs (by decide)
  have ixs : ix (nI s) = s := nI_clamp (by omega)
  simp only [cks, ixs]
  obtain ⟨h3, q1, q2, -⟩ := copy_fr (73 + 2 * s) 1 h (by omega) (by omega) (by omega)
  rw [q1]
  simp only [bd]
  have g1 : h3 70 2 = nI f := by rw [q2 70 (by omega) (by omega)]; exact e1
  have g2 : h3 70 3 = nI m := by rw [q2 70 (by omega) (by omega)]; exact e2
  have g3 : up h3 72 s p 70 3 = nI m := by rw [up_at]; simpa using g2
  have g4 : up h3 72 s p 70 2 = nI f := by rw [up_at]; simpa using g1
  have gb : ∀ b, b ≠ 70 → b < 72 ∨ 84 < b → ∀ j x, up (up h3 72 s p) 70 j x b = h b := by
    intro b b1 b2 j x
    have b3 : b ≠ 72 := by omega
    rw [← q2 b (by omega) (by omega)]
    funext i
    simp [up_at, b1, b3]
  by_cases c : 6 ≤ up h3 72 s p 70 3
  · rw [if_pos c]
    refine ⟨_, rfl, fun b b1 b2 => gb b b1 b2 _ _, (f + 1) % 6, m, Nat.mod_lt _ (by decide), hm, ?_, ?_⟩
    · rw [g4, irm6' f hf]; simp [up_at]
    · rw [up_at]; simpa using g3
  · rw [if_neg c]
    have hm6 : m < 6 := by
      rcases Nat.lt_or_ge m 6 with q | q
      · exact q
      · exfalso; apply c; rw [g3]; exact nI_le (a := 6) q (by omega)
    refine ⟨_, rfl, fun b b1 b2 => gb b b1 b2 _ _, f, m + 1, hf, by omega, ?_, ?_⟩
    · rw [up_at]; simpa using g4
    · rw [g3, nI_1]; simp [up_at]
/-- the class's quarters -/
theorem q_class (N : Nat) (hN : N ≤ 60) : ∀ (n k : Nat) (h : PH) (f m : Nat), N < n + k → k ≤ N → f < 6 → m < 7 → h 70 2 = nI f → h 70 3 = nI m → h 1 1 = 0 → h 10 3 = 0 → h 12 3 = 0 →
    ∃ h', mX_quarters_L31 (nI N) n 0 (nI k) h = some (0, h') ∧ ∀ b, 104 ≤ b → h' b = h b := by
  intro n
  induction n with
  | zero => intro k h f m h1 h2; omega
  | succ n ih =>
    intro k h f m h1 h2 hf hm e1 e2 z1 z2 z3
    rw [mX_quarters_L31]
    by_cases hk : k = N
    · subst hk
      rw [if_pos (nI_le (Nat.le_refl _) (by omega))]
      exact ⟨h, rfl, fun _ _ => rfl⟩
    · rw [if_neg (nI_ge (by omega) (by omega))]
      obtain ⟨h', q1, q2, f', m', hf', hm', q3, q4⟩ := keep_fr (h 16 3) h f m hf hm e1 e2
      rw [q1]
      simp only [bd]
      have y1 : h' (sT 68) 1 = 0 := by show h' 1 1 = 0; rw [q2 1 (by omega) (by omega)]; exact z1
      have y2 : h' 10 3 = 0 := by rw [q2 10 (by omega) (by omega)]; exact z2
      have y3 : h' 12 3 = 0 := by rw [q2 12 (by omega) (by omega)]; exact z3
      rw [pass0 y1 y2 y3]
      simp only [bd2, lt]
      rw [nI_1, show (0 : Int32) + 0 = 0 from rfl, show sT 68 = 1 from rfl]
      obtain ⟨h'', r1, r2⟩ := ih (k + 1) (up h' 1 6 (imin 9999 (h' 1 6 + 1))) f' m' (by omega) (by omega) hf' hm' (by rw [up_at]; simpa using q3) (by rw [up_at]; simpa using q4) (by rw [up_at]; simpa using (show h' 1 1 = 0 from y1)) (by rw [up_at]; simpa using y2) (by rw [up_at]; simpa using y3)
      refine ⟨h'', r1, fun b hb => ?_⟩
      rw [r2 b hb, ← q2 b (by omega) (by omega)]
      funext j
      have : b ≠ 1 := by omega
      simp [up_at, this]
/-- the model's keeping -/
theorem ka_55 (k0 : PH → Option PH) (u : Nat) (hu : u ≤ 5) : ∀ (n k : Nat) (h : PH), 115 < n + k → k ≤ 115 → h 104 3 = nI u → ∃ h', mm_keepsAhead_L55 k0 n (nI k) h = k0 h' ∧ ∀ b, b ≠ 106 → h' b = h b := by
  intro n
  induction n with
  | zero => intro k h h1 h2; omega
  | succ n ih =>
    intro k h h1 h2 e
    rw [mm_keepsAhead_L55]
    by_cases hk : k = 115
    · subst hk
      rw [if_pos (show (115 : Int32) ≤ nI 115 from nI_le (a := 115) (Nat.le_refl _) (by omega))]
      exact ⟨h, rfl, fun _ _ => rfl⟩
    · rw [if_neg (show ¬ (115 : Int32) ≤ nI k from nI_ge (b := 115) (by omega) (by omega))]
      have e3 : 115 * h 104 3 + nI k = nI (115 * u + k) := by
        rw [e, ← nI_add]
        congr 1
        exact (Int32.ofNat_mul 115 u).symm
      rw [ck_nI (by omega) (by omega), e3, ck_nI (by omega) (by omega)]
      simp only [lt]
      rw [nI_1]
      obtain ⟨h', q1, q2⟩ := ih (k + 1) (up h 106 (ix (nI (115 * u + k))) (h 105 (ix (nI k)))) (by omega) (by omega) (by rw [up_at]; simpa using e)
      refine ⟨h', q1, fun b hb => ?_⟩
      rw [q2 b hb]
      funext j
      simp [up_at, hb]
theorem ka_21 (k0 : PH → Option PH) : ∀ (n k : Nat) (h : PH), 575 < n + k → k ≤ 575 → h 104 3 = nI 5 → ∃ h', mm_keepsAhead_L21 k0 n (nI k) h = k0 h' ∧ ∀ b, b ≠ 106 → h' b = h b := by
  intro n
  induction n with
  | zero => intro k h h1 h2; omega
  | succ n ih =>
    intro k h h1 h2 e
    rw [mm_keepsAhead_L21]
    have e3 : 115 * h 104 3 = nI 575 := by rw [e]; decide
    rw [e3]
    by_cases hk : k = 575
    · subst hk
      rw [if_pos (nI_le (Nat.le_refl _) (by omega))]
      exact ⟨h, rfl, fun _ _ => rfl⟩
    · rw [if_neg (nI_ge (by omega) (by omega))]
      have e4 : nI k + 115 = nI (k + 115) := nI_add k 115
      rw [e4, ck_nI (by omega) (by omega), ck_nI (by omega) (by omega)]
      simp only [lt]
      rw [nI_1]
      obtain ⟨h', q1, q2⟩ := ih (k + 1) (up h 106 (ix (nI k)) (h 106 (ix (nI (k + 115))))) (by omega) (by omega) (by rw [up_at]; simpa using e)
      refine ⟨h', q1, fun b hb => ?_⟩
      rw [q2 b hb]
      funext j
      simp [up_at, hb]
theorem ka_end (u : Nat) (hu : u ≤ 5) (h : PH) (e : h 104 3 = nI u) : ∃ h', mm_keepsAhead_L55 (fun h4 => lt (up h4 104 3 (h4 104 3 + 1)) fun h5 => some h5) FU 0 h = some h' ∧ (∀ b, b ≠ 106 → b ≠ 104 → h' b = h b) ∧ (∀ j, j ≠ 3 → h' 104 j = h 104 j) ∧ h' 104 3 = nI (u + 1) := by
  obtain ⟨h', q1, q2⟩ := ka_55 (fun h4 => lt (up h4 104 3 (h4 104 3 + 1)) fun h5 => some h5) u hu FU 0 h (by unfold FU; omega) (by omega) e
  rw [nI_0] at q1
  rw [q1]
  refine ⟨_, rfl, fun b b1 b2 => ?_, fun j hj => ?_, ?_⟩
  · rw [← q2 b b1]; funext j; simp [up_at, b2]
  · rw [← q2 104 (by decide)]; simp [up_at, hj]
  · rw [q2 104 (by decide), e, nI_1]; simp [up_at]
theorem ka_all (u : Nat) (hu : u ≤ 6) (h : PH) (e : h 104 3 = nI u) : ∃ h' u', mm_keepsAhead h = some h' ∧ (∀ b, b ≠ 106 → b ≠ 104 → h' b = h b) ∧ (∀ j, j ≠ 3 → h' 104 j = h 104 j) ∧ u' ≤ 6 ∧ h' 104 3 = nI u' := by
  unfold mm_keepsAhead
  rw [jn1_e]
  by_cases c : h 104 3 = 6
  · rw [if_pos c]
    have hu6 : u = 6 := by
      rw [e] at c
      exact (nI_eq (by omega) (by omega)).mp (show nI u = nI 6 from c)
    subst hu6
    have e5 : h 104 3 - 1 = nI 5 := by rw [e]; decide
    rw [lt_e, e5]
    obtain ⟨g, q1, q2⟩ := ka_21 (fun h8 => mm_keepsAhead_L55 (fun h4 => lt (up h4 104 3 (h4 104 3 + 1)) fun h5 => some h5) FU 0 h8) FU 0 (up h 104 3 (nI 5)) (by unfold FU; omega) (by omega) (by simp [up_at])
    rw [nI_0] at q1
    rw [q1]
    have eg : g 104 3 = nI 5 := by rw [q2 104 (by decide)]; simp [up_at]
    obtain ⟨h', r1, r2, r3, r4⟩ := ka_end 5 (by omega) g eg
    refine ⟨h', 6, r1, fun b b1 b2 => ?_, fun j hj => ?_, by omega, r4⟩
    · rw [r2 b b1 b2, q2 b b1]; funext j; simp [up_at, b2]
    · rw [r3 j hj, q2 104 (by decide)]; simp [up_at, hj]
  · rw [if_neg c]
    have hu5 : u ≤ 5 := by
      rcases Nat.lt_or_ge u 6 with q | q
      · omega
      · exfalso; apply c; rw [e, show u = 6 by omega]; rfl
    obtain ⟨h', r1, r2, r3, r4⟩ := ka_end u hu5 h e
    exact ⟨h', u + 1, r1, r2, r3, by omega, r4⟩
theorem q_model (N : Nat) (hN : N ≤ 60) : ∀ (n k : Nat) (h : PH) (u : Nat), N < n + k → k ≤ N → u ≤ 6 → h 104 3 = nI u → h 104 6 = 0 → h 104 33 = 0 → h 104 35 = 0 → ∃ h', mm_quarters_L36 (nI N) n 0 (nI k) h = some (0, h') := by
  intro n
  induction n with
  | zero => intro k h u h1 h2; omega
  | succ n ih =>
    intro k h u h1 h2 hu e z1 z2 z3
    rw [mm_quarters_L36]
    by_cases hk : k = N
    · subst hk
      rw [if_pos (nI_le (Nat.le_refl _) (by omega))]
      exact ⟨h, rfl⟩
    · rw [if_neg (nI_ge (by omega) (by omega))]
      obtain ⟨h', u', q1, q2, q3, q4, q5⟩ := ka_all u hu h e
      rw [q1]
      simp only [bd]
      have y1 : h' 104 6 = 0 := by rw [q3 6 (by decide)]; exact z1
      have y2 : h' 104 33 = 0 := by rw [q3 33 (by decide)]; exact z2
      have y3 : h' 104 35 = 0 := by rw [q3 35 (by decide)]; exact z3
      rw [goes0 y1 y2 y3]
      simp only [bd2, lt]
      rw [nI_1, show (0 : Int32) + 0 = 0 from rfl]
      exact ih (k + 1) _ u' (by omega) (by omega) q4 (by rw [up_at]; simpa using q5) (by rw [up_at]; simpa using y1) (by rw [up_at]; simpa using y2) (by rw [up_at]; simpa using y3)
/-! IN THOUGHT -/
theorem g_class (N : Nat) (hN : N ≤ 60) (w : Int32) (k0 : PH → Option (Int32 × PH)) : ∀ (n k : Nat) (h : PH), N < n + k → k ≤ N → h 3 1 = 0 → h 10 3 = 0 → h 12 3 = 0 → ∃ h', mX_goes_L34 (nI N) w k0 n (nI k) h = k0 h' ∧ (∀ b, b ≠ 3 → h' b = h b) ∧ ∀ j, j ≠ 6 → h' 3 j = h 3 j := by
  intro n
  induction n with
  | zero => intro k h h1 h2; omega
  | succ n ih =>
    intro k h h1 h2 z1 z2 z3
    rw [mX_goes_L34]
    by_cases hk : k = N
    · subst hk
      rw [if_pos (nI_le (Nat.le_refl _) (by omega))]
      exact ⟨h, rfl, fun _ _ => rfl, fun _ _ => rfl⟩
    · rw [if_neg (nI_ge (by omega) (by omega))]
      rw [pass0 (a := 69) z1 z2 z3]
      simp only [bd2]
      rw [nI_1, show sT 69 = 3 from rfl]
      obtain ⟨h'', r1, r2, r3⟩ := ih (k + 1) (up h 3 6 (imin 9999 (h 3 6 + 1))) (by omega) (by omega) (by rw [up_at]; simpa using z1) (by rw [up_at]; simpa using z2) (by rw [up_at]; simpa using z3)
      refine ⟨h'', r1, fun b hb => ?_, fun j hj => ?_⟩
      · rw [r2 b hb]; funext j; simp [up_at, hb]
      · rw [r3 j hj]; simp [up_at, hj]
theorem g_model (N : Nat) (hN : N ≤ 60) (w : Int32) (k0 : PH → Option (Int32 × PH)) : ∀ (n k : Nat) (h : PH), N < n + k → k ≤ N → h 104 6 = 0 → h 104 33 = 0 → h 104 35 = 0 → ∃ h', mm_goes_L34 (nI N) w k0 n (nI k) h = k0 h' ∧ (∀ b, b ≠ 105 → h' b = h b) ∧ ∀ j, j ≠ 0 → h' 105 j = h 105 j := by
  intro n
  induction n with
  | zero => intro k h h1 h2; omega
  | succ n ih =>
    intro k h h1 h2 z1 z2 z3
    rw [mm_goes_L34]
    by_cases hk : k = N
    · subst hk
      rw [if_pos (nI_le (Nat.le_refl _) (by omega))]
      exact ⟨h, rfl, fun _ _ => rfl, fun _ _ => rfl⟩
    · rw [if_neg (nI_ge (by omega) (by omega))]
      rw [goes0 z1 z2 z3]
      simp only [bd2]
      rw [nI_1]
      obtain ⟨h'', r1, r2, r3⟩ := ih (k + 1) (up h 105 0 (h 105 0 + 1)) (by omega) (by omega) (by rw [up_at]; simpa using z1) (by rw [up_at]; simpa using z2) (by rw [up_at]; simpa using z3)
      refine ⟨h'', r1, fun b hb => ?_, fun j hj => ?_⟩
      · rw [r2 b hb]; funext j; simp [up_at, hb]
      · rw [r3 j hj]; simp [up_at, hj]
theorem th_L2 (k0 : PH → Option PH) : ∀ (n k : Nat) (h : PH), 115 < n + k → k ≤ 115 → ∃ h', mm_thinks_L2 k0 n (nI k) h = k0 h' ∧ ∀ b, b ≠ 107 → h' b = h b := by
  intro n
  induction n with
  | zero => intro k h h1 h2; omega
  | succ n ih =>
    intro k h h1 h2
    rw [mm_thinks_L2]
    by_cases hk : k = 115
    · subst hk
      rw [if_pos (show (115 : Int32) ≤ nI 115 from nI_le (a := 115) (Nat.le_refl _) (by omega))]
      exact ⟨h, rfl, fun _ _ => rfl⟩
    · rw [if_neg (show ¬ (115 : Int32) ≤ nI k from nI_ge (b := 115) (by omega) (by omega))]
      rw [ck_nI (by omega) (by omega), ck_nI (by omega) (by omega)]
      simp only [lt]
      rw [nI_1]
      obtain ⟨h', q1, q2⟩ := ih (k + 1) (up h 107 (ix (nI k)) (h 105 (ix (nI k)))) (by omega) (by omega)
      refine ⟨h', q1, fun b hb => ?_⟩
      rw [q2 b hb]
      funext j
      simp [up_at, hb]
theorem et_L2 (k0 : PH → Option PH) : ∀ (n k : Nat) (h : PH), 115 < n + k → k ≤ 115 → ∃ h', mm_endsThought_L2 k0 n (nI k) h = k0 h' := by
  intro n
  induction n with
  | zero => intro k h h1 h2; omega
  | succ n ih =>
    intro k h h1 h2
    rw [mm_endsThought_L2]
    by_cases hk : k = 115
    · subst hk
      rw [if_pos (show (115 : Int32) ≤ nI 115 from nI_le (a := 115) (Nat.le_refl _) (by omega))]
      exact ⟨h, rfl⟩
    · rw [if_neg (show ¬ (115 : Int32) ≤ nI k from nI_ge (b := 115) (by omega) (by omega))]
      rw [ck_nI (by omega) (by omega), ck_nI (by omega) (by omega)]
      simp only [lt]
      rw [nI_1]
      exact ih (k + 1) _ (by omega) (by omega)
theorem et_all (h : PH) : ∃ h', mm_endsThought h = some h' := by
  unfold mm_endsThought
  obtain ⟨h', q⟩ := et_L2 (fun h2 => lt (up h2 104 5 0) fun h3 => some h3) FU 0 h (by unfold FU; omega) (by omega)
  rw [nI_0] at q
  rw [q]
  exact ⟨_, rfl⟩
theorem th_all (h : PH) : ∃ h', mm_thinks h = some h' ∧ (∀ b, b ≠ 107 → b ≠ 104 → h' b = h b) ∧ ∀ j, j ≠ 5 → h' 104 j = h 104 j := by
  unfold mm_thinks
  obtain ⟨h', q1, q2⟩ := th_L2 (fun h2 => lt (up h2 104 5 1) fun h3 => some h3) FU 0 h (by unfold FU; omega) (by omega)
  rw [nI_0] at q1
  rw [q1]
  refine ⟨_, rfl, fun b b1 b2 => ?_, fun j hj => ?_⟩
  · rw [← q2 b b1]; funext j; simp [up_at, b2]
  · rw [← q2 104 (by decide)]; simp [up_at, hj]
theorem c5_115 {ρ : Type} (k : Option ρ) : ck 5 115 k = k := ck_nI (i := 5) (by decide) (by decide)
theorem g_class' {N : Nat} (hN : N ≤ 60) {w : Int32} {k0 : PH → Option (Int32 × PH)} {h : PH} {Q : Int32 × PH → Prop} (z1 : h 3 1 = 0) (z2 : h 10 3 = 0) (z3 : h 12 3 = 0) (hk : ∀ h', (∀ b, b ≠ 3 → h' b = h b) → (∀ j, j ≠ 6 → h' 3 j = h 3 j) → ∃ r, k0 h' = some r ∧ Q r) : ∃ r, mX_goes_L34 (nI N) w k0 FU 0 h = some r ∧ Q r := by
  obtain ⟨h', q1, q2, q3⟩ := g_class N hN w k0 FU 0 h (by unfold FU; omega) (by omega) z1 z2 z3
  rw [nI_0] at q1
  rw [q1]
  exact hk h' q2 q3
theorem g_model' {N : Nat} (hN : N ≤ 60) {w : Int32} {k0 : PH → Option (Int32 × PH)} {h : PH} {Q : Int32 × PH → Prop} (z1 : h 104 6 = 0) (z2 : h 104 33 = 0) (z3 : h 104 35 = 0) (hk : ∀ h', (∀ b, b ≠ 105 → h' b = h b) → (∀ j, j ≠ 0 → h' 105 j = h 105 j) → ∃ r, k0 h' = some r ∧ Q r) : ∃ r, mm_goes_L34 (nI N) w k0 FU 0 h = some r ∧ Q r := by
  obtain ⟨h', q1, q2, q3⟩ := g_model N hN w k0 FU 0 h (by unfold FU; omega) (by omega) z1 z2 z3
  rw [nI_0] at q1
  rw [q1]
  exact hk h' q2 q3
theorem gm_goes (N : Nat) (h1 : 1 ≤ N) (h2 : N ≤ 60) (b : Int32) (c2 : 0 ≤ b ∧ b ≤ 3) (h : PH) (z1 : h 104 6 = 0) (z2 : h 104 33 = 0) (z3 : h 104 35 = 0) (z4 : h 105 5 = 0) : ∃ r, mm_goes (nI N) b h = some r ∧ r.1 = 0 := by
  unfold mm_goes
  have c : 1 ≤ nI N ∧ nI N ≤ 60 := ⟨nI_le (a := 1) h1 (by omega), nI_le (b := 60) h2 (by omega)⟩
  simp only [isIn_eq, bd_e, lt_e, jn1_e, if_pos c, if_pos c2, show ¬ (1 : Int32) = 0 by decide, if_false]
  obtain ⟨g, q1, q2, q3⟩ := th_all (up h 104 0 0)
  rw [q1]
  rw [bd_e]
  refine g_model' h2 (by rw [q3 6 (by decide), up_at]; simpa using z1) (by rw [q3 33 (by decide), up_at]; simpa using z2) (by rw [q3 35 (by decide), up_at]; simpa using z3) (fun h' f1 f2 => ?_)
  have w1 : h' 104 6 = 0 := by rw [f1 104 (by decide), q3 6 (by decide), up_at]; simpa using z1
  have w4 : h' 105 5 = 0 := by rw [f2 5 (by decide), q2 105 (by decide) (by decide), up_at]; simpa using z4
  obtain ⟨g3, e3⟩ := et_all h'
  simp only [zm_set w1, zm_all w1, zm_ones, c5_115, bd_e, e3]
  by_cases b0 : b = 0
  · simp only [if_pos b0]
    exact ⟨_, rfl, w4⟩
  · by_cases b1 : b = 1
    · simp only [if_neg b0, if_pos b1]
      exact ⟨_, rfl, rfl⟩
    · by_cases b2 : b = 2
      · simp only [if_neg b0, if_neg b1, if_pos b2]
        exact ⟨_, rfl, rfl⟩
      · simp only [if_neg b0, if_neg b1, if_neg b2]
        exact ⟨_, rfl, rfl⟩
/-! CRUMBS, none told -/
theorem cr_19 (p : Int32) (k0 : PH → Option (Int32 × PH)) : ∀ (n k : Nat) (h : PH), 1681 < n + k → k ≤ 1681 → ∃ h', mm_crumbs_L19 p k0 n (nI k) h = k0 h' ∧ (∀ b, b ≠ 136 → h' b = h b) ∧ ∀ j, j < 1681 → (k ≤ j ∨ h 136 j = 0) → h' 136 j = 0 := by
  intro n
  induction n with
  | zero => intro k h h1 h2; omega
  | succ n ih =>
    intro k h h1 h2
    rw [mm_crumbs_L19]
    by_cases hk : k = 1681
    · subst hk
      rw [if_pos (show (1681 : Int32) ≤ nI 1681 from nI_le (a := 1681) (Nat.le_refl _) (by omega))]
      exact ⟨h, rfl, fun _ _ => rfl, fun j hj hh => hh.elim (fun q => by omega) id⟩
    · rw [if_neg (show ¬ (1681 : Int32) ≤ nI k from nI_ge (b := 1681) (by omega) (by omega))]
      rw [ck_nI (by omega) (by omega)]
      simp only [lt]
      rw [nI_1, show ix (nI k) = k from nI_clamp (by omega)]
      obtain ⟨h', q1, q2, q3⟩ := ih (k + 1) (up h 136 k 0) (by omega) (by omega)
      refine ⟨h', q1, fun b hb => ?_, fun j hj hh => ?_⟩
      · rw [q2 b hb]; funext j; simp [up_at, hb]
      · refine q3 j hj ?_
        by_cases e : j = k
        · exact Or.inr (by simp [up_at, e])
        · rcases hh with q | q
          · exact Or.inl (by omega)
          · exact Or.inr (by simp [up_at, e, q])
theorem cr_185 (h : PH) (H : ∀ j, j < 1681 → h 136 j ≤ 1) : ∀ (n k : Nat) (v : Int32), 1681 < n + k → k ≤ 1681 → mm_crumbs_L185 h n v (nI k) = some (v, h) := by
  intro n
  induction n with
  | zero => intro k v h1 h2; omega
  | succ n ih =>
    intro k v h1 h2
    rw [mm_crumbs_L185]
    by_cases hk : k = 1681
    · subst hk
      rw [if_pos (show (1681 : Int32) ≤ nI 1681 from nI_le (a := 1681) (Nat.le_refl _) (by omega))]
    · rw [if_neg (show ¬ (1681 : Int32) ≤ nI k from nI_ge (b := 1681) (by omega) (by omega))]
      rw [ck_nI (by omega) (by omega), show ix (nI k) = k from nI_clamp (by omega), if_pos (H k (by omega)), nI_1]
      exact ih (k + 1) v (by omega) (by omega)
theorem cr_model (k : Nat) (hk : k < 2) (h : PH) (e : h 104 54 = 0) : ∃ r, mm_crumbs (nI k) h = some r ∧ r.1 = 0 := by
  unfold mm_crumbs
  have c : 0 ≤ nI k ∧ nI k ≤ 1 := ⟨nI_pos' (by omega), nI_le (b := 1) (by omega) (by omega)⟩
  simp only [isIn_eq, bd_e, lt_e, if_pos c, show ¬ (1 : Int32) = 0 by decide, if_false]
  have c8 : ∀ {ρ : Type} (q : Option ρ), ck 840 1681 q = q := fun _ => ck_nI (i := 840) (by decide) (by decide)
  simp only [c8]
  have key : ∀ k0 : PH → Option (Int32 × PH), (∀ h', (∀ b, b ≠ 136 → h' b = (up h 104 0 0) b) → (∀ j, j < 1681 → h' 136 j = 0) → ∃ r, k0 h' = some r ∧ r.1 = 0) → ∃ r, mm_crumbs_L19 (nI k) k0 FU 0 (up h 104 0 0) = some r ∧ r.1 = 0 := by
    intro k0 hk0
    obtain ⟨h', q1, q2, q3⟩ := cr_19 (nI k) k0 FU 0 (up h 104 0 0) (by unfold FU; omega) (by omega)
    rw [nI_0] at q1
    rw [q1]
    exact hk0 h' q2 (fun j hj => q3 j hj (Or.inl (by omega)))
  refine key _ (fun h' f1 f2 => ?_)
  have e1 : up h' 136 (ix 840) 1 104 54 = 0 := by rw [up_at, f1 104 (by decide), up_at]; simpa using e
  rw [FU_s, mm_crumbs_L55, if_pos (z_le e1 rfl)]
  have ap : ∀ g : PH, mm_apart 0 0 g = some 0 := fun g => rfl
  by_cases b0 : nI k = 0
  · rw [if_pos b0]
    simp only [ap, bd_e]
    exact ⟨_, rfl, rfl⟩
  · rw [if_neg b0]
    have := cr_185 (up h' 136 (ix 840) 1) (fun j hj => by
      rw [up_at]
      by_cases ej : j = ix 840
      · simp [ej]
      · simp [ej, f2 j hj]) (99999 + 1) 0 0 (by omega) (by omega)
    rw [nI_0] at this
    rw [this]
    exact ⟨_, rfl, rfl⟩
/-! THE GAME of bites: the lost shapes are told, and checked shape by shape -/
def LO : List Nat := [1, 10, 19, 28, 37, 46, 75, 82, 148, 157, 166, 222, 237, 588, 597, 603, 658, 1174, 1197, 1245, 4685, 4692, 4702, 4758, 4763, 4836, 5266, 9380, 9435, 9958, 10038, 10614, 11190, 14070, 14118]
def LO7 : List Nat := [1, 9, 17, 25, 33, 41, 59, 65, 116, 124, 132, 174, 187, 403, 411, 416, 457, 804, 824, 859, 2805, 2811, 2820, 2862, 2866, 2923, 3201, 5618, 5659, 6012, 6075, 6467, 6859, 8427, 8462]
def zz : PH := fun _ _ => 0
def twk (l : List Nat) (w : Nat) : Int32 := l.foldl (fun acc c => if w = ix (nI c >>> (5 &&& 31)) then acc ||| (1 <<< ((nI c &&& 31) &&& 31)) else acc) 0
def hT (l : List Nat) : PH := fun _ => twk l
def chk8 (s : Nat) : Bool := s == 0 || match mL_isShape (nI s) zz with
  | some r => if r = 0 then !LO.contains s else match mL_winningBite (nI s) (hT (LO.filter (fun c => decide (c < s)))) with
    | some x => decide (x = -1) == LO.contains s
    | none => false
  | none => false
set_option maxRecDepth 100000 in
theorem chk8_0 : ∀ d, d < 8 → ∀ c, c < 8 → ∀ b, b < 8 → ∀ a, a < 8 → chk8 (a + 8 * b + 64 * c + 512 * d + 4096 * 0) = true := by decide +kernel
set_option maxRecDepth 100000 in
theorem chk8_1 : ∀ d, d < 8 → ∀ c, c < 8 → ∀ b, b < 8 → ∀ a, a < 8 → chk8 (a + 8 * b + 64 * c + 512 * d + 4096 * 1) = true := by decide +kernel
set_option maxRecDepth 100000 in
theorem chk8_2 : ∀ d, d < 8 → ∀ c, c < 8 → ∀ b, b < 8 → ∀ a, a < 8 → chk8 (a + 8 * b + 64 * c + 512 * d + 4096 * 2) = true := by decide +kernel
set_option maxRecDepth 100000 in
theorem chk8_3 : ∀ d, d < 8 → ∀ c, c < 8 → ∀ b, b < 8 → ∀ a, a < 8 → chk8 (a + 8 * b + 64 * c + 512 * d + 4096 * 3) = true := by decide +kernel
set_option maxRecDepth 100000 in
theorem chk8_4 : ∀ d, d < 8 → ∀ c, c < 8 → ∀ b, b < 8 → ∀ a, a < 8 → chk8 (a + 8 * b + 64 * c + 512 * d + 4096 * 4) = true := by decide +kernel
set_option maxRecDepth 100000 in
theorem chk8_5 : ∀ d, d < 8 → ∀ c, c < 8 → ∀ b, b < 8 → ∀ a, a < 8 → chk8 (a + 8 * b + 64 * c + 512 * d + 4096 * 5) = true := by decide +kernel
set_option maxRecDepth 100000 in
theorem chk8_6 : ∀ d, d < 8 → ∀ c, c < 8 → ∀ b, b < 8 → ∀ a, a < 8 → chk8 (a + 8 * b + 64 * c + 512 * d + 4096 * 6) = true := by decide +kernel
set_option maxRecDepth 100000 in
theorem chk8_7 : ∀ d, d < 8 → ∀ c, c < 8 → ∀ b, b < 8 → ∀ a, a < 8 → chk8 (a + 8 * b + 64 * c + 512 * d + 4096 * 7) = true := by decide +kernel
theorem chk8_all : ∀ e, e < 8 → ∀ d, d < 8 → ∀ c, c < 8 → ∀ b, b < 8 → ∀ a, a < 8 → chk8 (a + 8 * b + 64 * c + 512 * d + 4096 * e) = true
  | 0, _ => chk8_0
  | 1, _ => chk8_1
  | 2, _ => chk8_2
  | 3, _ => chk8_3
  | 4, _ => chk8_4
  | 5, _ => chk8_5
  | 6, _ => chk8_6
  | 7, _ => chk8_7
  | e + 8, h => by omega
theorem chk8_at (s : Nat) (h : s < 32768) : chk8 s = true := by
  have e : s = s % 8 + 8 * (s / 8 % 8) + 64 * (s / 64 % 8) + 512 * (s / 512 % 8) + 4096 * (s / 4096) := by omega
  rw [e]
  exact chk8_all (s / 4096) (by omega) (s / 512 % 8) (by omega) (s / 64 % 8) (by omega) (s / 8 % 8) (by omega) (s % 8) (by omega)
theorem lo_app : ∀ m ∈ LO, LO.filter (fun c => decide (c < m + 1)) = LO.filter (fun c => decide (c < m)) ++ [m] := by decide +kernel
theorem lo_ck : ∀ m ∈ LO, ¬ (nI m >>> (5 &&& 31) < 0 ∨ 1024 ≤ (nI m >>> (5 &&& 31)).toNatClampNeg) := by decide +kernel
theorem lo_no (m : Nat) (h : ¬ m ∈ LO) : LO.filter (fun c => decide (c < m + 1)) = LO.filter (fun c => decide (c < m)) := by
  apply List.filter_congr
  intro c hc
  have : c ≠ m := fun e => h (e ▸ hc)
  simp only [decide_eq_decide]
  omega
theorem twk_app (l : List Nat) (m w : Nat) : twk (l ++ [m]) w = if w = ix (nI m >>> (5 &&& 31)) then twk l w ||| (1 <<< ((nI m &&& 31) &&& 31)) else twk l w := by
  simp only [twk, List.foldl_append, List.foldl_cons, List.foldl_nil]
/-- what the class's methods look at -/
theorem shp_c (p : Int32) (h g : PH) : ∀ (n : Nat) (v1 v2 : Int32), mL_isShape_L5 p h n v1 v2 = mL_isShape_L5 p g n v1 v2 := by
  intro n
  induction n with
  | zero => intro v1 v2; rfl
  | succ n ih =>
    intro v1 v2
    rw [mL_isShape_L5, mL_isShape_L5]
    simp only [mL_lengthOf, bd, ih]
theorem btn_c (p q r : Int32) (h g : PH) : ∀ (n : Nat) (v1 v2 : Int32), mL_bitten_L5 p q r h n v1 v2 = mL_bitten_L5 p q r g n v1 v2 := by
  intro n
  induction n with
  | zero => intro v1 v2; rfl
  | succ n ih =>
    intro v1 v2
    rw [mL_bitten_L5, mL_bitten_L5]
    simp only [mL_lengthOf, bd, jn1, lt, ih]
theorem lst_c (p : Int32) (h g : PH) (e : h 103 = g 103) : mL_isLost p h = mL_isLost p g := by
  unfold mL_isLost
  rw [e]
theorem w16_c (p q r : Int32) (h g : PH) (e : h 103 = g 103) (k k' : Option Int32) (ek : k = k') : ∀ (n : Nat) (v : Int32), mL_winningBite_L16 p q r h k n v = mL_winningBite_L16 p q r g k' n v := by
  subst ek
  intro n
  induction n with
  | zero => intro v; rfl
  | succ n ih =>
    intro v
    rw [mL_winningBite_L16, mL_winningBite_L16]
    simp only [mL_bitten, btn_c p q v h g, lst_c _ h g e, ih]
theorem w2_c (p : Int32) (h g : PH) (e : h 103 = g 103) : ∀ (n : Nat) (v : Int32), mL_winningBite_L2 p h n v = mL_winningBite_L2 p g n v := by
  intro n
  induction n with
  | zero => intro v; rfl
  | succ n ih =>
    intro v
    rw [mL_winningBite_L2, mL_winningBite_L2]
    simp only [mL_lengthOf, bd]
    rw [w16_c p v _ h g e _ _ (ih (v + 1)) FU 0]
theorem wb_c (p : Int32) (h g : PH) (e : h 103 = g 103) : mL_winningBite p h = mL_winningBite p g := w2_c p h g e FU 0
theorem shape_c (p : Int32) (h g : PH) : mL_isShape p h = mL_isShape p g := shp_c p h g FU 6 0
/-- the class learns the lost shapes -/
theorem learn_go : ∀ (n m : Nat) (h : PH), 32768 < n + m → 1 ≤ m → m ≤ 32768 → h 103 = twk (LO.filter (fun c => decide (c < m))) → ∃ h', mL_learn_L2 n (nI m) h = some h' ∧ h' 103 = twk (LO.filter (fun c => decide (c < 32768))) ∧ ∀ b, b ≠ 103 → h' b = h b := by
  intro n
  induction n with
  | zero => intro m h h1 h0 h2; omega
  | succ n ih =>
    intro m h h1 h0 h2 e
    rw [mL_learn_L2]
    by_cases hm : m = 32768
    · subst hm
      rw [if_pos (show (32768 : Int32) ≤ nI 32768 from nI_le (a := 32768) (Nat.le_refl _) (by omega))]
      exact ⟨h, rfl, e, fun _ _ => rfl⟩
    · rw [if_neg (show ¬ (32768 : Int32) ≤ nI m from nI_ge (b := 32768) (by omega) (by omega))]
      have hc := chk8_at m (by omega)
      rw [shape_c (nI m) h zz, wb_c (nI m) h (hT (LO.filter (fun c => decide (c < m)))) e]
      unfold chk8 at hc
      rw [show (m == 0) = false from by simp; omega, Bool.false_or] at hc
      cases hs : mL_isShape (nI m) zz with
      | none => rw [hs] at hc; cases hc
      | some r =>
        rw [hs] at hc
        simp only [bd] at hc ⊢
        by_cases hr : r = 0
        · rw [if_pos hr] at hc ⊢
          have hn : ¬ m ∈ LO := by
            intro q
            rw [List.contains_iff_mem.mpr q] at hc
            cases hc
          rw [nI_1]
          exact ih (m + 1) h (by omega) (by omega) (by omega) (by rw [lo_no m hn]; exact e)
        · rw [if_neg hr] at hc ⊢
          cases hw : mL_winningBite (nI m) (hT (LO.filter (fun c => decide (c < m)))) with
          | none => rw [hw] at hc; cases hc
          | some x =>
            rw [hw] at hc
            simp only at hc ⊢
            by_cases hx : x = -1
            · rw [if_pos hx]
              have hin : m ∈ LO := by
                rw [decide_eq_true hx] at hc
                exact List.contains_iff_mem.mp (by simpa using hc)
              rw [ck_in (lo_ck m hin), ck_in (lo_ck m hin)]
              simp only [lt]
              rw [nI_1]
              obtain ⟨h', q1, q2, q3⟩ := ih (m + 1) (up h 103 (ix (nI m >>> (5 &&& 31))) (h 103 (ix (nI m >>> (5 &&& 31))) ||| (1 <<< ((nI m &&& 31) &&& 31)))) (by omega) (by omega) (by omega) (by
                rw [lo_app m hin]
                funext w
                rw [twk_app, up_at, e]
                simp only [if_true]
                by_cases ew : w = ix (nI m >>> (5 &&& 31))
                · rw [if_pos ew, if_pos ew, ew]
                · rw [if_neg ew, if_neg ew])
              refine ⟨h', q1, q2, fun b hb => ?_⟩
              rw [q3 b hb]
              funext j
              simp [up_at, hb]
            · rw [if_neg hx]
              have hn : ¬ m ∈ LO := by
                intro q
                rw [List.contains_iff_mem.mpr q, decide_eq_false hx] at hc
                cases hc
              rw [nI_1]
              exact ih (m + 1) h (by omega) (by omega) (by omega) (by rw [lo_no m hn]; exact e)
theorem lo_all : LO.filter (fun c => decide (c < 32768)) = LO := by decide +kernel
theorem lo_nil : LO.filter (fun c => decide (c < 1)) = [] := by decide +kernel
def shq (fa : Nat) : Nat → Int32
  | 0 => 0
  | k + 1 => shq fa k ||| (nI fa <<< ((nI k * 3) &&& 31))
theorem bb_21 (hi fa : Nat) (hh : hi < 6) (h : PH) (k0 : Int32 → Option (Int32 × PH)) : ∀ (n k : Nat), hi < n + k → k ≤ hi → mL_bestBite_L21 (nI hi) (nI fa) h k0 n (shq fa k) (nI k) = k0 (shq fa hi) := by
  intro n
  induction n with
  | zero => intro k h1 h2; omega
  | succ n ih =>
    intro k h1 h2
    rw [mL_bestBite_L21]
    by_cases hk : k = hi
    · subst hk
      rw [if_pos (nI_le (Nat.le_refl _) (by omega))]
    · rw [if_neg (nI_ge (by omega) (by omega))]
      simp only [lt]
      rw [nI_1]
      exact ih (k + 1) (by omega) (by omega)
/-- what is known of the class's table of lost shapes -/
def GI (h : PH) : Prop := (h 102 1 = 0 ∧ h 103 = twk []) ∨ (h 102 1 = 1 ∧ h 103 = twk LO)
theorem best_go (hi fa : Nat) (hh : hi < 6) (h : PH) (hG : GI h) (r : Int32) (hr : mL_winningBite (shq fa hi) (hT LO) = some r) : ∃ h', mL_bestBite (nI hi) (nI fa) h = some (r, h') ∧ h' 102 1 = 1 ∧ h' 103 = twk LO ∧ (∀ b, b ≠ 102 → b ≠ 103 → h' b = h b) ∧ ∀ j, j ≠ 1 → h' 102 j = h 102 j := by
  unfold mL_bestBite
  rw [jn1_e]
  have fin : ∀ g : PH, g 103 = twk LO → mL_bestBite_L21 (nI hi) (nI fa) g (fun x4 => bd (mL_winningBite x4 g) fun r5 => some (r5, g)) FU 0 0 = some (r, g) := by
    intro g hg
    have := bb_21 hi fa hh g (fun x4 => bd (mL_winningBite x4 g) fun r5 => some (r5, g)) FU 0 (by unfold FU; omega) (by omega)
    rw [nI_0, show shq fa 0 = 0 from rfl] at this
    rw [this, wb_c _ g (hT LO) hg, hr, bd_e]
  rcases hG with ⟨g1, g2⟩ | ⟨g1, g2⟩
  · rw [if_pos g1]
    obtain ⟨h', q1, q2, q3⟩ := learn_go FU 1 h (by unfold FU; omega) (by omega) (by omega) (by rw [lo_nil]; exact g2)
    unfold mL_learn
    rw [show (1 : Int32) = nI 1 from rfl, q1]
    rw [bd_e, lt_e]
    rw [lo_all] at q2
    have e3 : up h' 102 1 (nI 1) 103 = twk LO := by
      rw [← q2]; funext j; simp [up_at]
    have := fin (up h' 102 1 (nI 1)) e3
    refine ⟨_, this, by simp [up_at], e3, fun b b1 b2 => ?_, fun j hj => ?_⟩
    · rw [← q3 b b2]; funext j; simp [up_at, b1]
    · rw [← q3 102 (by decide)]; simp [up_at, hj]
  · rw [if_neg (by rw [g1]; decide)]
    exact ⟨h, fin h g2, g1, g2, fun _ _ _ => rfl, fun _ _ => rfl⟩
/-! THE GAME: the model's side -/
theorem nI_div {a b : Nat} (ha : a < 2 ^ 31) (hb : b < 2 ^ 31) (h0 : 0 < b) : nI a / nI b = nI (a / b) := by
  apply Int32.toInt_inj.mp
  have hq : a / b < 2 ^ 31 := Nat.lt_of_le_of_lt (Nat.div_le_self a b) ha
  rw [lg_idiv_nonneg (by rw [nI_toInt ha]; omega) (by rw [nI_toInt hb]; omega), nI_toInt ha, nI_toInt hb, nI_toInt hq]
  exact (Int.natCast_ediv a b).symm
theorem nI_mul (a b : Nat) : nI a * nI b = nI (a * b) := (Int32.ofNat_mul a b).symm
theorem nI_sub {a b : Nat} (h : b ≤ a) : nI a - nI b = nI (a - b) := by
  obtain ⟨c, rfl⟩ : ∃ c, a = c + b := ⟨a - b, by omega⟩
  rw [← nI_add, Int32.add_sub_cancel, Nat.add_sub_cancel]
theorem nI_irm {a b : Nat} (ha : a < 2 ^ 31) (hb : b < 2 ^ 31) (h0 : 0 < b) : irm (nI a) (nI b) = nI (a % b) := by
  unfold irm
  rw [nI_div ha hb h0, nI_mul, nI_sub (Nat.div_mul_le_self a b)]
  congr 1
  have := Nat.div_add_mod a b
  rw [Nat.mul_comm] at this
  omega
def gM (s : Nat) : PH := fun b j => if b = 147 then nI (s / 7 ^ j % 7) else if LO7.contains j then 0 else 1
def okB (s row col : Nat) : Bool := match mm_bitten (nI row) (nI col) (gM s) with
  | some t => decide (0 ≤ t) && (decide (1 ≤ ix t) && (decide (ix t < s) && (mm_isSlab (gM (ix t)) == some 1)))
  | none => false
def chk7 (s : Nat) : Bool := s == 0 || match mm_isSlab (gM s) with
  | some r => if r = 0 then true else (r == 1) && ((match mm_goodBite (gM s) with
    | some x => decide (x = -1) == LO7.contains s
    | none => false) && (List.range 5).all (fun row => (List.range 7).all (fun col => !(decide (col < s / 7 ^ row % 7) && decide (0 < row + col)) || okB s row col)))
  | none => false
set_option maxRecDepth 100000 in
theorem chk7_0 : ∀ d, d < 7 → ∀ c, c < 7 → ∀ b, b < 7 → ∀ a, a < 7 → chk7 (a + 7 * b + 49 * c + 343 * d + 2401 * 0) = true := by decide +kernel
set_option maxRecDepth 100000 in
theorem chk7_1 : ∀ d, d < 7 → ∀ c, c < 7 → ∀ b, b < 7 → ∀ a, a < 7 → chk7 (a + 7 * b + 49 * c + 343 * d + 2401 * 1) = true := by decide +kernel
set_option maxRecDepth 100000 in
theorem chk7_2 : ∀ d, d < 7 → ∀ c, c < 7 → ∀ b, b < 7 → ∀ a, a < 7 → chk7 (a + 7 * b + 49 * c + 343 * d + 2401 * 2) = true := by decide +kernel
set_option maxRecDepth 100000 in
theorem chk7_3 : ∀ d, d < 7 → ∀ c, c < 7 → ∀ b, b < 7 → ∀ a, a < 7 → chk7 (a + 7 * b + 49 * c + 343 * d + 2401 * 3) = true := by decide +kernel
set_option maxRecDepth 100000 in
theorem chk7_4 : ∀ d, d < 7 → ∀ c, c < 7 → ∀ b, b < 7 → ∀ a, a < 7 → chk7 (a + 7 * b + 49 * c + 343 * d + 2401 * 4) = true := by decide +kernel
set_option maxRecDepth 100000 in
theorem chk7_5 : ∀ d, d < 7 → ∀ c, c < 7 → ∀ b, b < 7 → ∀ a, a < 7 → chk7 (a + 7 * b + 49 * c + 343 * d + 2401 * 5) = true := by decide +kernel
set_option maxRecDepth 100000 in
theorem chk7_6 : ∀ d, d < 7 → ∀ c, c < 7 → ∀ b, b < 7 → ∀ a, a < 7 → chk7 (a + 7 * b + 49 * c + 343 * d + 2401 * 6) = true := by decide +kernel
theorem chk7_all : ∀ e, e < 7 → ∀ d, d < 7 → ∀ c, c < 7 → ∀ b, b < 7 → ∀ a, a < 7 → chk7 (a + 7 * b + 49 * c + 343 * d + 2401 * e) = true
  | 0, _ => chk7_0
  | 1, _ => chk7_1
  | 2, _ => chk7_2
  | 3, _ => chk7_3
  | 4, _ => chk7_4
  | 5, _ => chk7_5
  | 6, _ => chk7_6
  | e + 7, h => by omega
theorem chk7_at (s : Nat) (h : s < 16807) : chk7 s = true := by
  have e : s = s % 7 + 7 * (s / 7 % 7) + 49 * (s / 49 % 7) + 343 * (s / 343 % 7) + 2401 * (s / 2401) := by omega
  rw [e]
  exact chk7_all (s / 2401) (by omega) (s / 343 % 7) (by omega) (s / 49 % 7) (by omega) (s / 7 % 7) (by omega) (s % 7) (by omega)
/-- a number's digits -/
theorem ts_4 : ∀ (n k x : Nat) (h : PH), 5 < n + k → k ≤ 5 → x < 2 ^ 31 → ∃ h', mm_takesSlab_L4 n (nI x) (nI k) h = some h' ∧ (∀ b, b ≠ 147 → h' b = h b) ∧ (∀ j, j < k → h' 147 j = h 147 j) ∧ ∀ i, k + i < 5 → h' 147 (k + i) = nI (x / 7 ^ i % 7) := by
  intro n
  induction n with
  | zero => intro k x h h1 h2; omega
  | succ n ih =>
    intro k x h h1 h2 hx
    rw [mm_takesSlab_L4]
    by_cases hk : k = 5
    · subst hk
      rw [if_pos (show (5 : Int32) ≤ nI 5 from nI_le (a := 5) (Nat.le_refl _) (by omega))]
      exact ⟨h, rfl, fun _ _ => rfl, fun _ _ => rfl, fun i hi => by omega⟩
    · rw [if_neg (show ¬ (5 : Int32) ≤ nI k from nI_ge (b := 5) (by omega) (by omega))]
      have dz7 : ∀ {ρ : Type} (q : Option ρ), dz 7 q = q := fun _ => if_neg (by decide)
      rw [dz7, ck_nI (by omega) (by omega), lt_e, dz7, lt_e]
      rw [show (7 : Int32) = nI 7 from rfl, nI_irm hx (by decide) (by decide), nI_div hx (by decide) (by decide), nI_1, show ix (nI k) = k from nI_clamp (by omega)]
      obtain ⟨h', q1, q2, q3, q4⟩ := ih (k + 1) (x / 7) (up h 147 k (nI (x % 7))) (by omega) (by omega) (by omega)
      refine ⟨h', q1, fun b hb => ?_, fun j hj => ?_, fun i hi => ?_⟩
      · rw [q2 b hb]; funext j; simp [up_at, hb]
      · rw [q3 j (by omega)]
        have : ¬ j = k := by omega
        simp [up_at, this]
      · match i with
        | 0 => rw [Nat.add_zero, q3 k (by omega)]; simp [up_at]
        | i + 1 =>
          rw [show k + (i + 1) = k + 1 + i by omega, q4 i (by omega)]
          congr 2
          rw [Nat.div_div_eq_div_mul, Nat.pow_succ, Nat.mul_comm 7]
theorem ts_at (x : Nat) (h : PH) (hx : x < 2 ^ 31) : ∃ h', mm_takesSlab (nI x) h = some h' ∧ (∀ b, b ≠ 147 → h' b = h b) ∧ ∀ j, j < 5 → h' 147 j = gM x 147 j := by
  unfold mm_takesSlab
  obtain ⟨h', q1, q2, -, q4⟩ := ts_4 FU 0 x h (by unfold FU; omega) (by omega) hx
  rw [nI_0] at q1
  refine ⟨h', q1, q2, fun j hj => ?_⟩
  have := q4 j (by omega)
  rw [Nat.zero_add] at this
  rw [this]
  rfl
theorem sl_c (h g : PH) (e : ∀ j, j < 5 → h 147 j = g 147 j) : ∀ (n k : Nat), k < 5 → mm_isSlab_L2 h n (nI (k + 1)) = mm_isSlab_L2 g n (nI (k + 1)) := by
  intro n
  induction n with
  | zero => intro k hk; rfl
  | succ n ih =>
    intro k hk
    rw [mm_isSlab_L2, mm_isSlab_L2]
    by_cases h4 : k = 4
    · subst h4
      rw [if_pos (show (5 : Int32) ≤ nI (4 + 1) by decide), if_pos (show (5 : Int32) ≤ nI (4 + 1) by decide)]
    · rw [if_neg (show ¬ (5 : Int32) ≤ nI (k + 1) from nI_ge (b := 5) (by omega) (by omega)), if_neg (show ¬ (5 : Int32) ≤ nI (k + 1) from nI_ge (b := 5) (by omega) (by omega)), nI_pred, ck_nI (by omega) (by omega), ck_nI (by omega) (by omega), ck_nI (by omega) (by omega), ck_nI (by omega) (by omega), show ix (nI (k + 1)) = k + 1 from nI_clamp (by omega), show ix (nI k) = k from nI_clamp (by omega), e k (by omega), e (k + 1) (by omega), nI_1, ih (k + 1) (by omega)]
theorem slab_c (h g : PH) (e : ∀ j, j < 5 → h 147 j = g 147 j) : mm_isSlab h = mm_isSlab g := sl_c h g e FU 0 (by decide)
theorem bi_c (p q : Int32) (h g : PH) (e : ∀ j, j < 5 → h 147 j = g 147 j) : ∀ (n k : Nat) (v : Int32), k ≤ 5 → mm_bitten_L5 p q h n v (nI k + (-1)) = mm_bitten_L5 p q g n v (nI k + (-1)) := by
  intro n
  induction n with
  | zero => intro k v hk; rfl
  | succ n ih =>
    intro k v hk
    rw [mm_bitten_L5, mm_bitten_L5]
    match k, hk with
    | 0, _ => rw [if_pos (show nI 0 + (-1) < 0 by decide), if_pos (show nI 0 + (-1) < 0 by decide)]
    | k + 1, hk =>
      have ek : nI (k + 1) + (-1) = nI k := by
        rw [← nI_pred k]; exact (Int32.sub_eq_add_neg _ _).symm
      rw [ek, if_neg (nI_pos (by omega)), if_neg (nI_pos (by omega))]
      simp only [ck_nI (show k < 5 by omega) (show 5 < 2 ^ 31 by decide), show ix (nI k) = k from nI_clamp (by omega), e k (by omega), lesser_eq, bd, lt, ih k _ (by omega)]
theorem bitten_c (p q : Int32) (h g : PH) (e : ∀ j, j < 5 → h 147 j = g 147 j) : mm_bitten p q h = mm_bitten p q g := by
  have := bi_c p q h g e FU 5 0 (by decide)
  rw [show nI 5 + (-1) = 4 by decide] at this
  exact this
theorem gb_9 (row : Nat) (hrow : row < 5) (h g : PH) (e : ∀ j, j < 5 → h 147 j = g 147 j) (d : Nat) (hd : d ≤ 7) (ed : g 147 row = nI d) (hB : ∀ col, col < d → 0 < row + col → ∃ t, mm_bitten (nI row) (nI col) g = some t ∧ h 146 (ix t) = g 146 (ix t)) (k k' : Option Int32) (ek : k = k') :
    ∀ (n col : Nat), col ≤ d → mm_goodBite_L9 (nI row) h k n (nI col) = mm_goodBite_L9 (nI row) g k' n (nI col) := by
  subst ek
  intro n
  induction n with
  | zero => intro col hc; rfl
  | succ n ih =>
    intro col hc
    rw [mm_goodBite_L9, mm_goodBite_L9]
    rw [ck_nI (by omega) (by omega), ck_nI (by omega) (by omega), show ix (nI row) = row from nI_clamp (by omega), e row hrow, ed]
    by_cases hcd : col = d
    · subst hcd
      rw [if_pos (nI_le (Nat.le_refl _) (by omega)), if_pos (nI_le (Nat.le_refl _) (by omega))]
    · rw [if_neg (nI_ge (by omega) (by omega)), if_neg (nI_ge (by omega) (by omega)), nI_add, nI_1]
      by_cases h0 : row + col = 0
      · rw [h0, if_pos (show nI 0 ≤ 0 by decide), if_pos (show nI 0 ≤ 0 by decide)]
        exact ih (col + 1) (by omega)
      · rw [if_neg (nI_nle (by omega) (by omega)), if_neg (nI_nle (by omega) (by omega)), bitten_c _ _ h g e]
        obtain ⟨t, q1, q2⟩ := hB col (by omega) (by omega)
        rw [q1]
        simp only [bd]
        rw [q2, ih (col + 1) (by omega)]
theorem gb_2 (h g : PH) (e : ∀ j, j < 5 → h 147 j = g 147 j) (hd : ∀ row, row < 5 → ∃ d, d ≤ 7 ∧ g 147 row = nI d ∧ ∀ col, col < d → 0 < row + col → ∃ t, mm_bitten (nI row) (nI col) g = some t ∧ h 146 (ix t) = g 146 (ix t)) :
    ∀ (n row : Nat), row ≤ 5 → mm_goodBite_L2 h n (nI row) = mm_goodBite_L2 g n (nI row) := by
  intro n
  induction n with
  | zero => intro row hr; rfl
  | succ n ih =>
    intro row hr
    rw [mm_goodBite_L2, mm_goodBite_L2]
    by_cases h5 : row = 5
    · subst h5
      rw [if_pos (show (5 : Int32) ≤ nI 5 by decide), if_pos (show (5 : Int32) ≤ nI 5 by decide)]
    · rw [if_neg (show ¬ (5 : Int32) ≤ nI row from nI_ge (b := 5) (by omega) (by omega)), if_neg (show ¬ (5 : Int32) ≤ nI row from nI_ge (b := 5) (by omega) (by omega)), nI_1]
      obtain ⟨d, d1, d2, d3⟩ := hd row (by omega)
      have := gb_9 row (by omega) h g e d d1 d2 d3 _ _ (ih (row + 1) (by omega)) FU 0 (by omega)
      rw [nI_0] at this
      exact this
/-- what the model's table holds below m -/
def DW (h : PH) (m : Nat) : Prop := ∀ t, 1 ≤ t → t < m → mm_isSlab (gM t) = some 1 → h 146 t = if LO7.contains t then 0 else 1
theorem good_at (s : Nat) (h0 : 1 ≤ s) (hs : s < 16807) (h : PH) (e : ∀ j, j < 5 → h 147 j = gM s 147 j) (hD : DW h s) (hv : mm_isSlab (gM s) = some 1) : mm_goodBite h = mm_goodBite (gM s) ∧ ∃ x, mm_goodBite (gM s) = some x ∧ (x = -1 ↔ LO7.contains s = true) := by
  have hc := chk7_at s hs
  unfold chk7 at hc
  rw [show (s == 0) = false from by simp; omega, Bool.false_or, hv] at hc
  simp only [show ¬ (1 : Int32) = 0 by decide, if_false, Bool.and_eq_true] at hc
  obtain ⟨-, h1, h2⟩ := hc
  constructor
  · have := gb_2 h (gM s) e (fun row hrow => ⟨s / 7 ^ row % 7, by have := Nat.mod_lt (s / 7 ^ row) (show 0 < 7 by decide); omega, rfl, fun col hcol h0 => ?_⟩) FU 0 (by omega)
    · rw [nI_0] at this
      exact this
    · have r1 := List.all_eq_true.mp h2 row (List.mem_range.mpr hrow)
      have c7 : col < 7 := by have := Nat.mod_lt (s / 7 ^ row) (show 0 < 7 by decide); omega
      have r2 := List.all_eq_true.mp r1 col (List.mem_range.mpr c7)
      rw [decide_eq_true hcol, decide_eq_true h0] at r2
      simp only [Bool.and_self, Bool.not_true, Bool.false_or] at r2
      unfold okB at r2
      cases ht : mm_bitten (nI row) (nI col) (gM s) with
      | none => rw [ht] at r2; cases r2
      | some t =>
        rw [ht] at r2
        simp only [Bool.and_eq_true, decide_eq_true_eq, beq_iff_eq] at r2
        obtain ⟨-, t1, t2, t3⟩ := r2
        exact ⟨t, rfl, by rw [hD (ix t) t1 t2 t3]; rfl⟩
  · cases hw : mm_goodBite (gM s) with
    | none => rw [hw] at h1; cases h1
    | some x =>
      rw [hw] at h1
      refine ⟨x, rfl, ?_⟩
      simp only [beq_iff_eq] at h1
      rw [← h1, decide_eq_true_eq]
theorem slab_01 (s : Nat) (h0 : 1 ≤ s) (hs : s < 16807) : mm_isSlab (gM s) = some 0 ∨ mm_isSlab (gM s) = some 1 := by
  have hc := chk7_at s hs
  unfold chk7 at hc
  rw [show (s == 0) = false from by simp; omega, Bool.false_or] at hc
  cases hw : mm_isSlab (gM s) with
  | none => rw [hw] at hc; cases hc
  | some r =>
    rw [hw] at hc
    simp only at hc
    by_cases hr : r = 0
    · exact Or.inl (by rw [hr])
    · rw [if_neg hr] at hc
      simp only [Bool.and_eq_true, beq_iff_eq] at hc
      exact Or.inr (by rw [hc.1])
theorem gm_55 (A : Nat) (hA : A < 16807) (k0 : PH → Option (Int32 × PH)) : ∀ (n m : Nat) (h : PH), A + 1 < n + m → 1 ≤ m → m ≤ A + 1 → DW h m → ∃ h', mm_game_L55 (nI A) k0 n (nI m) h = k0 h' ∧ DW h' (A + 1) ∧ ∀ b, b ≠ 146 → b ≠ 147 → h' b = h b := by
  intro n
  induction n with
  | zero => intro m h h1 h2; omega
  | succ n ih =>
    intro m h h1 h2 h3 hD
    rw [mm_game_L55]
    by_cases hm : m = A + 1
    · subst hm
      rw [if_pos (nI_lt (by omega) (by omega))]
      exact ⟨h, rfl, hD, fun _ _ _ => rfl⟩
    · rw [if_neg (nI_nlt (by omega) (by omega))]
      obtain ⟨g, q1, q2, q3⟩ := ts_at m h (by omega)
      rw [q1]
      simp only [bd, jn1]
      have hDg : DW g m := fun t t1 t2 t3 => by rw [q2 146 (by decide)]; exact hD t t1 t2 t3
      have go : ∀ v : Int32, (mm_isSlab (gM m) = some 1 → v = if LO7.contains m then 0 else 1) → ∃ h', (ck (nI m) 16807 <| lt (up g 146 (ix (nI m)) v) fun h10 => mm_game_L55 (nI A) k0 n (nI m + 1) h10) = k0 h' ∧ DW h' (A + 1) ∧ ∀ b, b ≠ 146 → b ≠ 147 → h' b = h b := by
        intro v hv
        rw [ck_nI (by omega) (by omega), show ix (nI m) = m from nI_clamp (by omega)]
        simp only [lt]
        rw [nI_1]
        obtain ⟨h', r1, r2, r3⟩ := ih (m + 1) (up g 146 m v) (by omega) (by omega) (by omega) (fun t t1 t2 t3 => by
          by_cases ht : t = m
          · subst ht; rw [← hv t3]; simp [up_at]
          · have := hDg t t1 (by omega) t3
            rw [← this]; simp [up_at, ht])
        refine ⟨h', r1, r2, fun b b1 b2 => ?_⟩
        rw [r3 b b1 b2, ← q2 b b2]
        funext j
        simp [up_at, b1]
      rw [slab_c g (gM m) q3]
      rcases slab_01 m h2 (by omega) with hs | hs
      · rw [hs]
        simp only [if_true]
        exact go 0 (fun q => by rw [hs] at q; cases q)
      · rw [hs]
        simp only [show ¬ (1 : Int32) = 0 by decide, if_false]
        obtain ⟨e1, x, e2, e3⟩ := good_at m h2 (by omega) g q3 hDg hs
        rw [e1, e2]
        simp only
        by_cases hx : x = -1
        · rw [if_pos hx]
          exact go 0 (fun _ => by rw [e3.mp hx]; rfl)
        · rw [if_neg hx]
          have : LO7.contains m = false := by
            cases hq : LO7.contains m with
            | false => rfl
            | true => exact absurd (e3.mpr hq) hx
          exact go 1 (fun _ => by rw [this]; rfl)
def amN (fa : Nat) : Nat → Nat
  | 0 => 0
  | k + 1 => 7 * amN fa k + fa
theorem gm_33 (hi fa : Nat) (hh : hi < 6) (h : PH) (k0 : Int32 → Option (Int32 × PH)) : ∀ (n k : Nat), hi < n + k → k ≤ hi → mm_game_L33 (nI hi) (nI fa) h k0 n (nI (amN fa k)) (nI k) = k0 (nI (amN fa hi)) := by
  intro n
  induction n with
  | zero => intro k h1 h2; omega
  | succ n ih =>
    intro k h1 h2
    rw [mm_game_L33]
    by_cases hk : k = hi
    · subst hk
      rw [if_pos (nI_le (Nat.le_refl _) (by omega))]
    · rw [if_neg (nI_ge (by omega) (by omega))]
      simp only [lt]
      rw [show (7 : Int32) = nI 7 from rfl, nI_mul, nI_add, nI_1]
      exact ih (k + 1) (by omega) (by omega)
theorem gm_fk : ∀ hi, hi < 6 → ∀ fa, fa < 7 → (decide (hi = 0) || (decide (fa = 0) || (decide (1 ≤ amN fa hi) && (decide (amN fa hi < 16807) && ((mm_isSlab (gM (amN fa hi)) == some 1) && (mL_winningBite (shq fa hi) (hT LO) == mm_goodBite (gM (amN fa hi)))))))) = true := by decide +kernel
theorem gm_fin (hi : Nat) (h1 : hi < 6) (h2 : 1 ≤ hi) (fa : Nat) (h3 : fa < 7) (h4 : 1 ≤ fa) : 1 ≤ amN fa hi ∧ amN fa hi < 16807 ∧ mm_isSlab (gM (amN fa hi)) = some 1 ∧ mL_winningBite (shq fa hi) (hT LO) = mm_goodBite (gM (amN fa hi)) := by
  have := gm_fk hi h1 fa h3
  rw [decide_eq_false (show ¬ hi = 0 by omega), decide_eq_false (show ¬ fa = 0 by omega), Bool.false_or, Bool.false_or] at this
  simpa only [Bool.and_eq_true, decide_eq_true_eq, beq_iff_eq] using this
