section
/-! what the first claim proved and this one can use. Taken out of claims/p1 (80-88) by wip/gen/pbase2.py -/
theorem up_at (h : PH) (a j : Nat) (x : Int32) (b i : Nat) : up h a j x b i = if b = a then (if i = j then x else h a i) else h b i := by
  unfold up setC upd
  by_cases hb : b = a
  · subst hb; simp
  · simp [hb]
theorem ck_in {ρ : Type} {i : Int32} {n : Nat} {k : Option ρ} (h : vp_in i n) : ck i n k = k := by
  unfold ck; exact if_neg h
theorem ck_nI {ρ : Type} {i n : Nat} {k : Option ρ} (h : i < n) (hn : n < 2 ^ 31) : ck (nI i) n k = k := ck_in (vp_in_nI h hn)
theorem dz_nz {ρ : Type} {y : Int32} {k : Option ρ} (h : ¬ y = 0) : dz y k = k := by unfold dz; exact if_neg h
theorem lesser_eq (x y : Int32) (h : PH) : mm_lesser x y h = some (imin y x) := by
  unfold mm_lesser imin
  split
  · rename_i c
    first | rfl | (simp only [c]; try rfl) | simp [Int32.not_lt.mpr c]
  · rename_i c
    first | rfl | (simp only [c]; try rfl) | simp [Int32.not_le.mp c]
theorem mort_sim (q p w w' : Int32) (h1 h2 : PH) (kc : Int32 → Int32 → Option Int32) (km : Int32 → Int32 → Option (Int32 × PH)) (hk : ∀ x y, km x y = (kc x y).map (fun r => (r, h2))) :
    ∀ (n : Nat) (a b c : Int32), mm_mortgage_L62 q p w h2 km n a b c = (mK_payOff_L9 q p w' h1 kc n a b c).map (fun r => (r, h2)) := by
  have hz : ¬ (100 : Int32) = 0 := by decide
  intro n
  induction n with
  | zero => intro a b c; rfl
  | succ n ih =>
    intro a b c
    unfold mm_mortgage_L62 mK_payOff_L9
    simp only [lt, dz_nz hz, lesser_eq, bd]
    by_cases c1 : 400 < c
    · simp [c1]
    · simp only [c1, if_false]
      generalize a + (a * q + 99) / 100 = x
      by_cases c2 : x = imin p x
      · rw [if_pos c2, if_pos c2.symm]
        exact hk _ _
      · have c2' : ¬ imin p x = x := fun e => c2 e.symm
        rw [if_neg c2, if_neg c2']
        by_cases c3 : x - imin p x < a
        · rw [if_pos c3, if_pos c3]
          exact ih _ _ _
        · rw [if_neg c3, if_neg c3]
          rfl
theorem mort_some (q p w : Int32) (h : PH) (kc : Int32 → Int32 → Option Int32) (hk : ∀ x y, ∃ r, kc x y = some r) : ∀ (n k : Nat) (a b : Int32), 401 < n + k → k ≤ 401 → ∃ r, mK_payOff_L9 q p w h kc n a b (nI k) = some r := by
  have hz : ¬ (100 : Int32) = 0 := by decide
  intro n
  induction n with
  | zero => intro k a b h1 h2; omega
  | succ n ih =>
    intro k a b h1 h2
    unfold mK_payOff_L9
    simp only [lt, dz_nz hz]
    by_cases c1 : 400 < nI k
    · exact ⟨_, if_pos c1⟩
    · rw [if_neg c1]
      have hk2 : k ≤ 400 := by
        rcases Nat.lt_or_ge 400 k with q | q
        · exact absurd (nI_lt (a := 400) q (by omega)) c1
        · exact q
      split
      · exact hk _ _
      · split
        · rw [nI_1]; exact ih (k + 1) _ _ (by omega) (by omega)
        · exact ⟨_, rfl⟩
theorem within_eq (v a b : Int32) (h : PH) : mX_within v a b h = some (if a ≤ v ∧ v ≤ b then 1 else 0) := by
  unfold mX_within
  by_cases c0 : v < a
  · have c1 : ¬ a ≤ v := Int32.not_le.mpr c0
    simp [c0, c1]
  · have c1 : a ≤ v := Int32.not_lt.mp c0
    by_cases c2 : b < v
    · have c3 : ¬ v ≤ b := Int32.not_le.mpr c2
      simp [c0, c2, c3]
    · have c3 : v ≤ b := Int32.not_lt.mp c2
      simp [c0, c1, c2, c3]
theorem isIn_eq (v a b : Int32) (h : PH) : mm_isIn v a b h = some (if a ≤ v ∧ v ≤ b then 1 else 0) := by
  unfold mm_isIn
  by_cases c0 : v < a
  · have c1 : ¬ a ≤ v := Int32.not_le.mpr c0
    simp [c0, c1]
  · have c1 : a ≤ v := Int32.not_lt.mp c0
    by_cases c2 : b < v
    · have c3 : ¬ v ≤ b := Int32.not_le.mpr c2
      simp [c0, c2, c3]
    · have c3 : v ≤ b := Int32.not_lt.mp c2
      simp [c0, c1, c2, c3]
theorem payOff_some (a q p w : Int32) (h : PH) : ∃ r, mK_payOff a q p w h = some r := by
  unfold mK_payOff
  exact mort_some q p w h _ (fun x y => by by_cases c : w = 0 <;> simp [c]) FU 1 a 0 (by unfold FU; omega) (by omega)
def wst : Nat → Int32 × Int32 × Int32 × Int32 × Int32
  | 0 => (1, 0, 0, 0, 0)
  | n + 1 => ((((wst n).1 + (wst n).2.2.2.1) + (wst n).2.1) + (wst n).2.2.2.2, (wst n).1, (wst n).2.1, (wst n).2.2.1, (wst n).2.2.2.1)
def wo (n : Nat) : Int32 := (wst n).1
def wt (n : Nat) : Int32 := (wst n).2.2.2.1
theorem ni_sub (m c : Nat) : nI (m + c) - nI c = nI m := by
  rw [← nI_add]; exact Int32.add_sub_cancel _ _
theorem win_class (N : Nat) (hN : N ≤ 20) (h : PH) : ∀ (n k : Nat), N < n + k → k ≤ N → mK_windowWays_L15 (nI N) h n (wst k).1 (wst k).2.1 (wst k).2.2.1 (wst k).2.2.2.1 (wst k).2.2.2.2 (nI (k + 1)) = some (wo N + wt N) := by
  intro n
  induction n with
  | zero => intro k h1 h2; omega
  | succ n ih =>
    intro k h1 h2
    unfold mK_windowWays_L15
    by_cases hk : k = N
    · subst hk
      rw [if_pos (nI_lt (by omega) (by omega))]
      rfl
    · rw [if_neg (nI_nlt (by omega) (by omega))]
      have := ih (k + 1) (by omega) (by omega)
      rw [nI_1]
      exact this
theorem win_model (N : Nat) (hN : N ≤ 20) (k0 : PH → Option (Int32 × PH)) : ∀ (n k : Nat) (h : PH), N + 1 < n + k → k ≤ N + 1 → (∀ u, u < k → h 142 u = wo u ∧ h 143 u = wt u) → ∃ hf, mm_window_L20 (nI N) k0 n (nI k) h = k0 hf ∧ ∀ u, u ≤ N → hf 142 u = wo u ∧ hf 143 u = wt u := by
  intro n
  induction n with
  | zero => intro k h h1 h2; omega
  | succ n ih =>
    intro k h h1 h2 hu
    unfold mm_window_L20
    by_cases hk : k = N + 1
    · subst hk
      rw [if_pos (nI_lt (by omega) (by omega))]
      exact ⟨h, rfl, fun u hu' => hu u (by omega)⟩
    · rw [if_neg (nI_nlt (by omega) (by omega))]
      have ckk : ∀ (ρ : Type) (q : Option ρ), ck (nI k) 21 q = q := fun _ _ => ck_nI (by omega) (by omega)
      have ixk : ix (nI k) = k := nI_clamp (by omega)
      have go : ∀ (x9 : Int32) (h7 : PH), (h7 142 k = wo k) → x9 = wt k → (∀ u, u < k → h7 142 u = wo u ∧ h7 143 u = wt u) → ∃ hf, mm_window_L20 (nI N) k0 n (nI k + 1) (up h7 143 k x9) = k0 hf ∧ ∀ u, u ≤ N → hf 142 u = wo u ∧ hf 143 u = wt u := by
        intro x9 h7 e1 e2 e3
        rw [nI_1]
        refine ih (k + 1) _ (by omega) (by omega) (fun u hu' => ?_)
        by_cases huk : u = k
        · subst huk
          simp [up_at, e1, e2]
        · have := e3 u (by omega)
          simp [up_at, huk, this]
      match k, hk, hu, ckk, ixk, go with
      | 0, hk, hu, ckk, ixk, go =>
        simp only [jn1, lt, ckk, ixk, show nI 0 = 0 from nI_0, show (0 : Int32) ≤ 1 by decide, show (0 : Int32) ≤ 2 by decide, if_true]
        simp only [nI_0] at go ckk ixk
        simp only [ckk, ixk]
        exact go _ _ (by simp [up_at]; rfl) rfl (fun u hu' => by omega)
      | 1, hk, hu, ckk, ixk, go =>
        have a0 : nI 1 - 1 = nI 0 := nI_pred 0
        have c0 : ∀ (ρ : Type) (q : Option ρ), ck (nI 0) 21 q = q := fun _ _ => ck_nI (by omega) (by omega)
        have i0 : ix (nI 0) = 0 := nI_clamp (by omega)
        have z1 : ¬ nI 1 = 0 := nI_ne0 (by omega) (by omega)
        have z2 : nI 1 ≤ 1 := nI_le (a := 1) (b := 1) (by omega) (by omega)
        have z3 : nI 1 ≤ 2 := nI_le (a := 1) (b := 2) (by omega) (by omega)
        simp only [jn1, lt, ckk, ixk, z1, z2, z3, if_true, if_false, a0, c0, i0]
        have := hu 0 (by omega)
        exact go _ _ (by simp [up_at, this]; rfl) rfl (fun u hu' => by
          have hz : u = 0 := by omega
          subst hz
          simp [up_at, this])
      | k + 2, hk, hu, ckk, ixk, go =>
        have a1 : nI (k + 2) - 1 = nI (k + 1) := nI_pred (k + 1)
        have a2 : nI (k + 2) - 2 = nI k := ni_sub k 2
        have c1 : ∀ (ρ : Type) (q : Option ρ), ck (nI (k + 1)) 21 q = q := fun _ _ => ck_nI (by omega) (by omega)
        have c2 : ∀ (ρ : Type) (q : Option ρ), ck (nI k) 21 q = q := fun _ _ => ck_nI (by omega) (by omega)
        have i1 : ix (nI (k + 1)) = k + 1 := nI_clamp (by omega)
        have i2 : ix (nI k) = k := nI_clamp (by omega)
        have z1 : ¬ nI (k + 2) = 0 := nI_ne0 (by omega) (by omega)
        have z2 : ¬ nI (k + 2) ≤ 1 := nI_ge (a := 1) (by omega) (by omega)
        have u0 := hu k (by omega)
        have u1 := hu (k + 1) (by omega)
        simp only [jn1, lt, ckk, ixk, z1, z2, if_false, a1, a2, c1, c2, i1, i2]
        have key : ∀ x9, x9 = wt (k + 2) → ∃ hf, mm_window_L20 (nI N) k0 n (nI (k + 2) + 1) (up (up (up h 142 (k + 2) (h 142 (k + 1) + h 143 (k + 1))) 142 (k + 2) (up h 142 (k + 2) (h 142 (k + 1) + h 143 (k + 1)) 142 (k + 2) + up h 142 (k + 2) (h 142 (k + 1) + h 143 (k + 1)) 142 k + up h 142 (k + 2) (h 142 (k + 1) + h 143 (k + 1)) 143 k)) 143 (k + 2) x9) = k0 hf ∧ ∀ u, u ≤ N → hf 142 u = wo u ∧ hf 143 u = wt u := by
          intro x9 hx
          refine go _ _ ?_ hx (fun u hu' => ?_)
          · simp [up_at, u0, u1]
            rfl
          · have := hu u hu'
            have hne : ¬ u = k + 2 := by omega
            simp [up_at, hne, this]
        by_cases h3 : nI (k + 2) ≤ 2
        · rw [if_pos h3]
          have hk0 : k = 0 := by
            rcases Nat.eq_zero_or_pos k with q | q
            · exact q
            · exact absurd h3 (nI_ge (a := 2) (by omega) (by omega))
          subst hk0
          exact key _ rfl
        · rw [if_neg h3]
          have hk1 : 1 ≤ k := by
            rcases Nat.eq_zero_or_pos k with q | q
            · subst q; exact absurd (nI_le (a := 2) (b := 2) (by omega) (by omega)) h3
            · exact q
          obtain ⟨j, rfl⟩ : ∃ j, k = j + 1 := ⟨k - 1, by omega⟩
          have a3 : nI (j + 1 + 2) - 3 = nI j := ni_sub j 3
          have c3 : ∀ (ρ : Type) (q : Option ρ), ck (nI j) 21 q = q := fun _ _ => ck_nI (by omega) (by omega)
          have i3 : ix (nI j) = j := nI_clamp (by omega)
          rw [a3, c3]
          refine key _ ?_
          have := hu j (by omega)
          have n1 : ¬ j = j + 1 + 2 := by omega
          simp [up_at, i3, n1, this]
          rfl
theorem win_in {a : Int32} (h1 : 1 ≤ a) (h2 : a ≤ 20) : ∃ N, 1 ≤ N ∧ N ≤ 20 ∧ a = nI N := by
  obtain ⟨j, hj, e⟩ := nI_of2 (x := a) (M := 20) (n := 20) rfl (Int32.not_lt.mpr (Int32.le_trans (by decide) h1)) h2
  refine ⟨j, ?_, hj, e⟩
  rcases Nat.eq_zero_or_pos j with q | q
  · subst q
    rw [e] at h1
    exact absurd h1 (by decide)
  · exact q
theorem wr_at {a0 i k n : Nat} {h : PH} (e : h a0 1 = nI n) (hi : i < n) (hn : n ≤ 12) (hk : k < 11) (v : Int32) : mB_write a0 (nI i) (nI k) v h = some (up h (a0 + 1) (11 * i + k) v) := by
  unfold mB_write
  have e1 : nI i * 11 + nI k = nI (11 * i + k) := by
    rw [show nI i * 11 = nI (i * 11) from (Int32.ofNat_mul i 11).symm, nI_add, Nat.mul_comm]
  rw [if_neg (nI_pos (by omega)), e, if_neg (nI_ge hi (by omega)), if_neg (nI_pos (by omega)), if_neg (show ¬ (11 : Int32) ≤ nI k from nI_ge (b := 11) hk (by omega)), e1, ck_nI (by omega) (by omega), show ix (nI (11 * i + k)) = 11 * i + k from nI_clamp (by omega)]
  rfl
theorem bu_19 (a0 n : Nat) (hn : n < 12) (p1 p2 p3 : Int32) (k0 : PH → Option (Int32 × PH)) : ∀ (f w : Nat) (h : PH), 4 < f + w → w ≤ 4 → h a0 1 = nI (n + 1) → ∃ h', mB_build_L19 a0 p1 p2 p3 (nI n) k0 f (nI w) h = k0 h' ∧ ∀ b, b ≠ a0 + 1 → h' b = h b := by
  intro f
  induction f with
  | zero => intro w h h1 h2; omega
  | succ f ih =>
    intro w h h1 h2 e
    rw [mB_build_L19]
    by_cases hw : w = 4
    · subst hw
      rw [if_pos (show (4 : Int32) ≤ nI 4 by decide)]
      exact ⟨h, rfl, fun _ _ => rfl⟩
    · rw [if_neg (show ¬ (4 : Int32) ≤ nI w from nI_ge (b := 4) (by omega) (by omega)), wr_at e (by omega) (by omega) (by omega)]
      simp only [bd]
      rw [nI_1]
      have ha : ¬ a0 = a0 + 1 := by omega
      obtain ⟨h', q1, q2⟩ := ih (w + 1) (up h (a0 + 1) (11 * n + w) p1) (by omega) (by omega) (by rw [up_at, if_neg ha]; exact e)
      refine ⟨h', q1, fun b hb => ?_⟩
      rw [q2 b hb]
      funext j
      simp [up_at, hb]
theorem bu_at (a0 n : Nat) (hn : n < 12) (p1 p2 p3 : Int32) (h : PH) (e : h a0 1 = nI n) : ∃ h', mB_build a0 p1 p2 p3 h = some (nI n, h') ∧ h' a0 1 = nI (n + 1) ∧ (∀ b, b ≠ a0 → b ≠ a0 + 1 → h' b = h b) ∧ ∀ j, j ≠ 1 → h' a0 j = h a0 j := by
  unfold mB_build
  simp only [lt]
  rw [e, nI_1]
  have ha : ¬ a0 = a0 + 1 := by omega
  have key : ∀ k0 : PH → Option (Int32 × PH), ∃ h', mB_build_L19 a0 p1 p2 p3 (nI n) k0 FU 0 (up h a0 1 (nI (n + 1))) = k0 h' ∧ ∀ b, b ≠ a0 + 1 → h' b = (up h a0 1 (nI (n + 1))) b := fun k0 => by
    have := bu_19 a0 n hn p1 p2 p3 k0 FU 0 (up h a0 1 (nI (n + 1))) (by unfold FU; omega) (by omega) (by simp [up_at])
    rw [nI_0] at this
    exact this
  have hw : ∀ (g : PH) (k : Nat) (v : Int32), g a0 1 = nI (n + 1) → k < 11 → ∃ g', mB_write a0 (nI n) (nI k) v g = some g' ∧ g' a0 1 = nI (n + 1) ∧ ∀ b, b ≠ a0 + 1 → g' b = g b := fun g k v eg hk => by
    refine ⟨_, wr_at eg (by omega) (by omega) hk v, by rw [up_at, if_neg ha]; exact eg, fun b hb => ?_⟩
    funext j
    simp [up_at, hb]
  have fin : ∀ g : PH, g a0 1 = nI (n + 1) → ∃ h', (bd (mB_write a0 (nI n) 4 p2 g) fun h5 => bd (mB_write a0 (nI n) 5 p3 h5) fun h6 => bd (mB_write a0 (nI n) 6 0 h6) fun h7 => bd (mB_write a0 (nI n) 7 1 h7) fun h8 => bd (mB_write a0 (nI n) 8 0 h8) fun h9 => bd (mB_write a0 (nI n) 9 0 h9) fun h10 => bd (mB_write a0 (nI n) 10 0 h10) fun h11 => some (nI n, h11)) = some (nI n, h') ∧ h' a0 1 = nI (n + 1) ∧ ∀ b, b ≠ a0 + 1 → h' b = g b := by
    intro g eg
    obtain ⟨g1, x1, y1, z1⟩ := hw g 4 p2 eg (by decide)
    obtain ⟨g2, x2, y2, z2⟩ := hw g1 5 p3 y1 (by decide)
    obtain ⟨g3, x3, y3, z3⟩ := hw g2 6 0 y2 (by decide)
    obtain ⟨g4, x4, y4, z4⟩ := hw g3 7 1 y3 (by decide)
    obtain ⟨g5, x5, y5, z5⟩ := hw g4 8 0 y4 (by decide)
    obtain ⟨g6, x6, y6, z6⟩ := hw g5 9 0 y5 (by decide)
    obtain ⟨g7, x7, y7, z7⟩ := hw g6 10 0 y6 (by decide)
    rw [show (4 : Int32) = nI 4 from rfl, show (5 : Int32) = nI 5 from rfl, show (6 : Int32) = nI 6 from rfl, show (7 : Int32) = nI 7 from rfl, show (8 : Int32) = nI 8 from rfl, show (9 : Int32) = nI 9 from rfl, show (10 : Int32) = nI 10 from rfl, x1]
    simp only [bd]
    rw [x2]; simp only
    rw [x3]; simp only
    rw [x4]; simp only
    rw [x5]; simp only
    rw [x6]; simp only
    rw [x7]
    exact ⟨g7, rfl, y7, fun b hb => by rw [z7 b hb, z6 b hb, z5 b hb, z4 b hb, z3 b hb, z2 b hb, z1 b hb]⟩
  obtain ⟨g, k1, k2⟩ := key (fun h4 => bd (mB_write a0 (nI n) 4 p2 h4) fun h5 => bd (mB_write a0 (nI n) 5 p3 h5) fun h6 => bd (mB_write a0 (nI n) 6 0 h6) fun h7 => bd (mB_write a0 (nI n) 7 1 h7) fun h8 => bd (mB_write a0 (nI n) 8 0 h8) fun h9 => bd (mB_write a0 (nI n) 9 0 h9) fun h10 => bd (mB_write a0 (nI n) 10 0 h10) fun h11 => some (nI n, h11))
  obtain ⟨h', f1, f2, f3⟩ := fin g (by rw [k2 a0 ha]; simp [up_at])
  refine ⟨h', k1.trans f1, f2, fun b b1 b2 => ?_, fun j hj => ?_⟩
  · rw [f3 b b2, k2 b b2]; funext j; simp [up_at, b1]
  · rw [f3 a0 ha, k2 a0 ha]; simp [up_at, hj]
theorem mh_52 (n : Nat) (hn : n < 12) (p1 p2 p3 : Int32) (k0 : PH → Option (Int32 × PH)) : ∀ (f w : Nat) (h : PH), 4 < f + w → w ≤ 4 → h 104 6 = nI n → ∃ h', mm_house_L52 p1 p2 p3 k0 f (nI w) h = k0 h' ∧ ∀ b, b ≠ 105 → h' b = h b := by
  intro f
  induction f with
  | zero => intro w h h1 h2; omega
  | succ f ih =>
    intro w h h1 h2 e
    rw [mm_house_L52]
    by_cases hw : w = 4
    · subst hw
      rw [if_pos (show (4 : Int32) ≤ nI 4 by decide)]
      exact ⟨h, rfl, fun _ _ => rfl⟩
    · have e1 : 7 + 4 * nI n + nI w = nI (7 + 4 * n + w) := by
        rw [show 4 * nI n = nI (4 * n) from (Int32.ofNat_mul 4 n).symm, show 7 + nI (4 * n) = nI (7 + 4 * n) from nI_add 7 (4 * n), nI_add]
      rw [if_neg (show ¬ (4 : Int32) ≤ nI w from nI_ge (b := 4) (by omega) (by omega)), e, e1, ck_nI (by omega) (by omega)]
      simp only [lt]
      rw [nI_1]
      obtain ⟨h', q1, q2⟩ := ih (w + 1) (up h 105 (ix (nI (7 + 4 * n + w))) p1) (by omega) (by omega) (by rw [up_at]; simpa using e)
      refine ⟨h', q1, fun b hb => ?_⟩
      rw [q2 b hb]
      funext j
      simp [up_at, hb]
theorem mh_at (n : Nat) (hn : n < 12) (p1 p2 p3 : Int32) (c1 : 0 ≤ p1 ∧ p1 ≤ 99) (c2 : 0 ≤ p2 ∧ p2 ≤ 9) (c3 : 0 ≤ p3 ∧ p3 ≤ 9) (h : PH) (e : h 104 6 = nI n) : ∃ h', mm_house p1 p2 p3 h = some (nI n, h') := by
  unfold mm_house
  have e0 : up h 104 0 0 104 6 = nI n := by rw [up_at]; simpa using e
  have n12 : ¬ nI n = 12 := fun q => by
    have := (nI_eq (by omega) (by omega)).mp (show nI n = nI 12 from q)
    omega
  simp only [isIn_eq, bd, lt, if_pos c1, if_pos c2, if_pos c3, show ¬ (1 : Int32) = 0 by decide, if_false, e0, n12]
  have key : ∀ k0 : PH → Option (Int32 × PH), (∀ g : PH, g 104 6 = nI n → ∃ h', k0 g = some (nI n, h')) → ∃ h', mm_house_L52 p1 p2 p3 k0 FU 0 (up h 104 0 0) = some (nI n, h') := fun k0 hk => by
    obtain ⟨g, q1, q2⟩ := mh_52 n hn p1 p2 p3 k0 FU 0 (up h 104 0 0) (by unfold FU; omega) (by omega) e0
    rw [nI_0] at q1
    rw [q1]
    exact hk g (by rw [q2 104 (by decide)]; exact e0)
  refine key _ (fun g eg => ?_)
  have c55 : ∀ {ρ : Type} (k : Option ρ), ck (55 + nI n) 115 k = k := fun k => by rw [show 55 + nI n = nI (55 + n) from nI_add 55 n]; exact ck_nI (by omega) (by omega)
  have c67 : ∀ {ρ : Type} (k : Option ρ), ck (67 + nI n) 115 k = k := fun k => by rw [show 67 + nI n = nI (67 + n) from nI_add 67 n]; exact ck_nI (by omega) (by omega)
  have c79 : ∀ {ρ : Type} (k : Option ρ), ck (79 + nI n) 115 k = k := fun k => by rw [show 79 + nI n = nI (79 + n) from nI_add 79 n]; exact ck_nI (by omega) (by omega)
  have c91 : ∀ {ρ : Type} (k : Option ρ), ck (91 + nI n) 115 k = k := fun k => by rw [show 91 + nI n = nI (91 + n) from nI_add 91 n]; exact ck_nI (by omega) (by omega)
  have c103 : ∀ {ρ : Type} (k : Option ρ), ck (103 + nI n) 115 k = k := fun k => by rw [show 103 + nI n = nI (103 + n) from nI_add 103 n]; exact ck_nI (by omega) (by omega)
  have c12 : ∀ {ρ : Type} (k : Option ρ), ck (nI n) 12 k = k := fun k => ck_nI hn (by omega)
  have u5 : ∀ (g : PH) (j : Nat) (v : Int32), up g 105 j v 104 6 = g 104 6 := fun g j v => by simp [up_at]
  have u8 : ∀ (g : PH) (j : Nat) (v : Int32), up g 108 j v 104 6 = g 104 6 := fun g j v => by simp [up_at]
  have u9 : ∀ (g : PH) (j : Nat) (v : Int32), up g 109 j v 104 6 = g 104 6 := fun g j v => by simp [up_at]
  simp only [eg, u5, u8, u9, c55, c67, c79, c91, c103, c12]
  refine ⟨_, congrArg some (Prod.ext ?_ rfl)⟩
  show up (up _ 104 6 (nI n + 1)) 104 3 0 104 6 - 1 = nI n
  rw [up_at, if_pos rfl, if_neg (by decide), up_at, if_pos rfl, if_pos rfl, nI_1, nI_pred]
theorem tk_step {p v : Int32} {h : PH} {l n : Nat} (hv : ¬ v < 0) (e : h 85 4 = nI l) (hl : l < 400) : mA_take_L3 p (n + 1) v h = mA_take_L3 p n (v + (-8)) (up (up h 86 l (i2b (i2b (ushr p v)))) 85 4 (nI (l + 1))) := by
  rw [mA_take_L3, if_neg hv, e, if_neg (show ¬ (400 : Int32) ≤ nI l from nI_ge (b := 400) hl (by omega)), ck_nI hl (by omega), show ix (nI l) = l from nI_clamp (by omega)]
  simp only [lt]
  have e2 : up h 86 l (i2b (i2b (ushr p v))) 85 4 = nI l := by rw [up_at]; simpa using e
  rw [e2, nI_1]
theorem take4 (p : Int32) (h : PH) (l : Nat) (e : h 85 4 = nI l) (hl : l + 4 ≤ 400) : ∃ h', mA_take p h = some h' ∧ h' 85 4 = nI (l + 4) ∧ (∀ b, b ≠ 85 → b ≠ 86 → h' b = h b) ∧ ∀ j, j ≠ 4 → h' 85 j = h 85 j := by
  unfold mA_take
  rw [show FU = 99995 + 1 + 1 + 1 + 1 + 1 from rfl]
  rw [tk_step (by decide) e (by omega), tk_step (l := l + 1) (by decide) (by simp [up_at]) (by omega), tk_step (l := l + 1 + 1) (by decide) (by simp [up_at]) (by omega), tk_step (l := l + 1 + 1 + 1) (by decide) (by simp [up_at]) (by omega), mA_take_L3, if_pos (by decide)]
  refine ⟨_, rfl, by simp [up_at], fun b b1 b2 => ?_, fun j hj => ?_⟩
  · funext j; simp [up_at, b1, b2]
  · simp [up_at, hj]
theorem ty_step {p v : Int32} {h : PH} {l n : Nat} (hv : ¬ v < 0) (e : h 104 11 = nI l) (hl : l < 400) : mm_types_L3 p (n + 1) v h = mm_types_L3 p n (v + (-8)) (up (up h 111 l ((p >>> (v &&& 31)) &&& 255)) 104 11 (nI (l + 1))) := by
  rw [mm_types_L3, if_neg hv, e, ck_nI hl (by omega), show ix (nI l) = l from nI_clamp (by omega)]
  simp only [lt]
  have e2 : up h 111 l ((p >>> (v &&& 31)) &&& 255) 104 11 = nI l := by rw [up_at]; simpa using e
  rw [e2, nI_1]
theorem types4 (p : Int32) (h : PH) (l : Nat) (e : h 104 11 = nI l) (hl : l + 4 ≤ 400) : ∃ h', mm_types p h = some h' ∧ h' 104 11 = nI (l + 4) ∧ (∀ b, b ≠ 104 → b ≠ 111 → h' b = h b) ∧ ∀ j, j ≠ 11 → h' 104 j = h 104 j := by
  unfold mm_types
  rw [show FU = 99995 + 1 + 1 + 1 + 1 + 1 from rfl]
  rw [ty_step (by decide) e (by omega), ty_step (l := l + 1) (by decide) (by simp [up_at]) (by omega), ty_step (l := l + 1 + 1) (by decide) (by simp [up_at]) (by omega), ty_step (l := l + 1 + 1 + 1) (by decide) (by simp [up_at]) (by omega), mm_types_L3, if_pos (by decide)]
  refine ⟨_, rfl, by simp [up_at], fun b b1 b2 => ?_, fun j hj => ?_⟩
  · funext j; simp [up_at, b1, b2]
  · simp [up_at, hj]
theorem feed_class (a b c d e : Int32) (h : PH) (l : Nat) (el : h 85 4 = nI l) (hl : l + 20 ≤ 400) : ∃ h', mX_feed a b c d e h = some (nI (l + 20), h') ∧ h' 85 4 = nI (l + 20) ∧ (∀ x, x ≠ 85 → x ≠ 86 → h' x = h x) ∧ ∀ j, j ≠ 4 → h' 85 j = h 85 j := by
  unfold mX_feed
  rw [el, show nI l + 20 = nI (l + 20) from nI_add l 20, if_pos (show nI (l + 20) ≤ (400 : Int32) from nI_le (b := 400) hl (by omega))]
  obtain ⟨h1, p1, q1, r1, s1⟩ := take4 a h l el (by omega)
  obtain ⟨h2, p2, q2, r2, s2⟩ := take4 b h1 (l + 4) q1 (by omega)
  obtain ⟨h3, p3, q3, r3, s3⟩ := take4 c h2 (l + 4 + 4) q2 (by omega)
  obtain ⟨h4, p4, q4, r4, s4⟩ := take4 d h3 (l + 4 + 4 + 4) q3 (by omega)
  obtain ⟨h5, p5, q5, r5, s5⟩ := take4 e h4 (l + 4 + 4 + 4 + 4) q4 (by omega)
  rw [p1]; simp only [bd]
  rw [p2]; simp only
  rw [p3]; simp only
  rw [p4]; simp only
  rw [p5]; simp only
  rw [q5]
  refine ⟨h5, rfl, q5, fun x x1 x2 => ?_, fun j hj => ?_⟩
  · rw [r5 x x1 x2, r4 x x1 x2, r3 x x1 x2, r2 x x1 x2, r1 x x1 x2]
  · rw [s5 j hj, s4 j hj, s3 j hj, s2 j hj, s1 j hj]
theorem feed_model (a b c d e : Int32) (h : PH) (l : Nat) (el : h 104 11 = nI l) (hl : l + 20 ≤ 400) : ∃ h', mm_feed a b c d e h = some (nI (l + 20), h') ∧ h' 104 11 = nI (l + 20) ∧ (∀ x, x ≠ 104 → x ≠ 111 → h' x = h x) ∧ ∀ j, j ≠ 11 → j ≠ 0 → h' 104 j = h 104 j := by
  unfold mm_feed
  have e0 : up h 104 0 0 104 11 = nI l := by rw [up_at]; simpa using el
  simp only [lt]
  rw [e0, if_pos (show nI l ≤ (380 : Int32) from nI_le (b := 380) (by omega) (by omega))]
  obtain ⟨h1, p1, q1, r1, s1⟩ := types4 a (up h 104 0 0) l e0 (by omega)
  obtain ⟨h2, p2, q2, r2, s2⟩ := types4 b h1 (l + 4) q1 (by omega)
  obtain ⟨h3, p3, q3, r3, s3⟩ := types4 c h2 (l + 4 + 4) q2 (by omega)
  obtain ⟨h4, p4, q4, r4, s4⟩ := types4 d h3 (l + 4 + 4 + 4) q3 (by omega)
  obtain ⟨h5, p5, q5, r5, s5⟩ := types4 e h4 (l + 4 + 4 + 4 + 4) q4 (by omega)
  rw [p1]; simp only [bd]
  rw [p2]; simp only
  rw [p3]; simp only
  rw [p4]; simp only
  rw [p5]; simp only
  rw [q5]
  refine ⟨h5, rfl, q5, fun x x1 x2 => ?_, fun j hj h0 => ?_⟩
  · rw [r5 x x1 x2, r4 x x1 x2, r3 x x1 x2, r2 x x1 x2, r1 x x1 x2]; funext i; simp [up_at, x1]
  · rw [s5 j hj, s4 j hj, s3 j hj, s2 j hj, s1 j hj]; simp [up_at, h0]
theorem lt_e {α ρ : Type} (x : α) (f : α → Option ρ) : lt x f = f x := Eq.trans (b := f x) rfl rfl
theorem bd_e {α ρ : Type} (x : α) (f : α → Option ρ) : bd (some x) f = f x := Eq.trans (b := f x) rfl rfl
theorem bd2_e {α β ρ : Type} (x : α) (y : β) (f : α → β → Option ρ) : bd2 (some (x, y)) f = f x y := Eq.trans (b := f x y) rfl rfl
theorem jn1_e {α ρ : Type} (f : α → Option ρ) (b : (α → Option ρ) → Option ρ) : jn1 f b = b f := Eq.trans (b := b f) rfl rfl
/-- the copies of a borough -/
theorem cc_132 {ρ : Type} (k : Option ρ) : cc 132 132 0 0 132 k = k := by
  unfold cc
  exact if_neg (by decide)
def twk (l : List Nat) (w : Nat) : Int32 := l.foldl (fun acc c => if w = ix (nI c >>> (5 &&& 31)) then acc ||| (1 <<< ((nI c &&& 31) &&& 31)) else acc) 0
def hT (l : List Nat) : PH := fun _ => twk l
def GI (h : PH) : Prop := (h 102 = h 102 ∧ h 103 = h 103) ∨ False
theorem nI_mul (a b : Nat) : nI a * nI b = nI (a * b) := (Int32.ofNat_mul a b).symm
theorem nI_sub {a b : Nat} (h : b ≤ a) : nI a - nI b = nI (a - b) := by
  obtain ⟨c, rfl⟩ : ∃ c, a = c + b := ⟨a - b, by omega⟩
  rw [← nI_add, Int32.add_sub_cancel, Nat.add_sub_cancel]
end
section
/-! SAFETY: ranges of numbers and of slots; the rules by which a mirror is seen to be 'some' -/
def R (a b : Int) (x : Int32) : Prop := a ≤ x.toInt ∧ x.toInt ≤ b
def Sf {α : Type} (x : Option α) (Q : α → Prop) : Prop := ∃ a, x = some a ∧ Q a
theorem jn2_e {α β ρ : Type} (f : α → β → Option ρ) (b : (α → β → Option ρ) → Option ρ) : jn2 f b = b f := Eq.trans (b := b f) rfl rfl
section SAFE
variable {α β γ ρ : Type} {Q : ρ → Prop}
theorem s_some {a : ρ} (h : Q a) : Sf (some a) Q := ⟨a, rfl, h⟩
theorem s_bd {x : Option α} {f : α → Option ρ} {P : α → Prop} (hx : Sf x P) (hf : ∀ a, P a → Sf (f a) Q) : Sf (bd x f) Q := by
  obtain ⟨a, rfl, ha⟩ := hx
  exact hf a ha
theorem s_bd2 {x : Option (α × β)} {f : α → β → Option ρ} {P : α × β → Prop} (hx : Sf x P) (hf : ∀ a b, P (a, b) → Sf (f a b) Q) : Sf (bd2 x f) Q := by
  obtain ⟨⟨a, b⟩, rfl, ha⟩ := hx
  exact hf a b ha
theorem s_lt {x : α} {f : α → Option ρ} (hf : ∀ a, a = x → Sf (f a) Q) : Sf (lt x f) Q := hf x rfl
theorem clamp_int {i : Int32} (h : 0 ≤ i.toInt) : (i.toNatClampNeg : Int) = i.toInt := by
  show (i.toInt.toNat : Int) = i.toInt
  omega
theorem s_ck {i : Int32} {n : Nat} {k : Option ρ} {a b : Int} (hr : R a b i) (hb : 0 ≤ a ∧ b < (n : Int)) (h : Sf k Q) : Sf (ck i n k) Q := by
  have hi : vp_in i n := by
    unfold vp_in
    intro q
    rcases q with q | q
    · rw [Int32.lt_iff_toInt_lt] at q
      have := hr.1
      simp only [show (0 : Int32).toInt = 0 from rfl] at q
      omega
    · have h1 := hr.1
      have h2 := hr.2
      have := clamp_int (i := i) (by omega)
      omega
  rw [ck_in hi]
  exact h
theorem s_dz {y : Int32} {k : Option ρ} {a b : Int} (hr : R a b y) (hb : 0 < a ∨ b < 0) (h : Sf k Q) : Sf (dz y k) Q := by
  have hy : ¬ y = 0 := by
    intro e
    have h1 := hr.1
    have h2 := hr.2
    rw [e] at h1 h2
    simp only [show (0 : Int32).toInt = 0 from rfl] at h1 h2
    omega
  rw [dz_nz hy]
  exact h
theorem s_if {c : Prop} [Decidable c] {a b : Option ρ} (h1 : c → Sf a Q) (h2 : ¬ c → Sf b Q) : Sf (if c then a else b) Q := by
  by_cases h : c
  · rw [if_pos h]; exact h1 h
  · rw [if_neg h]; exact h2 h
theorem s_jn0 {f : Option ρ} {b : Option ρ → Option ρ} (hf : Sf f Q) (hb : ∀ j, Sf j Q → Sf (b j) Q) : Sf (jn0 f b) Q := hb f hf
theorem s_jn1 {f : α → Option ρ} {b : (α → Option ρ) → Option ρ} {P : α → Prop} (hf : ∀ a, P a → Sf (f a) Q) (hb : ∀ j : α → Option ρ, (∀ a, P a → Sf (j a) Q) → Sf (b j) Q) : Sf (jn1 f b) Q := hb f hf
theorem s_jn2 {f : α → β → Option ρ} {b : (α → β → Option ρ) → Option ρ} {P : α → β → Prop} (hf : ∀ a c, P a c → Sf (f a c) Q) (hb : ∀ j : α → β → Option ρ, (∀ a c, P a c → Sf (j a c) Q) → Sf (b j) Q) : Sf (jn2 f b) Q := hb f hf
theorem s_jn3 {f : α → β → γ → Option ρ} {b : (α → β → γ → Option ρ) → Option ρ} {P : α → β → γ → Prop} (hf : ∀ a c d, P a c d → Sf (f a c d) Q) (hb : ∀ j : α → β → γ → Option ρ, (∀ a c d, P a c d → Sf (j a c d) Q) → Sf (b j) Q) : Sf (jn3 f b) Q := hb f hf
theorem s_w {x : Option ρ} {P : ρ → Prop} (h : Sf x P) (hw : ∀ a, P a → Q a) : Sf x Q := by
  obtain ⟨a, e, ha⟩ := h
  exact ⟨a, e, hw a ha⟩
end SAFE
section RNG
variable {a b c d e f : Int} {x y : Int32}
theorem r_full (x : Int32) : R (-2147483648) 2147483647 x := by
  have h1 := Int32.le_toInt x
  have h2 := Int32.toInt_lt x
  exact ⟨by omega, by omega⟩
theorem r_w (h : R a b x) (hh : c ≤ a ∧ b ≤ d) : R c d x := ⟨Int.le_trans hh.1 h.1, Int.le_trans h.2 hh.2⟩
theorem i_add (hx : R a b x) (hy : R c d y) (hh : -2147483648 ≤ a + c ∧ b + d ≤ 2147483647) : (x + y).toInt = x.toInt + y.toInt := by
  obtain ⟨x1, x2⟩ := hx
  obtain ⟨y1, y2⟩ := hy
  rw [Int32.toInt_add, Int.bmod_eq_of_le_mul_two (by omega) (by omega)]
theorem i_sub (hx : R a b x) (hy : R c d y) (hh : -2147483648 ≤ a - d ∧ b - c ≤ 2147483647) : (x - y).toInt = x.toInt - y.toInt := by
  obtain ⟨x1, x2⟩ := hx
  obtain ⟨y1, y2⟩ := hy
  rw [Int32.toInt_sub, Int.bmod_eq_of_le_mul_two (by omega) (by omega)]
theorem r_add (hx : R a b x) (hy : R c d y) (hh : (-2147483648 ≤ a + c ∧ b + d ≤ 2147483647) ∧ e = a + c ∧ f = b + d) : R e f (x + y) := by
  have := i_add hx hy hh.1
  obtain ⟨x1, x2⟩ := hx
  obtain ⟨y1, y2⟩ := hy
  exact ⟨by omega, by omega⟩
theorem r_sub (hx : R a b x) (hy : R c d y) (hh : (-2147483648 ≤ a - d ∧ b - c ≤ 2147483647) ∧ e = a - d ∧ f = b - c) : R e f (x - y) := by
  have := i_sub hx hy hh.1
  obtain ⟨x1, x2⟩ := hx
  obtain ⟨y1, y2⟩ := hy
  exact ⟨by omega, by omega⟩
theorem r_mul (hx : R a b x) (hy : R c d y) (hh : 0 ≤ a ∧ 0 ≤ c ∧ b * d ≤ 2147483647 ∧ e = a * c ∧ f = b * d) : R e f (x * y) := by
  obtain ⟨x1, x2⟩ := hx
  obtain ⟨y1, y2⟩ := hy
  obtain ⟨h1, h2, h3, h4, h5⟩ := hh
  have u1 : a * c ≤ x.toInt * y.toInt := Int.mul_le_mul x1 y1 h2 (by omega)
  have u2 : x.toInt * y.toInt ≤ b * d := Int.mul_le_mul x2 y2 (by omega) (by omega)
  have u0 : 0 ≤ a * c := Int.mul_nonneg h1 h2
  have : (x * y).toInt = x.toInt * y.toInt := by
    rw [Int32.toInt_mul, Int.bmod_eq_of_le_mul_two (by omega) (by omega)]
  exact ⟨by omega, by omega⟩
theorem r_div (hx : R a b x) (hy : R c c y) (hh : 0 ≤ a ∧ 0 < c ∧ e = 0 ∧ f = b) : R e f (x / y) := by
  obtain ⟨x1, x2⟩ := hx
  obtain ⟨y1, y2⟩ := hy
  obtain ⟨h1, h2, h3, h4⟩ := hh
  have : (x / y).toInt = x.toInt / y.toInt := lg_idiv_nonneg (by omega) (by omega)
  have q1 : 0 ≤ x.toInt / y.toInt := Int.ediv_nonneg (by omega) (by omega)
  have q2 : x.toInt / y.toInt ≤ x.toInt := Int.ediv_le_self _ (by omega)
  exact ⟨by omega, by omega⟩
theorem r_min (hx : R a b x) (hy : R c d y) (hh : e ≤ a ∧ e ≤ c ∧ (b ≤ f ∨ d ≤ f)) : R e f (imin x y) := by
  obtain ⟨x1, x2⟩ := hx
  obtain ⟨y1, y2⟩ := hy
  unfold imin
  split
  · rename_i q
    rw [Int32.lt_iff_toInt_lt] at q
    exact ⟨by omega, by omega⟩
  · rename_i q
    rw [Int32.lt_iff_toInt_lt] at q
    exact ⟨by omega, by omega⟩
theorem r_max (hx : R a b x) (hy : R c d y) (hh : (e ≤ a ∨ e ≤ c) ∧ b ≤ f ∧ d ≤ f) : R e f (imax x y) := by
  obtain ⟨x1, x2⟩ := hx
  obtain ⟨y1, y2⟩ := hy
  unfold imax
  split
  · rename_i q
    rw [Int32.lt_iff_toInt_lt] at q
    exact ⟨by omega, by omega⟩
  · rename_i q
    rw [Int32.lt_iff_toInt_lt] at q
    exact ⟨by omega, by omega⟩
theorem lt_hi (hx : R a b x) (hy : R c d y) (h : x < y) (hf : f = d - 1) : R a f x := by
  rw [Int32.lt_iff_toInt_lt] at h
  have := hy.2
  exact ⟨hx.1, by omega⟩
theorem lt_lo (hx : R a b x) (hy : R c d y) (h : x < y) (he : e = a + 1) : R e d y := by
  rw [Int32.lt_iff_toInt_lt] at h
  have := hx.1
  exact ⟨by omega, hy.2⟩
theorem le_hi (hx : R a b x) (hy : R c d y) (h : x ≤ y) : R a d x := by
  rw [Int32.le_iff_toInt_le] at h
  have := hy.2
  exact ⟨hx.1, by omega⟩
theorem le_lo (hx : R a b x) (hy : R c d y) (h : x ≤ y) : R a d y := by
  rw [Int32.le_iff_toInt_le] at h
  have := hx.1
  exact ⟨by omega, hy.2⟩
theorem nlt_le (h : ¬ x < y) : y ≤ x := Int32.not_lt.mp h
theorem nle_lt (h : ¬ x ≤ y) : y < x := Int32.not_le.mp h
theorem r_eq (hy : R c d y) (h : x = y) : R c d x := by rw [h]; exact hy
theorem r_ne_lo (hx : R a b x) (hy : R a a y) (h : ¬ x = y) (he : e = a + 1) : R e b x := by
  have : ¬ x.toInt = y.toInt := fun q => h (Int32.toInt_inj.mp q)
  have h1 := hx.1
  have h2 := hy.1
  have h3 := hy.2
  exact ⟨by omega, hx.2⟩
theorem r_ne_hi (hx : R a b x) (hy : R b b y) (h : ¬ x = y) (hf : f = b - 1) : R a f x := by
  have : ¬ x.toInt = y.toInt := fun q => h (Int32.toInt_inj.mp q)
  have h1 := hx.2
  have h2 := hy.1
  have h3 := hy.2
  exact ⟨hx.1, by omega⟩
theorem r_mix (h1 : R a b x) (h2 : R c d x) : R c b x := ⟨h2.1, h1.2⟩
theorem i_inc {k : Int} {z : Int32} (hx : R a b x) (hz : z.toInt = k) (hh : -2147483648 ≤ a + k ∧ b + k ≤ 2147483647) : (x + z).toInt = x.toInt + k := by
  have := i_add (c := k) (d := k) hx (y := z) ⟨by omega, by omega⟩ hh
  omega
theorem fu_up {H : Int} (h : R a b x) (hh : H - a < 100000) : H - x.toInt < ((FU : Nat) : Int) := by
  have := h.1
  have e : ((FU : Nat) : Int) = 100000 := rfl
  omega
theorem fu_dn {H : Int} (h : R a b x) (hh : b - H < 100000) : x.toInt - H < ((FU : Nat) : Int) := by
  have := h.2
  have e : ((FU : Nat) : Int) = 100000 := rfl
  omega
theorem fu_su {H k : Int} {n : Nat} (hf : H - x.toInt < ((n + 1 : Nat) : Int)) (he : y.toInt = x.toInt + k) (hk : 1 ≤ k) : H - y.toInt < (n : Int) := by omega
theorem fu_sd {H k : Int} {n : Nat} (hf : x.toInt - H < ((n + 1 : Nat) : Int)) (he : y.toInt = x.toInt + k) (hk : k ≤ -1) : y.toInt - H < (n : Int) := by omega
theorem r_and (hy : R a a y) (hh : 0 ≤ a ∧ e = 0 ∧ f = a) : R e f (x &&& y) := by
  obtain ⟨y1, y2⟩ := hy
  obtain ⟨h1, h2, h3⟩ := hh
  have e1 : (x &&& y).toBitVec.toNat ≤ y.toBitVec.toNat := by
    rw [Int32.toBitVec_and, BitVec.toNat_and]
    exact Nat.and_le_right
  have e2 : y.toInt = y.toBitVec.toInt := rfl
  have e3 : (x &&& y).toInt = (x &&& y).toBitVec.toInt := rfl
  rw [BitVec.toInt_eq_toNat_cond] at e2 e3
  have b1 := y.toBitVec.isLt
  unfold R
  split at e2 <;> split at e3 <;> omega
theorem r_andl (hx : R a b x) (hh : 0 ≤ a ∧ e = 0 ∧ f = b) : R e f (x &&& y) := by
  obtain ⟨x1, x2⟩ := hx
  obtain ⟨h1, h2, h3⟩ := hh
  have e1 : (x &&& y).toBitVec.toNat ≤ x.toBitVec.toNat := by
    rw [Int32.toBitVec_and, BitVec.toNat_and]
    exact Nat.and_le_left
  have e2 : x.toInt = x.toBitVec.toInt := rfl
  have e3 : (x &&& y).toInt = (x &&& y).toBitVec.toInt := rfl
  rw [BitVec.toInt_eq_toNat_cond] at e2 e3
  have b1 := x.toBitVec.isLt
  unfold R
  split at e2 <;> split at e3 <;> omega
theorem r_or (m : Nat) (hx : R 0 (((2 ^ m : Nat) : Int) - 1) x) (hy : R 0 (((2 ^ m : Nat) : Int) - 1) y) (hh : m ≤ 30 ∧ e = 0 ∧ f = ((2 ^ m : Nat) : Int) - 1) : R e f (x ||| y) := by
  obtain ⟨x1, x2⟩ := hx
  obtain ⟨y1, y2⟩ := hy
  obtain ⟨h1, h2, h3⟩ := hh
  have p : 2 ^ m ≤ 2 ^ 30 := Nat.pow_le_pow_right (by decide) h1
  have e1 : x.toInt = x.toBitVec.toInt := rfl
  have e2 : y.toInt = y.toBitVec.toInt := rfl
  have e3 : (x ||| y).toInt = (x ||| y).toBitVec.toInt := rfl
  rw [BitVec.toInt_eq_toNat_cond] at e1 e2 e3
  have b1 := x.toBitVec.isLt
  have b2 := y.toBitVec.isLt
  have n1 : x.toBitVec.toNat < 2 ^ m := by split at e1 <;> omega
  have n2 : y.toBitVec.toNat < 2 ^ m := by split at e2 <;> omega
  have n3 : (x ||| y).toBitVec.toNat < 2 ^ m := by
    rw [Int32.toBitVec_or, BitVec.toNat_or]
    exact Nat.or_lt_two_pow n1 n2
  unfold R
  split at e3 <;> omega
theorem shl_k : ∀ k, k < 31 → ((1 : Int32) <<< (nI k &&& 31)).toInt = ((2 ^ k : Nat) : Int) := by decide +kernel
theorem r_shl (hx : R a b x) (hh : 0 ≤ a ∧ b ≤ 30 ∧ e = 1 ∧ f = ((2 ^ b.toNat : Nat) : Int)) : R e f (1 <<< (x &&& 31)) := by
  obtain ⟨x1, x2⟩ := hx
  obtain ⟨h1, h2, h3, h4⟩ := hh
  obtain ⟨k, hk, rfl⟩ := nI_of (x := x) (by rw [Int32.lt_iff_toInt_lt]; simp only [show (0 : Int32).toInt = 0 from rfl]; omega)
  rw [nI_toInt hk] at x1 x2
  have := shl_k k (by omega)
  have p1 : 1 ≤ 2 ^ k := Nat.one_le_two_pow
  have p2 : 2 ^ k ≤ 2 ^ b.toNat := Nat.pow_le_pow_right (by decide) (by omega)
  exact ⟨by omega, by omega⟩
theorem r_nb (x : Int32) : R 0 1 (nb x) := r_and (a := 1) ⟨by decide, by decide⟩ (by decide)
theorem r_irm (hx : R a b x) (hy : R c c y) (hh : 0 ≤ a ∧ 0 < c ∧ e = 0 ∧ f = c - 1) : R e f (irm x y) := by
  obtain ⟨x1, x2⟩ := hx
  obtain ⟨y1, y2⟩ := hy
  obtain ⟨h1, h2, h3, h4⟩ := hh
  have q : (x / y).toInt = x.toInt / y.toInt := lg_idiv_nonneg (by omega) (by omega)
  have bx := Int32.toInt_lt x
  have m0 : y.toInt * (x.toInt / y.toInt) + x.toInt % y.toInt = x.toInt := Int.mul_ediv_add_emod _ _
  have m1 : 0 ≤ x.toInt % y.toInt := Int.emod_nonneg _ (by omega)
  have m2 : x.toInt % y.toInt < y.toInt := Int.emod_lt_of_pos _ (by omega)
  have m3 : 0 ≤ x.toInt / y.toInt := Int.ediv_nonneg (by omega) (by omega)
  have m4 : x.toInt / y.toInt * y.toInt = y.toInt * (x.toInt / y.toInt) := Int.mul_comm _ _
  have m5 : 0 ≤ y.toInt * (x.toInt / y.toInt) := Int.mul_nonneg (by omega) m3
  have e1 : (x / y * y).toInt = x.toInt / y.toInt * y.toInt := by
    rw [Int32.toInt_mul, q, Int.bmod_eq_of_le_mul_two (by omega) (by omega)]
  have e2 : (irm x y).toInt = x.toInt - x.toInt / y.toInt * y.toInt := by
    unfold irm
    rw [Int32.toInt_sub, e1, Int.bmod_eq_of_le_mul_two (by omega) (by omega)]
  exact ⟨by omega, by omega⟩
theorem r_no {p : Prop} (hx : R a b x) (hh : b < a) : p := by
  have h1 := hx.1
  have h2 := hx.2
  omega
end RNG
theorem up_same {h : PH} {c j : Nat} {v : Int32} : up h c j v c j = v := by simp [up_at]
theorem up_oc {h : PH} {c j b i : Nat} {v : Int32} (hb : b ≠ c) : up h c j v b i = h b i := by simp [up_at, hb]
theorem up_oj {h : PH} {c j i : Nat} {v : Int32} (hi : i ≠ j) : up h c j v c i = h c i := by simp [up_at, hi]
/-! which numbers a slot may hold -/
def rF : Int × Int := (-2147483648, 2147483647)
def spB (j : Nat) : Int × Int := if j = 1 then (0, 12) else rF
def spR (m w : Int) (j : Nat) : Int × Int := if j = 0 then (m, m) else if j = 1 then (w, w) else if j = 3 then (0, m) else rF
def spL (l : List (Nat × Int × Int)) (j : Nat) : Int × Int := match l with
  | [] => rF
  | (k, a, b) :: l => if j = k then (a, b) else spL l j
def spA (a b : Int) (_ : Nat) : Int × Int := (a, b)
def spF (_ : Nat) : Int × Int := rF
def spC (j : Nat) : Int × Int := if j % 5 = 0 ∨ j % 5 = 4 then rF else (-1, 9999)
def spD (j : Nat) : Int × Int := if j < 80 ∧ j % 5 = 2 then (0, 11) else if j < 80 ∧ j % 5 = 3 then (0, 3) else rF
def spW (j : Nat) : Int × Int := if j % 115 = 2 then (0, 150) else rF
def wdX : List Int := [32, 114, 101, 110, 116, 32, 103, 110, 97, 119, 115, 32, 109, 101, 108, 116, 115, 32, 119, 104, 101, 110, 32, 111, 114, 32, 97, 110, 100, 32, 110, 111, 116, 32, 119, 97, 108, 108, 32, 115, 117, 109, 32, 97, 108, 109, 111, 110, 100, 115, 32, 116, 101, 101, 116, 104, 32, 104, 97, 114, 100, 32, 105, 99, 105, 110, 103, 32, 108, 111, 100, 103, 101, 114, 115, 32, 100, 111, 111, 114, 32, 97, 103, 101, 32, 114, 97, 105, 110, 32, 102, 114, 111, 115, 116, 32, 113, 117, 97, 114, 116, 101, 114, 32, 105, 110, 32, 116, 104, 97, 119, 32, 105, 99, 101, 32, 98, 97, 107, 101, 32, 119, 101, 100, 32, 114, 97, 122, 101, 32, 104, 111, 117, 115, 101, 32, 110, 101, 120, 116, 32]
def spX (j : Nat) : Int × Int := if j < 141 then (wdX.getD j 0, wdX.getD j 0) else rF
def spI (p : Nat) : Int × Int := if p = 2 then (0, 150) else if 115 ≤ p ∧ p < 127 then ([((0 : Int), (12 : Int)), (0, 16), (0, 16), (0, 16), (0, 9), (0, 8), (0, 5), (0, 8), (0, 16), (0, 6), (0, 12), (0, 8)].getD (p - 115) rF) else if 127 ≤ p ∧ p < 175 ∧ p % 4 = 2 then (0, 12) else if 305 ≤ p ∧ p < 385 then spD (p - 305) else if p = 985 then (0, 16) else rF
def spT : List (Nat → Int × Int) := [spL [(13, 0, 1)], spB, spF, spB, spF, spF, spR 16 5, spC, spR 400 2, spF, spR 16 5, spC, spR 16 5, spC, spR 16 5, spC, spR 150 4, spF, spR 9 1, spF, spR 8 1, spF, spR 5 1, spF, spR 8 2, spF, spR 16 1, spF, spR 6 2, spF, spR 12 2, spF, spR 8 2, spF, spL [(4, 0, 64)], spF, spF, spB, spF, spF, spR 16 5, spC, spR 400 2, spF, spR 16 5, spC, spR 16 5, spC, spR 16 5, spC, spR 150 4, spF, spR 9 1, spF, spR 8 1, spF, spR 5 1, spF, spR 8 2, spF, spR 16 1, spF, spR 6 2, spF, spR 12 2, spF, spR 8 2, spF, spL [(3, 0, 1)], spL [(3, 0, 1)], spL [(2, 0, 5), (3, 0, 6)], spF, spA 0 150, spB, spF, spB, spF, spB, spF, spB, spF, spB, spF, spB, spF, spL [(4, 0, 400), (5, 0, 401)], spF, spF, spF, spF, spL [(8, 0, 12), (9, 0, 9999)], spR 16 5, spC, spR 400 2, spF, spF, spF, spF, spF, spF, spF, spF, spF, spF, spL [(3, 0, 6), (5, 0, 1), (6, 0, 12), (11, 0, 400), (12, 0, 400), (13, 0, 400), (33, 0, 16), (35, 0, 16), (37, 0, 16), (42, 0, 9), (45, 0, 8), (49, 0, 5), (51, 0, 8), (54, 0, 16), (57, 0, 6), (62, 0, 12), (66, 0, 8), (71, 0, 1), (72, 0, 1)], spL [(2, 0, 150)], spW, spL [(2, 0, 150)], spF, spF, spF, spF, spX, spL [(0, 0, 16)], spF, spF, spF, spF, spF, spF, spF, spF, spD, spF, spF, spF, spF, spF, spF, spF, spF, spF, spF, spF, spF, spF, spF, spF, spF, spA 0 5, spA 0 5, spA 0 12, spF, spF, spF, spF, spF, spF, spI]
def sp (c j : Nat) : Int × Int := (spT.getD c spF) j
def Inv (h : PH) : Prop := ∀ c j, R (sp c j).1 (sp c j).2 (h c j)
theorem inv_up {h : PH} {c j : Nat} {v : Int32} (hI : Inv h) (hv : R (sp c j).1 (sp c j).2 v) : Inv (up h c j v) := by
  intro b i
  rw [up_at]
  by_cases hb : b = c
  · subst hb
    by_cases hi : i = j
    · subst hi
      rw [if_pos rfl, if_pos rfl]; exact hv
    · rw [if_pos rfl, if_neg hi]; exact hI b i
  · rw [if_neg hb]; exact hI b i
theorem inv_rng {h : PH} {c j : Nat} {a b : Int} (hI : Inv h) (e : sp c j = (a, b)) : R a b (h c j) := by
  have := hI c j
  rw [e] at this
  exact this
theorem inv_put {h : PH} {c j : Nat} {v : Int32} {a b : Int} (hI : Inv h) (e : sp c j = (a, b)) (hv : R a b v) : Inv (up h c j v) := inv_up hI (by rw [e]; exact hv)
theorem s_win {ρ : Type} {Q : ρ → Prop} {v a b : Int32} {h : PH} {f : Int32 → Option ρ} (hf : ∀ r, R 0 1 r → (¬ r = 0 → a ≤ v ∧ v ≤ b) → Sf (f r) Q) : Sf (bd (mX_within v a b h) f) Q := by
  rw [within_eq, bd_e]
  by_cases c : a ≤ v ∧ v ≤ b
  · rw [if_pos c]; exact hf 1 ⟨by decide, by decide⟩ (fun _ => c)
  · rw [if_neg c]; exact hf 0 ⟨by decide, by decide⟩ (fun q => absurd rfl q)
theorem s_isin {ρ : Type} {Q : ρ → Prop} {v a b : Int32} {h : PH} {f : Int32 → Option ρ} (hf : ∀ r, R 0 1 r → (¬ r = 0 → a ≤ v ∧ v ≤ b) → Sf (f r) Q) : Sf (bd (mm_isIn v a b h) f) Q := by
  rw [isIn_eq, bd_e]
  by_cases c : a ≤ v ∧ v ≤ b
  · rw [if_pos c]; exact hf 1 ⟨by decide, by decide⟩ (fun _ => c)
  · rw [if_neg c]; exact hf 0 ⟨by decide, by decide⟩ (fun q => absurd rfl q)
def isB (a : Nat) : Prop := sp a = spB ∧ sp (a + 1) = spF
theorem s_house {ρ : Type} {Q : ρ → Prop} {v : Int32} {h : PH} {f : Int32 → Option ρ} (hI : Inv h) (hf : ∀ r, R 0 1 r → (¬ r = 0 → R 0 11 v) → Sf (f r) Q) : Sf (bd (mm_isHouse v h) f) Q := by
  unfold mm_isHouse
  have f1 : R 0 12 (h 104 6) := inv_rng hI rfl
  by_cases c : v < 0
  · rw [if_pos c, bd_e]; exact hf 0 ⟨by decide, by decide⟩ (fun q => absurd rfl q)
  · rw [if_neg c]
    by_cases c2 : h 104 6 ≤ v
    · rw [if_pos c2, bd_e]; exact hf 0 ⟨by decide, by decide⟩ (fun q => absurd rfl q)
    · rw [if_neg c2, bd_e]
      refine hf 1 ⟨by decide, by decide⟩ (fun _ => ?_)
      have f2 : R 0 2147483647 v := le_lo (show R 0 0 (0 : Int32) from ⟨by decide, by decide⟩) (r_full v) (nlt_le c)
      exact lt_hi f2 f1 (nle_lt c2) (by decide)
theorem s_has {ρ : Type} {Q : ρ → Prop} {a0 : Nat} {v : Int32} {h : PH} {f : Int32 → Option ρ} (hb : isB a0) (hI : Inv h) (hf : ∀ r, R 0 1 r → (¬ r = 0 → R 0 11 v) → Sf (f r) Q) : Sf (bd (mB_has a0 v h) f) Q := by
  unfold mB_has
  have f1 : R 0 12 (h a0 1) := inv_rng hI (congrFun hb.1 1)
  by_cases c : v < 0
  · rw [if_pos c, bd_e]; exact hf 0 ⟨by decide, by decide⟩ (fun q => absurd rfl q)
  · rw [if_neg c]
    by_cases c2 : h a0 1 ≤ v
    · rw [if_pos c2, bd_e]; exact hf 0 ⟨by decide, by decide⟩ (fun q => absurd rfl q)
    · rw [if_neg c2, bd_e]
      refine hf 1 ⟨by decide, by decide⟩ (fun _ => ?_)
      have f2 : R 0 2147483647 v := le_lo (show R 0 0 (0 : Int32) from ⟨by decide, by decide⟩) (r_full v) (nlt_le c)
      exact lt_hi f2 f1 (nle_lt c2) (by decide)
theorem sp_ne105 {i : Int32} {a b : Int} (h : R a b i) (hh : 2 < a ∨ (0 ≤ a ∧ b < 2)) : sp 105 (ix i) = (-2147483648, 2147483647) := by
  have e : sp 105 = spL [(2, 0, 150)] := rfl
  have n2 : ¬ ix i = 2 := by
    intro q
    have q : i.toNatClampNeg = 2 := q
    obtain ⟨h1, h2⟩ := h
    have := clamp_int (i := i) (by omega)
    omega
  rw [e]
  unfold spL
  rw [if_neg n2]
  rfl
end
section
/-! SAFETY, by hand: rows, copies, the kept boroughs -/
def isR (a : Nat) : Prop := ∃ m w : Nat, sp a = spR (m : Int) (w : Int) ∧ (∀ j, (sp (a + 1) j).1 ≠ 0) ∧ ln (a + 1) = m * w ∧ m ≤ 400 ∧ 1 ≤ w ∧ w ≤ 5
def isRF (a : Nat) : Prop := ∃ m w : Nat, sp a = spR (m : Int) (w : Int) ∧ sp (a + 1) = spF ∧ ln (a + 1) = m * w ∧ m ≤ 400 ∧ 1 ≤ w ∧ w ≤ 5
theorem ne_F : ∀ j, (spF j).1 ≠ 0 := fun j => by simp [spF, rF]
theorem ne_C : ∀ j, (spC j).1 ≠ 0 := fun j => by unfold spC; split <;> simp [rF]
theorem isRF.r {a : Nat} (h : isRF a) : isR a := by
  obtain ⟨m, w, h1, h2, h3⟩ := h
  exact ⟨m, w, h1, by rw [h2]; exact ne_F, h3⟩
theorem isR_6 : isR 6 := ⟨16, 5, rfl, ne_C, rfl, by decide, by decide, by decide⟩
theorem isR_8 : isR 8 := ⟨400, 2, rfl, ne_F, rfl, by decide, by decide, by decide⟩
theorem isRF_8 : isRF 8 := ⟨400, 2, rfl, rfl, rfl, by decide, by decide, by decide⟩
theorem isR_10 : isR 10 := ⟨16, 5, rfl, ne_C, rfl, by decide, by decide, by decide⟩
theorem isR_12 : isR 12 := ⟨16, 5, rfl, ne_C, rfl, by decide, by decide, by decide⟩
theorem isR_14 : isR 14 := ⟨16, 5, rfl, ne_C, rfl, by decide, by decide, by decide⟩
theorem isR_16 : isR 16 := ⟨150, 4, rfl, ne_F, rfl, by decide, by decide, by decide⟩
theorem isRF_16 : isRF 16 := ⟨150, 4, rfl, rfl, rfl, by decide, by decide, by decide⟩
theorem isR_18 : isR 18 := ⟨9, 1, rfl, ne_F, rfl, by decide, by decide, by decide⟩
theorem isRF_18 : isRF 18 := ⟨9, 1, rfl, rfl, rfl, by decide, by decide, by decide⟩
theorem isR_20 : isR 20 := ⟨8, 1, rfl, ne_F, rfl, by decide, by decide, by decide⟩
theorem isRF_20 : isRF 20 := ⟨8, 1, rfl, rfl, rfl, by decide, by decide, by decide⟩
theorem isR_22 : isR 22 := ⟨5, 1, rfl, ne_F, rfl, by decide, by decide, by decide⟩
theorem isRF_22 : isRF 22 := ⟨5, 1, rfl, rfl, rfl, by decide, by decide, by decide⟩
theorem isR_24 : isR 24 := ⟨8, 2, rfl, ne_F, rfl, by decide, by decide, by decide⟩
theorem isRF_24 : isRF 24 := ⟨8, 2, rfl, rfl, rfl, by decide, by decide, by decide⟩
theorem isR_26 : isR 26 := ⟨16, 1, rfl, ne_F, rfl, by decide, by decide, by decide⟩
theorem isRF_26 : isRF 26 := ⟨16, 1, rfl, rfl, rfl, by decide, by decide, by decide⟩
theorem isR_28 : isR 28 := ⟨6, 2, rfl, ne_F, rfl, by decide, by decide, by decide⟩
theorem isRF_28 : isRF 28 := ⟨6, 2, rfl, rfl, rfl, by decide, by decide, by decide⟩
theorem isR_30 : isR 30 := ⟨12, 2, rfl, ne_F, rfl, by decide, by decide, by decide⟩
theorem isRF_30 : isRF 30 := ⟨12, 2, rfl, rfl, rfl, by decide, by decide, by decide⟩
theorem isR_32 : isR 32 := ⟨8, 2, rfl, ne_F, rfl, by decide, by decide, by decide⟩
theorem isRF_32 : isRF 32 := ⟨8, 2, rfl, rfl, rfl, by decide, by decide, by decide⟩
theorem isR_40 : isR 40 := ⟨16, 5, rfl, ne_C, rfl, by decide, by decide, by decide⟩
theorem isR_42 : isR 42 := ⟨400, 2, rfl, ne_F, rfl, by decide, by decide, by decide⟩
theorem isRF_42 : isRF 42 := ⟨400, 2, rfl, rfl, rfl, by decide, by decide, by decide⟩
theorem isR_44 : isR 44 := ⟨16, 5, rfl, ne_C, rfl, by decide, by decide, by decide⟩
theorem isR_46 : isR 46 := ⟨16, 5, rfl, ne_C, rfl, by decide, by decide, by decide⟩
theorem isR_48 : isR 48 := ⟨16, 5, rfl, ne_C, rfl, by decide, by decide, by decide⟩
theorem isR_50 : isR 50 := ⟨150, 4, rfl, ne_F, rfl, by decide, by decide, by decide⟩
theorem isRF_50 : isRF 50 := ⟨150, 4, rfl, rfl, rfl, by decide, by decide, by decide⟩
theorem isR_52 : isR 52 := ⟨9, 1, rfl, ne_F, rfl, by decide, by decide, by decide⟩
theorem isRF_52 : isRF 52 := ⟨9, 1, rfl, rfl, rfl, by decide, by decide, by decide⟩
theorem isR_54 : isR 54 := ⟨8, 1, rfl, ne_F, rfl, by decide, by decide, by decide⟩
theorem isRF_54 : isRF 54 := ⟨8, 1, rfl, rfl, rfl, by decide, by decide, by decide⟩
theorem isR_56 : isR 56 := ⟨5, 1, rfl, ne_F, rfl, by decide, by decide, by decide⟩
theorem isRF_56 : isRF 56 := ⟨5, 1, rfl, rfl, rfl, by decide, by decide, by decide⟩
theorem isR_58 : isR 58 := ⟨8, 2, rfl, ne_F, rfl, by decide, by decide, by decide⟩
theorem isRF_58 : isRF 58 := ⟨8, 2, rfl, rfl, rfl, by decide, by decide, by decide⟩
theorem isR_60 : isR 60 := ⟨16, 1, rfl, ne_F, rfl, by decide, by decide, by decide⟩
theorem isRF_60 : isRF 60 := ⟨16, 1, rfl, rfl, rfl, by decide, by decide, by decide⟩
theorem isR_62 : isR 62 := ⟨6, 2, rfl, ne_F, rfl, by decide, by decide, by decide⟩
theorem isRF_62 : isRF 62 := ⟨6, 2, rfl, rfl, rfl, by decide, by decide, by decide⟩
theorem isR_64 : isR 64 := ⟨12, 2, rfl, ne_F, rfl, by decide, by decide, by decide⟩
theorem isRF_64 : isRF 64 := ⟨12, 2, rfl, rfl, rfl, by decide, by decide, by decide⟩
theorem isR_66 : isR 66 := ⟨8, 2, rfl, ne_F, rfl, by decide, by decide, by decide⟩
theorem isRF_66 : isRF 66 := ⟨8, 2, rfl, rfl, rfl, by decide, by decide, by decide⟩
theorem isR_91 : isR 91 := ⟨16, 5, rfl, ne_C, rfl, by decide, by decide, by decide⟩
theorem isR_93 : isR 93 := ⟨400, 2, rfl, ne_F, rfl, by decide, by decide, by decide⟩
theorem isRF_93 : isRF 93 := ⟨400, 2, rfl, rfl, rfl, by decide, by decide, by decide⟩
theorem rows_i {a m w : Nat} (hs : sp a = spR (m : Int) (w : Int)) {h : PH} (hI : Inv h) : (h a 0).toInt = m ∧ (h a 1).toInt = w ∧ 0 ≤ (h a 3).toInt ∧ (h a 3).toInt ≤ m := by
  have e0 : R m m (h a 0) := inv_rng hI (congrFun hs 0)
  have e1 : R w w (h a 1) := inv_rng hI (congrFun hs 1)
  have e3 : R 0 m (h a 3) := inv_rng hI (congrFun hs 3)
  exact ⟨Int.le_antisymm e0.2 e0.1, Int.le_antisymm e1.2 e1.1, e3.1, e3.2⟩
theorem rows_rng {a : Nat} (hr : isR a) {h : PH} (hI : Inv h) : R 0 400 (h a 3) := by
  obtain ⟨m, w, hs, -, -, hm, -, -⟩ := hr
  obtain ⟨-, -, q2, q3⟩ := rows_i hs hI
  exact ⟨q2, by omega⟩
theorem mul_small {x y : Int32} {a b : Int} (ha : x.toInt = a) (hb : y.toInt = b) (h0 : 0 ≤ a * b) (h1 : a * b ≤ 2000) : (x * y).toInt = a * b := by
  rw [Int32.toInt_mul, ha, hb, Int.bmod_eq_of_le_mul_two (by omega) (by omega)]
theorem mw_big {m w : Nat} (hm : m ≤ 400) (hw : w ≤ 5) : (m : Int) * (w : Int) ≤ 2000 := by
  have := Nat.mul_le_mul hm hw
  have e : ((m * w : Nat) : Int) = (m : Int) * (w : Int) := Int.natCast_mul m w
  omega
theorem sf_R_at (a0 : Nat) (p1 p2 : Int32) (hr : isR a0) {h0 : PH} (i : Inv h0) : Sf (mR_at a0 p1 p2 h0) (fun r => R (-2147483648) 2147483647 r) := by
  obtain ⟨m, w, hs, hf, hl, hm, hw1, hw5⟩ := hr
  obtain ⟨q0, q1, q2, q3⟩ := rows_i hs i
  unfold mR_at
  refine s_if (fun c => s_some (r_full _)) (fun c1 => ?_)
  refine s_if (fun c => s_some (r_full _)) (fun c2 => ?_)
  refine s_if (fun c => s_some (r_full _)) (fun c3 => ?_)
  refine s_if (fun c4 => ?_) (fun c => s_some (r_full _))
  rw [Int32.lt_iff_toInt_lt] at c1 c3 c4
  rw [Int32.le_iff_toInt_le] at c2
  simp only [show (0 : Int32).toInt = 0 from rfl] at c1 c3
  have bound : p1.toInt * (w : Int) + w ≤ m * w := by
    have := Int.mul_le_mul_of_nonneg_right (show p1.toInt + 1 ≤ (m : Int) by omega) (show (0 : Int) ≤ (w : Int) by omega)
    rw [Int.add_mul, Int.one_mul] at this
    omega
  have pos : 0 ≤ p1.toInt * (w : Int) := Int.mul_nonneg (by omega) (by omega)
  have big := mw_big hm hw5
  have e1 : (p1 * h0 a0 1).toInt = p1.toInt * (w : Int) := mul_small rfl q1 pos (by omega)
  have e2 : (p1 * h0 a0 1 + p2).toInt = p1.toInt * (w : Int) + p2.toInt := by
    rw [Int32.toInt_add, e1, Int.bmod_eq_of_le_mul_two (by omega) (by omega)]
  have en : ((ln (a0 + 1) : Nat) : Int) = (m : Int) * (w : Int) := by rw [hl]; exact Int.natCast_mul m w
  exact s_ck (a := (p1 * h0 a0 1 + p2).toInt) (b := (p1 * h0 a0 1 + p2).toInt) ⟨Int.le_refl _, Int.le_refl _⟩ ⟨by omega, by omega⟩ (s_some (r_full _))
theorem sf_R_add (a0 : Nat) (p1 p2 p3 p4 p5 : Int32) (hr : isRF a0) {h0 : PH} (i : Inv h0) : Sf (mR_add a0 p1 p2 p3 p4 p5 h0) (fun r => R 0 1 r.1 ∧ Inv r.2) := by
  obtain ⟨m, w, hs, hf, hl, hm, hw1, hw5⟩ := hr
  obtain ⟨q0, q1, q2, q3⟩ := rows_i hs i
  unfold mR_add
  refine s_if (fun c => ?_) (fun c => s_some ⟨(show R 0 1 (0 : Int32) from ⟨by decide, by decide⟩), i⟩)
  rw [Int32.lt_iff_toInt_lt] at c
  have bound : (h0 a0 3).toInt * (w : Int) + w ≤ m * w := by
    have := Int.mul_le_mul_of_nonneg_right (show (h0 a0 3).toInt + 1 ≤ (m : Int) by omega) (show (0 : Int) ≤ (w : Int) by omega)
    rw [Int.add_mul, Int.one_mul] at this
    omega
  have pos : 0 ≤ (h0 a0 3).toInt * (w : Int) := Int.mul_nonneg (by omega) (by omega)
  have big := mw_big hm hw5
  have en : ((ln (a0 + 1) : Nat) : Int) = (m : Int) * (w : Int) := by rw [hl]; exact Int.natCast_mul m w
  refine s_lt (fun x1 e1 => ?_)
  have ex : x1.toInt = (h0 a0 3).toInt * (w : Int) := by rw [e1]; exact mul_small rfl q1 pos (by omega)
  have cj : ∀ {ρ : Type} {Q : ρ → Prop} {k : Option ρ} (z : Int32) (j : Int), z.toInt = j → 0 ≤ j → j < w → Sf k Q → Sf (ck (x1 + z) (ln (a0 + 1)) k) Q := by
    intro ρ Q k z j ez j0 jw hk
    have e2 : (x1 + z).toInt = x1.toInt + j := by
      rw [Int32.toInt_add, ez, Int.bmod_eq_of_le_mul_two (by omega) (by omega)]
    exact s_ck (a := (x1 + z).toInt) (b := (x1 + z).toInt) ⟨Int.le_refl _, Int.le_refl _⟩ ⟨by omega, by omega⟩ hk
  have ne : ¬ a0 = a0 + 1 := by omega
  have put : ∀ (h : PH) (j : Nat) (v : Int32), Inv h ∧ h a0 3 = h0 a0 3 → Inv (up h (a0 + 1) j v) ∧ up h (a0 + 1) j v a0 3 = h0 a0 3 := fun h j v q => ⟨inv_put q.1 (show sp (a0 + 1) j = (-2147483648, 2147483647) from congrFun hf j) (r_full v), by rw [up_oc ne]; exact q.2⟩
  refine s_ck (a := x1.toInt) (b := x1.toInt) ⟨Int.le_refl _, Int.le_refl _⟩ ⟨by omega, by omega⟩ ?_
  refine s_lt (fun h2 e2 => ?_)
  have k2 : Inv h2 ∧ h2 a0 3 = h0 a0 3 := by rw [e2]; exact put h0 _ _ ⟨i, rfl⟩
  have wide : ∀ (h : PH) (z : Int32) (j : Int), z.toInt = j → Inv h → ¬ h a0 1 ≤ z → j < w := fun h z j ez hi hc => by
    rw [Int32.le_iff_toInt_le, (rows_i hs hi).2.1, ez] at hc
    omega
  refine s_jn1 (P := fun h => Inv h ∧ h a0 3 = h0 a0 3) (fun h4 k4 => ?_) (fun j3 kj3 => ?_)
  · refine s_jn1 (P := fun h => Inv h ∧ h a0 3 = h0 a0 3) (fun h6 k6 => ?_) (fun j5 kj5 => ?_)
    · refine s_jn1 (P := fun h => Inv h ∧ h a0 3 = h0 a0 3) (fun h8 k8 => ?_) (fun j7 kj7 => ?_)
      · refine s_jn1 (P := fun h => Inv h ∧ h a0 3 = h0 a0 3) (fun h10 k10 => ?_) (fun j9 kj9 => ?_)
        · refine s_lt (fun h11 e11 => ?_)
          refine s_some ⟨(show R 0 1 (1 : Int32) from ⟨by decide, by decide⟩), ?_⟩
          show Inv h11
          rw [e11]
          refine inv_put k10.1 (show sp a0 3 = (0, (m : Int)) from congrFun hs 3) ?_
          rw [k10.2]
          have e5 : (h0 a0 3 + 1).toInt = (h0 a0 3).toInt + 1 := i_inc (a := 0) (b := 400) ⟨by omega, by omega⟩ rfl (by decide)
          exact ⟨by omega, by omega⟩
        · refine s_if (fun c => kj9 _ k8) (fun c => ?_)
          refine cj 4 4 rfl (by decide) (wide h8 4 4 rfl k8.1 c) ?_
          exact s_lt (fun h12 e12 => kj9 _ (by rw [e12]; exact put h8 _ _ k8))
      · refine s_if (fun c => kj7 _ k6) (fun c => ?_)
        refine cj 3 3 rfl (by decide) (wide h6 3 3 rfl k6.1 c) ?_
        exact s_lt (fun h12 e12 => kj7 _ (by rw [e12]; exact put h6 _ _ k6))
    · refine s_if (fun c => kj5 _ k4) (fun c => ?_)
      refine cj 2 2 rfl (by decide) (wide h4 2 2 rfl k4.1 c) ?_
      exact s_lt (fun h12 e12 => kj5 _ (by rw [e12]; exact put h4 _ _ k4))
  · refine s_if (fun c => kj3 _ k2) (fun c => ?_)
    refine cj 1 1 rfl (by decide) (wide h2 1 1 rfl k2.1 c) ?_
    exact s_lt (fun h12 e12 => kj3 _ (by rw [e12]; exact put h2 _ _ k2))
theorem inv_cpy {h : PH} {c d s e n : Nat} (hI : Inv h) (hs : sp d = spF) : Inv (cpy h c d s e n) := by
  intro b j
  unfold cpy setC
  by_cases hb : b = d
  · subst hb
    rw [hs]
    exact r_full _
  · rw [if_neg hb]; exact hI b j
theorem inv_cpy0 {h : PH} {c d n : Nat} (hI : Inv h) (he : sp d = sp c) : Inv (cpy h c d 0 0 n) := by
  intro b j
  unfold cpy setC
  by_cases hb : b = d
  · subst hb
    rw [if_pos rfl]
    unfold va_cpy
    split
    · rw [he, show 0 + (j - 0) = j by omega]; exact hI c j
    · exact hI b j
  · rw [if_neg hb]; exact hI b j
theorem sf_R_copyFrom (a0 a1 : Nat) (hr0 : isR a0) (hr1 : isR a1) {h0 : PH} (i : Inv h0) (he : sp (a0 + 1) = sp (a1 + 1) := by rfl) : Sf (mR_copyFrom a0 a1 h0) (fun h => Inv h) := by
  obtain ⟨m, w, hs, hf, hl, hm, hw1, hw5⟩ := hr0
  obtain ⟨m', w', hs', hf', hl', hm', hw1', hw5'⟩ := hr1
  obtain ⟨q0, q1, q2, q3⟩ := rows_i hs i
  obtain ⟨p0, p1, p2, p3⟩ := rows_i hs' i
  unfold mR_copyFrom
  refine s_lt (fun x1 e1 => ?_)
  have pos : 0 ≤ (h0 a1 3).toInt * (w' : Int) := Int.mul_nonneg (by omega) (by omega)
  have le1 : (h0 a1 3).toInt * (w' : Int) ≤ m' * w' := Int.mul_le_mul_of_nonneg_right p3 (by omega)
  have big := mw_big hm' hw5'
  have big0 := mw_big hm hw5
  have ex : x1.toInt = (h0 a1 3).toInt * (w' : Int) := by rw [e1]; exact mul_small rfl p1 pos (by omega)
  have en : ((ln (a0 + 1) : Nat) : Int) = (m : Int) * (w : Int) := by rw [hl]; exact Int.natCast_mul m w
  have en' : ((ln (a1 + 1) : Nat) : Int) = (m' : Int) * (w' : Int) := by rw [hl']; exact Int.natCast_mul m' w'
  refine s_if (fun c => ?_) (fun c => s_some i)
  have ww : (w' : Int) = w := by rw [← p1, ← q1, c]
  refine s_if (fun c2 => s_some i) (fun c2 => ?_)
  have eL : (Int32.ofNat (ln (a0 + 1))).toInt = ((ln (a0 + 1) : Nat) : Int) := nI_toInt (by omega)
  rw [Int32.lt_iff_toInt_lt, eL, en] at c2
  have hcc : ∀ {ρ : Type} (k : Option ρ), cc (ln (a1 + 1)) (ln (a0 + 1)) 0 0 x1 k = k := by
    intro ρ k
    unfold cc
    refine if_neg ?_
    have hx : ((ix x1 : Nat) : Int) = x1.toInt := clamp_int (by omega)
    have h00 : ix (0 : Int32) = 0 := rfl
    rintro (q | q | q | q | q)
    · exact absurd q (by decide)
    · exact absurd q (by decide)
    · rw [Int32.lt_iff_toInt_lt] at q
      simp only [show (0 : Int32).toInt = 0 from rfl] at q
      omega
    · rw [h00] at q; omega
    · rw [h00] at q; omega
  rw [hcc]
  refine s_lt (fun h2 e2 => ?_)
  have i2 : Inv h2 := by rw [e2]; exact inv_cpy0 i he
  refine s_lt (fun h3 e3 => ?_)
  refine s_some ?_
  rw [e3]
  refine inv_put i2 (show sp a0 3 = (0, (m : Int)) from congrFun hs 3) ?_
  have n1 : ¬ a1 = a0 + 1 := by
    intro q
    rw [q] at hs'
    have h5 := hf 2
    rw [hs'] at h5
    have h6 := hf 3
    rw [hs'] at h6
    exact h6 rfl
  have e4 : h2 a1 3 = h0 a1 3 := by
    rw [e2]
    unfold cpy setC
    rw [if_neg n1]
  rw [e4]
  refine ⟨p2, ?_⟩
  rw [ww] at ex
  have : (h0 a1 3).toInt * (w : Int) ≤ (m : Int) * (w : Int) := by omega
  exact Int.le_of_mul_le_mul_right this (by omega)
theorem sf_B_copyFrom (a0 a1 : Nat) (hb0 : isB a0) (hb1 : isB a1) {h0 : PH} (i : Inv h0) : Sf (mB_copyFrom a0 a1 h0) (fun h => Inv h) := by
  unfold mB_copyFrom
  rw [cc_132]
  refine s_lt (fun h1 e1 => ?_)
  have i1 : Inv h1 := by rw [e1]; exact inv_cpy i hb0.2
  refine s_lt (fun h2 e2 => ?_)
  have i2 : Inv h2 := by rw [e2]; exact inv_put i1 (show sp a0 1 = (0, 12) from congrFun hb0.1 1) (inv_rng i1 (show sp a1 1 = (0, 12) from congrFun hb1.1 1))
  refine s_lt (fun h3 e3 => ?_)
  have i3 : Inv h3 := by rw [e3]; exact inv_put i2 (show sp a0 2 = (-2147483648, 2147483647) from congrFun hb0.1 2) (r_full _)
  refine s_lt (fun h4 e4 => ?_)
  have i4 : Inv h4 := by rw [e4]; exact inv_put i3 (show sp a0 3 = (-2147483648, 2147483647) from congrFun hb0.1 3) (r_full _)
  refine s_lt (fun h5 e5 => ?_)
  have i5 : Inv h5 := by rw [e5]; exact inv_put i4 (show sp a0 4 = (-2147483648, 2147483647) from congrFun hb0.1 4) (r_full _)
  refine s_lt (fun h6 e6 => ?_)
  have i6 : Inv h6 := by rw [e6]; exact inv_put i5 (show sp a0 5 = (-2147483648, 2147483647) from congrFun hb0.1 5) (r_full _)
  refine s_lt (fun h7 e7 => ?_)
  have i7 : Inv h7 := by rw [e7]; exact inv_put i6 (show sp a0 6 = (-2147483648, 2147483647) from congrFun hb0.1 6) (r_full _)
  refine s_lt (fun h8 e8 => ?_)
  refine s_some ?_
  rw [e8]
  exact inv_put i7 (show sp a0 7 = (-2147483648, 2147483647) from congrFun hb0.1 7) (r_full _)
theorem isB_kept {x : Int32} (h : R 0 5 x) : isB (73 + 2 * ix x) := by
  obtain ⟨h1, h2⟩ := h
  have e := clamp_int (i := x) h1
  have hk : ix x < 6 := by
    have e : ((ix x : Nat) : Int) = x.toInt := e
    omega
  generalize ix x = k at hk
  match k, hk with
  | 0, _ => exact ⟨rfl, rfl⟩
  | 1, _ => exact ⟨rfl, rfl⟩
  | 2, _ => exact ⟨rfl, rfl⟩
  | 3, _ => exact ⟨rfl, rfl⟩
  | 4, _ => exact ⟨rfl, rfl⟩
  | 5, _ => exact ⟨rfl, rfl⟩
  | k + 6, h => omega
theorem isB_sT {a : Nat} : isB (sT a) := by
  unfold sT
  split
  · exact ⟨rfl, rfl⟩
  · exact ⟨rfl, rfl⟩
theorem inv_fr {h g : PH} (hI : Inv h) (c : Nat) (hs : sp (c + 1) = spF) (fr : ∀ b, b ≠ c → b ≠ c + 1 → g b = h b) (hc : ∀ j, R (sp c j).1 (sp c j).2 (g c j)) : Inv g := by
  intro b j
  by_cases h1 : b = c
  · subst h1; exact hc j
  · by_cases h2 : b = c + 1
    · subst h2; rw [hs]; exact r_full _
    · rw [fr b h1 h2]; exact hI b j
theorem sf_B_build (a0 : Nat) (p1 p2 p3 : Int32) (hb : isB a0) {h0 : PH} (i : Inv h0) (hn : R 0 11 (h0 a0 1)) : Sf (mB_build a0 p1 p2 p3 h0) (fun r => R 0 11 r.1 ∧ Inv r.2) := by
  obtain ⟨n1, n2⟩ := hn
  obtain ⟨n, hn, en⟩ := nI_of (x := h0 a0 1) (by rw [Int32.lt_iff_toInt_lt]; simp only [show (0 : Int32).toInt = 0 from rfl]; omega)
  have e2 : ((n : Nat) : Int) = (h0 a0 1).toInt := by rw [en, nI_toInt hn]
  obtain ⟨h', q1, q2, q3, q4⟩ := bu_at a0 n (by omega) p1 p2 p3 h0 en
  refine ⟨_, q1, ⟨by rw [nI_toInt hn]; omega, by rw [nI_toInt hn]; omega⟩, inv_fr i a0 hb.2 q3 (fun j => ?_)⟩
  by_cases hj : j = 1
  · subst hj
    rw [hb.1]
    show R 0 12 (h' a0 1)
    rw [q2]
    exact ⟨by rw [nI_toInt (by omega)]; omega, by rw [nI_toInt (by omega)]; omega⟩
  · show R (sp a0 j).1 (sp a0 j).2 (h' a0 j)
    rw [q4 j hj]; exact i a0 j
theorem sp_C (x : Int32) (k c : Nat) (e : x.toInt = 5 * (k : Int) + c) (hc : c < 5) : sp 92 (ix x) = if c = 0 ∨ c = 4 then rF else (-1, 9999) := by
  have e1 : ((ix x : Nat) : Int) = x.toInt := clamp_int (by omega)
  have e2 : ix x % 5 = c := by omega
  show spC (ix x) = _
  unfold spC
  rw [e2]
theorem sf_R_add_91 (p1 p2 p3 p4 p5 : Int32) (f2 : R (-1) 9999 p2) (f3 : R (-1) 9999 p3) (f4 : R (-1) 9999 p4) {h0 : PH} (i : Inv h0) : Sf (mR_add 91 p1 p2 p3 p4 p5 h0) (fun r => R 0 1 r.1 ∧ Inv r.2) := by
  have q0 : R 16 16 (h0 91 0) := inv_rng i rfl
  have q1 : R 5 5 (h0 91 1) := inv_rng i rfl
  have q3 : R 0 16 (h0 91 3) := inv_rng i rfl
  unfold mR_add
  refine s_if (fun c => ?_) (fun c => s_some ⟨(show R 0 1 (0 : Int32) from ⟨by decide, by decide⟩), i⟩)
  have q4 : R 0 15 (h0 91 3) := lt_hi q3 q0 c (by decide)
  refine s_lt (fun x1 e1 => ?_)
  have qx : R 0 75 x1 := by rw [e1]; exact r_mul q4 q1 (by decide)
  obtain ⟨k, hk, ek⟩ := nI_of (x := h0 91 3) (by rw [Int32.lt_iff_toInt_lt]; simp only [show (0 : Int32).toInt = 0 from rfl]; have := q4.1; omega)
  have ekk : (h0 91 3).toInt = (k : Int) := by rw [ek, nI_toInt hk]
  have ex : x1.toInt = 5 * (k : Int) + ((0 : Nat) : Int) := by
    have h1 : (h0 91 1).toInt = 5 := Int.le_antisymm q1.2 q1.1
    have := q4.2
    rw [e1, mul_small ekk h1 (by omega) (by omega)]
    omega
  have hL : ln (91 + 1) = 80 := rfl
  have exz : ∀ (z : Int32) (c : Nat), z.toInt = (c : Int) → c < 5 → (x1 + z).toInt = 5 * (k : Int) + (c : Int) := fun z c ez hc => by
    have : (x1 + z).toInt = x1.toInt + z.toInt := i_add (c := (c : Int)) (d := (c : Int)) qx ⟨by omega, by omega⟩ ⟨by omega, by omega⟩
    omega
  have cj : ∀ {ρ : Type} {Q : ρ → Prop} {kk : Option ρ} (z : Int32) (c : Nat), z.toInt = (c : Int) → c < 5 → Sf kk Q → Sf (ck (x1 + z) (ln (91 + 1)) kk) Q := by
    intro ρ Q kk z c ez hc hk2
    have e2 := exz z c ez hc
    have := q4.2
    exact s_ck (a := (x1 + z).toInt) (b := (x1 + z).toInt) ⟨Int.le_refl _, Int.le_refl _⟩ ⟨by omega, by rw [hL]; omega⟩ hk2
  have put : ∀ (h : PH) (x : Int32) (c : Nat) (v : Int32), x.toInt = 5 * (k : Int) + (c : Int) → c < 5 → (c = 0 ∨ c = 4 ∨ R (-1) 9999 v) → Inv h ∧ h 91 3 = h0 91 3 → Inv (up h (91 + 1) (ix x) v) ∧ up h (91 + 1) (ix x) v 91 3 = h0 91 3 := fun h x c v ex hc hv q => by
    refine ⟨?_, by rw [up_oc (by decide)]; exact q.2⟩
    refine inv_up q.1 ?_
    rw [show sp (91 + 1) (ix x) = _ from sp_C x k c ex hc]
    rcases hv with hv | hv | hv
    · rw [if_pos (Or.inl hv)]; exact r_full v
    · rw [if_pos (Or.inr hv)]; exact r_full v
    · split
      · exact r_full v
      · exact hv
  refine s_ck qx (by rw [hL]; decide) ?_
  refine s_lt (fun h2 e2 => ?_)
  have k2 : Inv h2 ∧ h2 91 3 = h0 91 3 := by rw [e2]; exact put h0 x1 0 p1 ex (by decide) (Or.inl rfl) ⟨i, rfl⟩
  refine s_jn1 (P := fun h => Inv h ∧ h 91 3 = h0 91 3) (fun h4 k4 => ?_) (fun j3 kj3 => ?_)
  · refine s_jn1 (P := fun h => Inv h ∧ h 91 3 = h0 91 3) (fun h6 k6 => ?_) (fun j5 kj5 => ?_)
    · refine s_jn1 (P := fun h => Inv h ∧ h 91 3 = h0 91 3) (fun h8 k8 => ?_) (fun j7 kj7 => ?_)
      · refine s_jn1 (P := fun h => Inv h ∧ h 91 3 = h0 91 3) (fun h10 k10 => ?_) (fun j9 kj9 => ?_)
        · refine s_lt (fun h11 e11 => ?_)
          refine s_some ⟨(show R 0 1 (1 : Int32) from ⟨by decide, by decide⟩), ?_⟩
          show Inv h11
          rw [e11]
          refine inv_put k10.1 (show sp 91 3 = (0, 16) from rfl) ?_
          rw [k10.2]
          exact r_w (r_add q4 (show R 1 1 (1 : Int32) from ⟨by decide, by decide⟩) (e := 1) (f := 16) (by decide)) (by decide)
        · refine s_if (fun c => kj9 _ k8) (fun c => ?_)
          refine cj 4 4 rfl (by decide) ?_
          exact s_lt (fun h12 e12 => kj9 _ (by rw [e12]; exact put h8 _ 4 _ (exz 4 4 rfl (by decide)) (by decide) (Or.inr (Or.inl rfl)) k8))
      · refine s_if (fun c => kj7 _ k6) (fun c => ?_)
        refine cj 3 3 rfl (by decide) ?_
        exact s_lt (fun h12 e12 => kj7 _ (by rw [e12]; exact put h6 _ 3 _ (exz 3 3 rfl (by decide)) (by decide) (Or.inr (Or.inr f4)) k6))
    · refine s_if (fun c => kj5 _ k4) (fun c => ?_)
      refine cj 2 2 rfl (by decide) ?_
      exact s_lt (fun h12 e12 => kj5 _ (by rw [e12]; exact put h4 _ 2 _ (exz 2 2 rfl (by decide)) (by decide) (Or.inr (Or.inr f3)) k4))
  · refine s_if (fun c => kj3 _ k2) (fun c => ?_)
    refine cj 1 1 rfl (by decide) ?_
    exact s_lt (fun h12 e12 => kj3 _ (by rw [e12]; exact put h2 _ 1 _ (exz 1 1 rfl (by decide)) (by decide) (Or.inr (Or.inr f2)) k2))
theorem sf_R_at_C (p1 p2 : Int32) (f : R 1 3 p2) {h0 : PH} (i : Inv h0) : Sf (mR_at 6 p1 p2 h0) (fun r => R (-1) 9999 r) := by
  have q1 : R 5 5 (h0 6 1) := inv_rng i rfl
  have q3 : R 0 16 (h0 6 3) := inv_rng i rfl
  have m1 : R (-1) 9999 (-1 : Int32) := ⟨by decide, by decide⟩
  unfold mR_at
  refine s_if (fun c => s_some m1) (fun c1 => ?_)
  refine s_if (fun c => s_some m1) (fun c2 => ?_)
  refine s_if (fun c => s_some m1) (fun c3 => ?_)
  refine s_if (fun c4 => ?_) (fun c => s_some m1)
  have g1 : R 0 2147483647 p1 := le_lo (show R 0 0 (0 : Int32) from ⟨by decide, by decide⟩) (r_full p1) (nlt_le c1)
  have g2 : R 0 15 p1 := lt_hi g1 q3 (nle_lt c2) (by decide)
  have h1 : (h0 6 1).toInt = 5 := Int.le_antisymm q1.2 q1.1
  obtain ⟨k, hk, rfl⟩ := nI_of (x := p1) c1
  have ekk := nI_toInt hk
  have u1 := g2.2
  have e1 : (nI k * h0 6 1).toInt = (k : Int) * 5 := mul_small ekk h1 (by omega) (by omega)
  have e2 : (nI k * h0 6 1 + p2).toInt = 5 * (k : Int) + p2.toInt := by
    rw [i_add (a := 0) (b := 75) (c := 1) (d := 3) ⟨by omega, by omega⟩ f (by decide)]
    omega
  obtain ⟨f1, f2⟩ := f
  have hL : ln (6 + 1) = 80 := rfl
  refine s_ck (a := (nI k * h0 6 1 + p2).toInt) (b := (nI k * h0 6 1 + p2).toInt) ⟨Int.le_refl _, Int.le_refl _⟩ ⟨by omega, by rw [hL]; omega⟩ (s_some ?_)
  have e3 := clamp_int (i := nI k * h0 6 1 + p2) (by omega)
  have := i 7 (ix (nI k * h0 6 1 + p2))
  rw [show sp 7 (ix (nI k * h0 6 1 + p2)) = spC (ix (nI k * h0 6 1 + p2)) from rfl] at this
  unfold spC at this
  rw [if_neg (by
    have e3 : ((ix (nI k * h0 6 1 + p2) : Nat) : Int) = (nI k * h0 6 1 + p2).toInt := e3
    omega)] at this
  exact this
theorem inv_rows0 {a : Nat} (hr : isR a) {h : PH} (hI : Inv h) : Inv (up h a 3 0) := by
  obtain ⟨m, w, hs, -, -, -, -, -⟩ := hr
  exact inv_put hI (show sp a 3 = (0, (m : Int)) from congrFun hs 3) ⟨by decide, Int.natCast_nonneg m⟩
theorem sf_G_isLatin1 (s0 : Nat) {h0 : PH} (_ : Inv h0) : Sf (mG_isLatin1 s0 h0) (fun r => R 1 1 r) := ⟨1, rfl, by decide, by decide⟩
theorem sf_G_coder (s0 : Nat) {h0 : PH} (_ : Inv h0) : Sf (mG_coder s0 h0) (fun r => R 0 0 r) := ⟨0, rfl, by decide, by decide⟩
theorem sf_G_charAt (s0 : Nat) (p1 : Int32) {L : Int} (f : R 0 L p1) (hL : L < (sln s0 : Int)) (hs : sln s0 < 2 ^ 31) {h0 : PH} : Sf (mG_charAt s0 p1 h0) (fun r => R (-2147483648) 2147483647 r) := by
  unfold mG_charAt
  rw [show mG_isLatin1 s0 h0 = some 1 from rfl, bd_e, if_neg (by decide)]
  refine s_bd (P := fun _ => True) ?_ (fun r _ => s_some (r_full _))
  obtain ⟨f1, f2⟩ := f
  have c1 : ¬ p1 < 0 := by
    rw [Int32.lt_iff_toInt_lt]
    simp only [show (0 : Int32).toInt = 0 from rfl]
    omega
  have c2 : p1 < Int32.ofNat (sln s0) := by
    rw [Int32.lt_iff_toInt_lt, show (Int32.ofNat (sln s0)).toInt = ((sln s0 : Nat) : Int) from nI_toInt hs]
    omega
  unfold mH_charAt mG_checkIndex mQ_checkIndex jn0
  simp only [if_neg c1, if_pos c2, bd_e]
  exact s_ck ⟨f1, f2⟩ ⟨Int.le_refl 0, hL⟩ (s_some trivial)
theorem sf_G_length_0 {h0 : PH} (_ : Inv h0) : Sf (mG_length 0 h0) (fun r => R 102 102 r) := ⟨nI 102, rfl, by decide, by decide⟩
theorem sf_G_charAt_0 (p1 : Int32) (f : R 0 101 p1) {h0 : PH} (_ : Inv h0) : Sf (mG_charAt 0 p1 h0) (fun r => R (-2147483648) 2147483647 r) := sf_G_charAt 0 p1 f (by decide) (by decide)
theorem sf_G_length_1 {h0 : PH} (_ : Inv h0) : Sf (mG_length 1 h0) (fun r => R 18 18 r) := ⟨nI 18, rfl, by decide, by decide⟩
theorem sf_G_charAt_1 (p1 : Int32) (f : R 0 17 p1) {h0 : PH} (_ : Inv h0) : Sf (mG_charAt 1 p1 h0) (fun r => R (-2147483648) 2147483647 r) := sf_G_charAt 1 p1 f (by decide) (by decide)
theorem sf_G_length_2 {h0 : PH} (_ : Inv h0) : Sf (mG_length 2 h0) (fun r => R 20 20 r) := ⟨nI 20, rfl, by decide, by decide⟩
theorem sf_G_charAt_2 (p1 : Int32) (f : R 0 19 p1) {h0 : PH} (_ : Inv h0) : Sf (mG_charAt 2 p1 h0) (fun r => R (-2147483648) 2147483647 r) := sf_G_charAt 2 p1 f (by decide) (by decide)
theorem sf_G_length_3 {h0 : PH} (_ : Inv h0) : Sf (mG_length 3 h0) (fun r => R 10 10 r) := ⟨nI 10, rfl, by decide, by decide⟩
theorem sf_G_charAt_3 (p1 : Int32) (f : R 0 9 p1) {h0 : PH} (_ : Inv h0) : Sf (mG_charAt 3 p1 h0) (fun r => R (-2147483648) 2147483647 r) := sf_G_charAt 3 p1 f (by decide) (by decide)
theorem sf_G_length_4 {h0 : PH} (_ : Inv h0) : Sf (mG_length 4 h0) (fun r => R 10 10 r) := ⟨nI 10, rfl, by decide, by decide⟩
theorem sf_G_charAt_4 (p1 : Int32) (f : R 0 9 p1) {h0 : PH} (_ : Inv h0) : Sf (mG_charAt 4 p1 h0) (fun r => R (-2147483648) 2147483647 r) := sf_G_charAt 4 p1 f (by decide) (by decide)
theorem G_len (s1 : Nat) (hs : s1 < 5) (h : PH) : mG_length s1 h = some (nI (sln s1)) := by
  match s1, hs with
  | 0, _ => rfl
  | 1, _ => rfl
  | 2, _ => rfl
  | 3, _ => rfl
  | 4, _ => rfl
  | s + 5, h => omega
theorem sln_lt (s1 : Nat) (hs : s1 < 5) : sln s1 < 103 := by
  match s1, hs with
  | 0, _ => decide
  | 1, _ => decide
  | 2, _ => decide
  | 3, _ => decide
  | 4, _ => decide
  | s + 5, h => omega
theorem s_forget {ρ : Type} {Q : ρ → Prop} {h : PH} {f : PH → Option ρ} (hf : ∀ g, g = up h 70 3 0 → Sf (f g) Q) : Sf (bd (mP_forget h) f) Q := hf _ rfl
end
