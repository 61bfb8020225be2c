/-! what the first claim proved and this one can use. Taken out of claims/p1 (80-88) by wip/gen/pbase2.py -/
theorem up_at (h : PH) (a j : Nat) (x : Int32) (b i : Nat) : up h a j x b i = if b = a then (if i = j then x else h a i) else h b i := by
  unfold up setC upd
  by_cases hb : b = a
  · subst hb; simp
  · simp [hb]
theorem ck_in {ρ : Type} {i : Int32} {n : Nat} {k : Option ρ} (h : vp_in i n) : ck i n k = k := by
  unfold ck; exact if_neg h
theorem ck_nI {ρ : Type} {i n : Nat} {k : Option ρ} (h : i < n) (hn : n < 2 ^ 31) : ck (nI i) n k = k := ck_in (vp_in_nI h hn)
theorem dz_nz {ρ : Type} {y : Int32} {k : Option ρ} (h : ¬ y = 0) : dz y k = k := by unfold dz; exact if_neg h
theorem lesser_eq (x y : Int32) (h : PH) : mm_lesser x y h = some (imin y x) := by
  unfold mm_lesser imin
  split
  · rename_i c
    first | rfl | (simp only [c]; try rfl) | simp [Int32.not_lt.mpr c]
  · rename_i c
    first | rfl | (simp only [c]; try rfl) | simp [Int32.not_le.mp c]
theorem mort_sim (q p w w' : Int32) (h1 h2 : PH) (kc : Int32 → Int32 → Option Int32) (km : Int32 → Int32 → Option (Int32 × PH)) (hk : ∀ x y, km x y = (kc x y).map (fun r => (r, h2))) :
    ∀ (n : Nat) (a b c : Int32), mm_mortgage_L62 q p w h2 km n a b c = (mK_payOff_L9 q p w' h1 kc n a b c).map (fun r => (r, h2)) := by
  have hz : ¬ (100 : Int32) = 0 := by decide
  intro n
  induction n with
  | zero => intro a b c; rfl
  | succ n ih =>
    intro a b c
    unfold mm_mortgage_L62 mK_payOff_L9
    simp only [lt, dz_nz hz, lesser_eq, bd]
    by_cases c1 : 400 < c
    · simp [c1]
    · simp only [c1, if_false]
      generalize a + (a * q + 99) / 100 = x
      by_cases c2 : x = imin p x
      · rw [if_pos c2, if_pos c2.symm]
        exact hk _ _
      · have c2' : ¬ imin p x = x := fun e => c2 e.symm
        rw [if_neg c2, if_neg c2']
        by_cases c3 : x - imin p x < a
        · rw [if_pos c3, if_pos c3]
          exact ih _ _ _
        · rw [if_neg c3, if_neg c3]
          rfl
theorem mort_some (q p w : Int32) (h : PH) (kc : Int32 → Int32 → Option Int32) (hk : ∀ x y, ∃ r, kc x y = some r) : ∀ (n k : Nat) (a b : Int32), 401 < n + k → k ≤ 401 → ∃ r, mK_payOff_L9 q p w h kc n a b (nI k) = some r := by
  have hz : ¬ (100 : Int32) = 0 := by decide
  intro n
  induction n with
  | zero => intro k a b h1 h2; omega
  | succ n ih =>
    intro k a b h1 h2
    unfold mK_payOff_L9
    simp only [lt, dz_nz hz]
    by_cases c1 : 400 < nI k
    · exact ⟨_, if_pos c1⟩
    · rw [if_neg c1]
      have hk2 : k ≤ 400 := by
        rcases Nat.lt_or_ge 400 k with q | q
        · exact absurd (nI_lt (a := 400) q (by omega)) c1
        · exact q
      split
      · exact hk _ _
      · split
        · rw [nI_1]; exact ih (k + 1) _ _ (by omega) (by omega)
        · exact ⟨_, rfl⟩
theorem within_eq (v a b : Int32) (h : PH) : mX_within v a b h = some (if a ≤ v ∧ v ≤ b then 1 else 0) := by
  unfold mX_within
  by_cases c0 : v < a
  · have c1 : ¬ a ≤ v := Int32.not_le.mpr c0
    simp [c0, c1]
  · have c1 : a ≤ v := Int32.not_lt.mp c0
    by_cases c2 : b < v
    · have c3 : ¬ v ≤ b := Int32.not_le.mpr c2
      simp [c0, c2, c3]
    · have c3 : v ≤ b := Int32.not_lt.mp c2
      simp [c0, c1, c2, c3]
theorem isIn_eq (v a b : Int32) (h : PH) : mm_isIn v a b h = some (if a ≤ v ∧ v ≤ b then 1 else 0) := by
  unfold mm_isIn
  by_cases c0 : v < a
  · have c1 : ¬ a ≤ v := Int32.not_le.mpr c0
    simp [c0, c1]
  · have c1 : a ≤ v := Int32.not_lt.mp c0
    by_cases c2 : b < v
    · have c3 : ¬ v ≤ b := Int32.not_le.mpr c2
      simp [c0, c2, c3]
    · have c3 : v ≤ b := Int32.not_lt.mp c2
      simp [c0, c1, c2, c3]
theorem payOff_some (a q p w : Int32) (h : PH) : ∃ r, mK_payOff a q p w h = some r := by
  unfold mK_payOff
  exact mort_some q p w h _ (fun x y => by by_cases c : w = 0 <;> simp [c]) FU 1 a 0 (by unfold FU; omega) (by omega)
def wst : Nat → Int32 × Int32 × Int32 × Int32 × Int32
  | 0 => (1, 0, 0, 0, 0)
  | n + 1 => ((((wst n).1 + (wst n).2.2.2.1) + (wst n).2.1) + (wst n).2.2.2.2, (wst n).1, (wst n).2.1, (wst n).2.2.1, (wst n).2.2.2.1)
def wo (n : Nat) : Int32 := (wst n).1
def wt (n : Nat) : Int32 := (wst n).2.2.2.1
theorem ni_sub (m c : Nat) : nI (m + c) - nI c = nI m := by
  rw [← nI_add]; exact Int32.add_sub_cancel _ _
theorem win_class (N : Nat) (hN : N ≤ 20) (h : PH) : ∀ (n k : Nat), N < n + k → k ≤ N → mK_windowWays_L15 (nI N) h n (wst k).1 (wst k).2.1 (wst k).2.2.1 (wst k).2.2.2.1 (wst k).2.2.2.2 (nI (k + 1)) = some (wo N + wt N) := by
  intro n
  induction n with
  | zero => intro k h1 h2; omega
  | succ n ih =>
    intro k h1 h2
    unfold mK_windowWays_L15
    by_cases hk : k = N
    · subst hk
      rw [if_pos (nI_lt (by omega) (by omega))]
      rfl
    · rw [if_neg (nI_nlt (by omega) (by omega))]
      have := ih (k + 1) (by omega) (by omega)
      rw [nI_1]
      exact this
theorem win_model (N : Nat) (hN : N ≤ 20) (k0 : PH → Option (Int32 × PH)) : ∀ (n k : Nat) (h : PH), N + 1 < n + k → k ≤ N + 1 → (∀ u, u < k → h 142 u = wo u ∧ h 143 u = wt u) → ∃ hf, mm_window_L20 (nI N) k0 n (nI k) h = k0 hf ∧ ∀ u, u ≤ N → hf 142 u = wo u ∧ hf 143 u = wt u := by
  intro n
  induction n with
  | zero => intro k h h1 h2; omega
  | succ n ih =>
    intro k h h1 h2 hu
    unfold mm_window_L20
    by_cases hk : k = N + 1
    · subst hk
      rw [if_pos (nI_lt (by omega) (by omega))]
      exact ⟨h, rfl, fun u hu' => hu u (by omega)⟩
    · rw [if_neg (nI_nlt (by omega) (by omega))]
      have ckk : ∀ (ρ : Type) (q : Option ρ), ck (nI k) 21 q = q := fun _ _ => ck_nI (by omega) (by omega)
      have ixk : ix (nI k) = k := nI_clamp (by omega)
      have go : ∀ (x9 : Int32) (h7 : PH), (h7 142 k = wo k) → x9 = wt k → (∀ u, u < k → h7 142 u = wo u ∧ h7 143 u = wt u) → ∃ hf, mm_window_L20 (nI N) k0 n (nI k + 1) (up h7 143 k x9) = k0 hf ∧ ∀ u, u ≤ N → hf 142 u = wo u ∧ hf 143 u = wt u := by
        intro x9 h7 e1 e2 e3
        rw [nI_1]
        refine ih (k + 1) _ (by omega) (by omega) (fun u hu' => ?_)
        by_cases huk : u = k
        · subst huk
          simp [up_at, e1, e2]
        · have := e3 u (by omega)
          simp [up_at, huk, this]
      match k, hk, hu, ckk, ixk, go with
      | 0, hk, hu, ckk, ixk, go =>
        simp only [jn1, lt, ckk, ixk, show nI 0 = 0 from nI_0, show (0 : Int32) ≤ 1 by decide, show (0 : Int32) ≤ 2 by decide, if_true]
        simp only [nI_0] at go ckk ixk
        simp only [ckk, ixk]
        exact go _ _ (by simp [up_at]; rfl) rfl (fun u hu' => by omega)
      | 1, hk, hu, ckk, ixk, go =>
        have a0 : nI 1 - 1 = nI 0 := nI_pred 0
        have c0 : ∀ (ρ : Type) (q : Option ρ), ck (nI 0) 21 q = q := fun _ _ => ck_nI (by omega) (by omega)
        have i0 : ix (nI 0) = 0 := nI_clamp (by omega)
        have z1 : ¬ nI 1 = 0 := nI_ne0 (by omega) (by omega)
        have z2 : nI 1 ≤ 1 := nI_le (a := 1) (b := 1) (by omega) (by omega)
        have z3 : nI 1 ≤ 2 := nI_le (a := 1) (b := 2) (by omega) (by omega)
        simp only [jn1, lt, ckk, ixk, z1, z2, z3, if_true, if_false, a0, c0, i0]
        have := hu 0 (by omega)
        exact go _ _ (by simp [up_at, this]; rfl) rfl (fun u hu' => by
          have hz : u = 0 := by omega
          subst hz
          simp [up_at, this])
      | k + 2, hk, hu, ckk, ixk, go =>
        have a1 : nI (k + 2) - 1 = nI (k + 1) := nI_pred (k + 1)
        have a2 : nI (k + 2) - 2 = nI k := ni_sub k 2
        have c1 : ∀ (ρ : Type) (q : Option ρ), ck (nI (k + 1)) 21 q = q := fun _ _ => ck_nI (by omega) (by omega)
        have c2 : ∀ (ρ : Type) (q : Option ρ), ck (nI k) 21 q = q := fun _ _ => ck_nI (by omega) (by omega)
        have i1 : ix (nI (k + 1)) = k + 1 := nI_clamp (by omega)
        have i2 : ix (nI k) = k := nI_clamp (by omega)
        have z1 : ¬ nI (k + 2) = 0 := nI_ne0 (by omega) (by omega)
        have z2 : ¬ nI (k + 2) ≤ 1 := nI_ge (a := 1) (by omega) (by omega)
        have u0 := hu k (by omega)
        have u1 := hu (k + 1) (by omega)
        simp only [jn1, lt, ckk, ixk, z1, z2, if_false, a1, a2, c1, c2, i1, i2]
        have key : ∀ x9, x9 = wt (k + 2) → ∃ hf, mm_window_L20 (nI N) k0 n (nI (k + 2) + 1) (up (up (up h 142 (k + 2) (h 142 (k + 1) + h 143 (k + 1))) 142 (k + 2) (up h 142 (k + 2) (h 142 (k + 1) + h 143 (k + 1)) 142 (k + 2) + up h 142 (k + 2) (h 142 (k + 1) + h 143 (k + 1)) 142 k + up h 142 (k + 2) (h 142 (k + 1) + h 143 (k + 1)) 143 k)) 143 (k + 2) x9) = k0 hf ∧ ∀ u, u ≤ N → hf 142 u = wo u ∧ hf 143 u = wt u := by
          intro x9 hx
          refine go _ _ ?_ hx (fun u hu' => ?_)
          · simp [up_at, u0, u1]
            rfl
          · have := hu u hu'
            have hne : ¬ u = k + 2 := by omega
            simp [up_at, hne, this]
        by_cases h3 : nI (k + 2) ≤ 2
        · rw [if_pos h3]
          have hk0 : k = 0 := by
            rcases Nat.eq_zero_or_pos k with q | q
            · exact q
            · exact absurd h3 (nI_ge (a := 2) (by omega) (by omega))
          subst hk0
          exact key _ rfl
        · rw [if_neg h3]
          have hk1 : 1 ≤ k := by
            rcases Nat.eq_zero_or_pos k with q | q
            · subst q; exact absurd (nI_le (a := 2) (b := 2) (by omega) (by omega)) h3
            · exact q
          obtain ⟨j, rfl⟩ : ∃ j, k = j + 1 := ⟨k - 1, by omega⟩
          have a3 : nI (j + 1 + 2) - 3 = nI j := ni_sub j 3
          have c3 : ∀ (ρ : Type) (q : Option ρ), ck (nI j) 21 q = q := fun _ _ => ck_nI (by omega) (by omega)
          have i3 : ix (nI j) = j := nI_clamp (by omega)
          rw [a3, c3]
          refine key _ ?_
          have := hu j (by omega)
          have n1 : ¬ j = j + 1 + 2 := by omega
          simp [up_at, i3, n1, this]
          rfl
theorem win_in {a : Int32} (h1 : 1 ≤ a) (h2 : a ≤ 20) : ∃ N, 1 ≤ N ∧ N ≤ 20 ∧ a = nI N := by
  obtain ⟨j, hj, e⟩ := nI_of2 (x := a) (M := 20) (n := 20) rfl (Int32.not_lt.mpr (Int32.le_trans (by decide) h1)) h2
  refine ⟨j, ?_, hj, e⟩
  rcases Nat.eq_zero_or_pos j with q | q
  · subst q
    rw [e] at h1
    exact absurd h1 (by decide)
  · exact q
theorem wr_at {a0 i k n : Nat} {h : PH} (e : h a0 1 = nI n) (hi : i < n) (hn : n ≤ 12) (hk : k < 11) (v : Int32) : mB_write a0 (nI i) (nI k) v h = some (up h (a0 + 1) (11 * i + k) v) := by
  unfold mB_write
  have e1 : nI i * 11 + nI k = nI (11 * i + k) := by
    rw [show nI i * 11 = nI (i * 11) from (Int32.ofNat_mul i 11).symm, nI_add, Nat.mul_comm]
  rw [if_neg (nI_pos (by omega)), e, if_neg (nI_ge hi (by omega)), if_neg (nI_pos (by omega)), if_neg (show ¬ (11 : Int32) ≤ nI k from nI_ge (b := 11) hk (by omega)), e1, ck_nI (by omega) (by omega), show ix (nI (11 * i + k)) = 11 * i + k from nI_clamp (by omega)]
  rfl
theorem bu_19 (a0 n : Nat) (hn : n < 12) (p1 p2 p3 : Int32) (k0 : PH → Option (Int32 × PH)) : ∀ (f w : Nat) (h : PH), 4 < f + w → w ≤ 4 → h a0 1 = nI (n + 1) → ∃ h', mB_build_L19 a0 p1 p2 p3 (nI n) k0 f (nI w) h = k0 h' ∧ ∀ b, b ≠ a0 + 1 → h' b = h b := by
  intro f
  induction f with
  | zero => intro w h h1 h2; omega
  | succ f ih =>
    intro w h h1 h2 e
    rw [mB_build_L19]
    by_cases hw : w = 4
    · subst hw
      rw [if_pos (show (4 : Int32) ≤ nI 4 by decide)]
      exact ⟨h, rfl, fun _ _ => rfl⟩
    · rw [if_neg (show ¬ (4 : Int32) ≤ nI w from nI_ge (b := 4) (by omega) (by omega)), wr_at e (by omega) (by omega) (by omega)]
      simp only [bd]
      rw [nI_1]
      have ha : ¬ a0 = a0 + 1 := by omega
      obtain ⟨h', q1, q2⟩ := ih (w + 1) (up h (a0 + 1) (11 * n + w) p1) (by omega) (by omega) (by rw [up_at, if_neg ha]; exact e)
      refine ⟨h', q1, fun b hb => ?_⟩
      rw [q2 b hb]
      funext j
      simp [up_at, hb]
theorem bu_at (a0 n : Nat) (hn : n < 12) (p1 p2 p3 : Int32) (h : PH) (e : h a0 1 = nI n) : ∃ h', mB_build a0 p1 p2 p3 h = some (nI n, h') ∧ h' a0 1 = nI (n + 1) ∧ (∀ b, b ≠ a0 → b ≠ a0 + 1 → h' b = h b) ∧ ∀ j, j ≠ 1 → h' a0 j = h a0 j := by
  unfold mB_build
  simp only [lt]
  rw [e, nI_1]
  have ha : ¬ a0 = a0 + 1 := by omega
  have key : ∀ k0 : PH → Option (Int32 × PH), ∃ h', mB_build_L19 a0 p1 p2 p3 (nI n) k0 FU 0 (up h a0 1 (nI (n + 1))) = k0 h' ∧ ∀ b, b ≠ a0 + 1 → h' b = (up h a0 1 (nI (n + 1))) b := fun k0 => by
    have := bu_19 a0 n hn p1 p2 p3 k0 FU 0 (up h a0 1 (nI (n + 1))) (by unfold FU; omega) (by omega) (by simp [up_at])
    rw [nI_0] at this
    exact this
  have hw : ∀ (g : PH) (k : Nat) (v : Int32), g a0 1 = nI (n + 1) → k < 11 → ∃ g', mB_write a0 (nI n) (nI k) v g = some g' ∧ g' a0 1 = nI (n + 1) ∧ ∀ b, b ≠ a0 + 1 → g' b = g b := fun g k v eg hk => by
    refine ⟨_, wr_at eg (by omega) (by omega) hk v, by rw [up_at, if_neg ha]; exact eg, fun b hb => ?_⟩
    funext j
    simp [up_at, hb]
  have fin : ∀ g : PH, g a0 1 = nI (n + 1) → ∃ h', (bd (mB_write a0 (nI n) 4 p2 g) fun h5 => bd (mB_write a0 (nI n) 5 p3 h5) fun h6 => bd (mB_write a0 (nI n) 6 0 h6) fun h7 => bd (mB_write a0 (nI n) 7 1 h7) fun h8 => bd (mB_write a0 (nI n) 8 0 h8) fun h9 => bd (mB_write a0 (nI n) 9 0 h9) fun h10 => bd (mB_write a0 (nI n) 10 0 h10) fun h11 => some (nI n, h11)) = some (nI n, h') ∧ h' a0 1 = nI (n + 1) ∧ ∀ b, b ≠ a0 + 1 → h' b = g b := by
    intro g eg
    obtain ⟨g1, x1, y1, z1⟩ := hw g 4 p2 eg (by decide)
    obtain ⟨g2, x2, y2, z2⟩ := hw g1 5 p3 y1 (by decide)
    obtain ⟨g3, x3, y3, z3⟩ := hw g2 6 0 y2 (by decide)
    obtain ⟨g4, x4, y4, z4⟩ := hw g3 7 1 y3 (by decide)
    obtain ⟨g5, x5, y5, z5⟩ := hw g4 8 0 y4 (by decide)
    obtain ⟨g6, x6, y6, z6⟩ := hw g5 9 0 y5 (by decide)
    obtain ⟨g7, x7, y7, z7⟩ := hw g6 10 0 y6 (by decide)
    rw [show (4 : Int32) = nI 4 from rfl, show (5 : Int32) = nI 5 from rfl, show (6 : Int32) = nI 6 from rfl, show (7 : Int32) = nI 7 from rfl, show (8 : Int32) = nI 8 from rfl, show (9 : Int32) = nI 9 from rfl, show (10 : Int32) = nI 10 from rfl, x1]
    simp only [bd]
    rw [x2]; simp only
    rw [x3]; simp only
    rw [x4]; simp only
    rw [x5]; simp only
    rw [x6]; simp only
    rw [x7]
    exact ⟨g7, rfl, y7, fun b hb => by rw [z7 b hb, z6 b hb, z5 b hb, z4 b hb, z3 b hb, z2 b hb, z1 b hb]⟩
  obtain ⟨g, k1, k2⟩ := key (fun h4 => bd (mB_write a0 (nI n) 4 p2 h4) fun h5 => bd (mB_write a0 (nI n) 5 p3 h5) fun h6 => bd (mB_write a0 (nI n) 6 0 h6) fun h7 => bd (mB_write a0 (nI n) 7 1 h7) fun h8 => bd (mB_write a0 (nI n) 8 0 h8) fun h9 => bd (mB_write a0 (nI n) 9 0 h9) fun h10 => bd (mB_write a0 (nI n) 10 0 h10) fun h11 => some (nI n, h11))
  obtain ⟨h', f1, f2, f3⟩ := fin g (by rw [k2 a0 ha]; simp [up_at])
  refine ⟨h', k1.trans f1, f2, fun b b1 b2 => ?_, fun j hj => ?_⟩
  · rw [f3 b b2, k2 b b2]; funext j; simp [up_at, b1]
  · rw [f3 a0 ha, k2 a0 ha]; simp [up_at, hj]
theorem tk_step {p v : Int32} {h : PH} {l n : Nat} (hv : ¬ v < 0) (e : h 85 4 = nI l) (hl : l < 400) : mA_take_L3 p (n + 1) v h = mA_take_L3 p n (v + (-8)) (up (up h 86 l (i2b (i2b (ushr p v)))) 85 4 (nI (l + 1))) := by
  rw [mA_take_L3, if_neg hv, e, if_neg (show ¬ (400 : Int32) ≤ nI l from nI_ge (b := 400) hl (by omega)), ck_nI hl (by omega), show ix (nI l) = l from nI_clamp (by omega)]
  simp only [lt]
  have e2 : up h 86 l (i2b (i2b (ushr p v))) 85 4 = nI l := by rw [up_at]; simpa using e
  rw [e2, nI_1]
theorem take4 (p : Int32) (h : PH) (l : Nat) (e : h 85 4 = nI l) (hl : l + 4 ≤ 400) : ∃ h', mA_take p h = some h' ∧ h' 85 4 = nI (l + 4) ∧ (∀ b, b ≠ 85 → b ≠ 86 → h' b = h b) ∧ ∀ j, j ≠ 4 → h' 85 j = h 85 j := by
  unfold mA_take
  rw [show FU = 99995 + 1 + 1 + 1 + 1 + 1 from rfl]
  rw [tk_step (by decide) e (by omega), tk_step (l := l + 1) (by decide) (by simp [up_at]) (by omega), tk_step (l := l + 1 + 1) (by decide) (by simp [up_at]) (by omega), tk_step (l := l + 1 + 1 + 1) (by decide) (by simp [up_at]) (by omega), mA_take_L3, if_pos (by decide)]
  refine ⟨_, rfl, by simp [up_at], fun b b1 b2 => ?_, fun j hj => ?_⟩
  · funext j; simp [up_at, b1, b2]
  · simp [up_at, hj]
theorem ty_step {p v : Int32} {h : PH} {l n : Nat} (hv : ¬ v < 0) (e : h 104 11 = nI l) (hl : l < 400) : mm_types_L3 p (n + 1) v h = mm_types_L3 p n (v + (-8)) (up (up h 111 l ((p >>> (v &&& 31)) &&& 255)) 104 11 (nI (l + 1))) := by
  rw [mm_types_L3, if_neg hv, e, ck_nI hl (by omega), show ix (nI l) = l from nI_clamp (by omega)]
  simp only [lt]
  have e2 : up h 111 l ((p >>> (v &&& 31)) &&& 255) 104 11 = nI l := by rw [up_at]; simpa using e
  rw [e2, nI_1]
theorem types4 (p : Int32) (h : PH) (l : Nat) (e : h 104 11 = nI l) (hl : l + 4 ≤ 400) : ∃ h', mm_types p h = some h' ∧ h' 104 11 = nI (l + 4) ∧ (∀ b, b ≠ 104 → b ≠ 111 → h' b = h b) ∧ ∀ j, j ≠ 11 → h' 104 j = h 104 j := by
  unfold mm_types
  rw [show FU = 99995 + 1 + 1 + 1 + 1 + 1 from rfl]
  rw [ty_step (by decide) e (by omega), ty_step (l := l + 1) (by decide) (by simp [up_at]) (by omega), ty_step (l := l + 1 + 1) (by decide) (by simp [up_at]) (by omega), ty_step (l := l + 1 + 1 + 1) (by decide) (by simp [up_at]) (by omega), mm_types_L3, if_pos (by decide)]
  refine ⟨_, rfl, by simp [up_at], fun b b1 b2 => ?_, fun j hj => ?_⟩
  · funext j; simp [up_at, b1, b2]
  · simp [up_at, hj]
theorem feed_class (a b c d e : Int32) (h : PH) (l : Nat) (el : h 85 4 = nI l) (hl : l + 20 ≤ 400) : ∃ h', mX_feed a b c d e h = some (nI (l + 20), h') ∧ h' 85 4 = nI (l + 20) ∧ (∀ x, x ≠ 85 → x ≠ 86 → h' x = h x) ∧ ∀ j, j ≠ 4 → h' 85 j = h 85 j := by
  unfold mX_feed
  rw [el, show nI l + 20 = nI (l + 20) from nI_add l 20, if_pos (show nI (l + 20) ≤ (400 : Int32) from nI_le (b := 400) hl (by omega))]
  obtain ⟨h1, p1, q1, r1, s1⟩ := take4 a h l el (by omega)
  obtain ⟨h2, p2, q2, r2, s2⟩ := take4 b h1 (l + 4) q1 (by omega)
  obtain ⟨h3, p3, q3, r3, s3⟩ := take4 c h2 (l + 4 + 4) q2 (by omega)
  obtain ⟨h4, p4, q4, r4, s4⟩ := take4 d h3 (l + 4 + 4 + 4) q3 (by omega)
  obtain ⟨h5, p5, q5, r5, s5⟩ := take4 e h4 (l + 4 + 4 + 4 + 4) q4 (by omega)
  rw [p1]; simp only [bd]
  rw [p2]; simp only
  rw [p3]; simp only
  rw [p4]; simp only
  rw [p5]; simp only
  rw [q5]
  refine ⟨h5, rfl, q5, fun x x1 x2 => ?_, fun j hj => ?_⟩
  · rw [r5 x x1 x2, r4 x x1 x2, r3 x x1 x2, r2 x x1 x2, r1 x x1 x2]
  · rw [s5 j hj, s4 j hj, s3 j hj, s2 j hj, s1 j hj]
theorem feed_model (a b c d e : Int32) (h : PH) (l : Nat) (el : h 104 11 = nI l) (hl : l + 20 ≤ 400) : ∃ h', mm_feed a b c d e h = some (nI (l + 20), h') ∧ h' 104 11 = nI (l + 20) ∧ (∀ x, x ≠ 104 → x ≠ 111 → h' x = h x) ∧ ∀ j, j ≠ 11 → j ≠ 0 → h' 104 j = h 104 j := by
  unfold mm_feed
  have e0 : up h 104 0 0 104 11 = nI l := by rw [up_at]; simpa using el
  simp only [lt]
  rw [e0, if_pos (show nI l ≤ (380 : Int32) from nI_le (b := 380) (by omega) (by omega))]
  obtain ⟨h1, p1, q1, r1, s1⟩ := types4 a (up h 104 0 0) l e0 (by omega)
  obtain ⟨h2, p2, q2, r2, s2⟩ := types4 b h1 (l + 4) q1 (by omega)
  obtain ⟨h3, p3, q3, r3, s3⟩ := types4 c h2 (l + 4 + 4) q2 (by omega)
  obtain ⟨h4, p4, q4, r4, s4⟩ := types4 d h3 (l + 4 + 4 + 4) q3 (by omega)
  obtain ⟨h5, p5, q5, r5, s5⟩ := types4 e h4 (l + 4 + 4 + 4 + 4) q4 (by omega)
  rw [p1]; simp only [bd]
  rw [p2]; simp only
  rw [p3]; simp only
  rw [p4]; simp only
  rw [p5]; simp only
  rw [q5]
  refine ⟨h5, rfl, q5, fun x x1 x2 => ?_, fun j hj h0 => ?_⟩
  · rw [r5 x x1 x2, r4 x x1 x2, r3 x x1 x2, r2 x x1 x2, r1 x x1 x2]; funext i; simp [up_at, x1]
  · rw [s5 j hj, s4 j hj, s3 j hj, s2 j hj, s1 j hj]; simp [up_at, h0]
theorem lt_e {α ρ : Type} (x : α) (f : α → Option ρ) : lt x f = f x := Eq.trans (b := f x) rfl rfl
theorem bd_e {α ρ : Type} (x : α) (f : α → Option ρ) : bd (some x) f = f x := Eq.trans (b := f x) rfl rfl
theorem bd2_e {α β ρ : Type} (x : α) (y : β) (f : α → β → Option ρ) : bd2 (some (x, y)) f = f x y := Eq.trans (b := f x y) rfl rfl
theorem jn1_e {α ρ : Type} (f : α → Option ρ) (b : (α → Option ρ) → Option ρ) : jn1 f b = b f := Eq.trans (b := b f) rfl rfl
/-- the copies of a borough -/
theorem cc_132 {ρ : Type} (k : Option ρ) : cc 132 132 0 0 132 k = k := by
  unfold cc
  exact if_neg (by decide)
def twk (l : List Nat) (w : Nat) : Int32 := l.foldl (fun acc c => if w = ix (nI c >>> (5 &&& 31)) then acc ||| (1 <<< ((nI c &&& 31) &&& 31)) else acc) 0
def hT (l : List Nat) : PH := fun _ => twk l
def GI (h : PH) : Prop := (h 102 = h 102 ∧ h 103 = h 103) ∨ False
theorem nI_mul (a b : Nat) : nI a * nI b = nI (a * b) := (Int32.ofNat_mul a b).symm
theorem nI_sub {a b : Nat} (h : b ≤ a) : nI a - nI b = nI (a - b) := by
  obtain ⟨c, rfl⟩ : ∃ c, a = c + b := ⟨a - b, by omega⟩
  rw [← nI_add, Int32.add_sub_cancel, Nat.add_sub_cancel]
