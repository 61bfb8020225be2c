/-! NUMBERS AND HEAPS: how the pure step is computed -/
theorem up_at (h : PH) (a j : Nat) (x : Int32) (b i : Nat) : up h a j x b i = if b = a then (if i = j then x else h a i) else h b i := by
  unfold up setC upd
  by_cases hb : b = a
  · subst hb; simp
  · simp [hb]
theorem ck_in {ρ : Type} {i : Int32} {n : Nat} {k : Option ρ} (h : vp_in i n) : ck i n k = k := by
  unfold ck; exact if_neg h
theorem ck_nI {ρ : Type} {i n : Nat} {k : Option ρ} (h : i < n) (hn : n < 2 ^ 31) : ck (nI i) n k = k := ck_in (vp_in_nI h hn)
theorem ps_state {h : PH} {a : Int32} (e : h 1 7 = h 105 1) : pc_state a h = some (up (up (up (up (up h 1 7 a) 70 3 0) 104 0 0) 105 1 a) 104 3 0) := by
  have c1 : ∀ {ρ : Type} {k : Option ρ}, ck 1 115 k = k := fun {_ _} => ck_nI (i := 1) (by decide) (by decide)
  have i1 : ix 1 = 1 := rfl
  simp only [pc_state, mX_state, mm_state, mP_forget, bd, bd2, lt, c1, i1, up_at, e]
  simp
theorem ps_fault {h : PH} {a : Int32} (e1 : h 90 2 = h 104 31) (e2 : h 90 3 = h 104 32) : pc_fault a h = some (up h 104 0 0) := by
  simp only [pc_fault, mX_fault, mm_fault, bd, bd2, lt, up_at, e1, e2]
  by_cases c0 : a = 0
  · simp [c0]
  · by_cases c1 : a = 1
    · simp [c0, c1]
    · simp [c0, c1]
theorem ps_end {h : PH} {a : Int32} (e : h 85 4 = h 104 11) : pc_end a h = some (if 0 ≤ a ∧ a ≤ h 104 11 then up (up (up h 85 4 a) 104 0 0) 104 11 a else up h 104 0 0) := by
  simp only [pc_end, mX_end, mm_end, mm_isIn, bd, bd2, lt, up_at, e]
  by_cases c0 : a < 0
  · have c1 : ¬ 0 ≤ a := Int32.not_le.mpr c0
    simp [c0, c1]
  · have c1 : 0 ≤ a := Int32.not_lt.mp c0
    by_cases c2 : a ≤ h 104 11
    · have c3 : ¬ h 104 11 < a := Int32.not_lt.mpr c2
      simp [c0, c1, c2, c3, up_at]
    · have c3 : h 104 11 < a := Int32.not_le.mp c2
      simp [c0, c2, c3]
/-! the mortgage: the same loop on both sides -/
theorem dz_nz {ρ : Type} {y : Int32} {k : Option ρ} (h : ¬ y = 0) : dz y k = k := by unfold dz; exact if_neg h
theorem lesser_eq (x y : Int32) (h : PH) : mm_lesser x y h = some (imin y x) := by
  unfold mm_lesser imin
  split
  · rename_i c
    first | rfl | (simp only [c]; try rfl) | simp [Int32.not_lt.mpr c]
  · rename_i c
    first | rfl | (simp only [c]; try rfl) | simp [Int32.not_le.mp c]
theorem mort_sim (q p w w' : Int32) (h1 h2 : PH) (kc : Int32 → Int32 → Option Int32) (km : Int32 → Int32 → Option (Int32 × PH)) (hk : ∀ x y, km x y = (kc x y).map (fun r => (r, h2))) :
    ∀ (n : Nat) (a b c : Int32), mm_mortgage_L62 q p w h2 km n a b c = (mK_payOff_L9 q p w' h1 kc n a b c).map (fun r => (r, h2)) := by
  have hz : ¬ (100 : Int32) = 0 := by decide
  intro n
  induction n with
  | zero => intro a b c; rfl
  | succ n ih =>
    intro a b c
    unfold mm_mortgage_L62 mK_payOff_L9
    simp only [lt, dz_nz hz, lesser_eq, bd]
    by_cases c1 : 400 < c
    · simp [c1]
    · simp only [c1, if_false]
      generalize a + (a * q + 99) / 100 = x
      by_cases c2 : x = imin p x
      · rw [if_pos c2, if_pos c2.symm]
        exact hk _ _
      · have c2' : ¬ imin p x = x := fun e => c2 e.symm
        rw [if_neg c2, if_neg c2']
        by_cases c3 : x - imin p x < a
        · rw [if_pos c3, if_pos c3]
          exact ih _ _ _
        · rw [if_neg c3, if_neg c3]
          rfl
theorem mort_some (q p w : Int32) (h : PH) (kc : Int32 → Int32 → Option Int32) (hk : ∀ x y, ∃ r, kc x y = some r) : ∀ (n k : Nat) (a b : Int32), 401 < n + k → k ≤ 401 → ∃ r, mK_payOff_L9 q p w h kc n a b (nI k) = some r := by
  have hz : ¬ (100 : Int32) = 0 := by decide
  intro n
  induction n with
  | zero => intro k a b h1 h2; omega
  | succ n ih =>
    intro k a b h1 h2
    unfold mK_payOff_L9
    simp only [lt, dz_nz hz]
    by_cases c1 : 400 < nI k
    · exact ⟨_, if_pos c1⟩
    · rw [if_neg c1]
      have hk2 : k ≤ 400 := by
        rcases Nat.lt_or_ge 400 k with q | q
        · exact absurd (nI_lt (a := 400) q (by omega)) c1
        · exact q
      split
      · exact hk _ _
      · split
        · rw [nI_1]; exact ih (k + 1) _ _ (by omega) (by omega)
        · exact ⟨_, rfl⟩
theorem within_eq (v a b : Int32) (h : PH) : mX_within v a b h = some (if a ≤ v ∧ v ≤ b then 1 else 0) := by
  unfold mX_within
  by_cases c0 : v < a
  · have c1 : ¬ a ≤ v := Int32.not_le.mpr c0
    simp [c0, c1]
  · have c1 : a ≤ v := Int32.not_lt.mp c0
    by_cases c2 : b < v
    · have c3 : ¬ v ≤ b := Int32.not_le.mpr c2
      simp [c0, c2, c3]
    · have c3 : v ≤ b := Int32.not_lt.mp c2
      simp [c0, c1, c2, c3]
theorem isIn_eq (v a b : Int32) (h : PH) : mm_isIn v a b h = some (if a ≤ v ∧ v ≤ b then 1 else 0) := by
  unfold mm_isIn
  by_cases c0 : v < a
  · have c1 : ¬ a ≤ v := Int32.not_le.mpr c0
    simp [c0, c1]
  · have c1 : a ≤ v := Int32.not_lt.mp c0
    by_cases c2 : b < v
    · have c3 : ¬ v ≤ b := Int32.not_le.mpr c2
      simp [c0, c2, c3]
    · have c3 : v ≤ b := Int32.not_lt.mp c2
      simp [c0, c1, c2, c3]
theorem payOff_some (a q p w : Int32) (h : PH) : ∃ r, mK_payOff a q p w h = some r := by
  unfold mK_payOff
  exact mort_some q p w h _ (fun x y => by by_cases c : w = 0 <;> simp [c]) FU 1 a 0 (by unfold FU; omega) (by omega)
theorem ps_mortgage (h : PH) (a1 a2 a3 a4 : Int32) : pc_mortgage a1 a2 a3 a4 h = some (up h 104 0 0) := by
  simp only [pc_mortgage, mX_mortgage, mm_mortgage, within_eq, isIn_eq, bd, bd2, lt, jn1]
  by_cases c1 : 1 ≤ a1 ∧ a1 ≤ 9999
  · by_cases c2 : 0 ≤ a2 ∧ a2 ≤ 50
    · by_cases c3 : 1 ≤ a3 ∧ a3 ≤ 999
      · by_cases c4 : 0 ≤ a4 ∧ a4 ≤ 1
        · simp only [c1, c2, c3, c4, and_self, if_true, show ¬ (1 : Int32) = 0 by decide, if_false]
          by_cases c5 : a4 = 0
          · obtain ⟨r, hr⟩ := payOff_some a1 a2 a3 1 h
            have hs := mort_sim a2 a3 a4 1 h (up h 104 0 0) (fun x y => if (1 : Int32) = 0 then some x else some y) (fun x y => if a4 = 0 then some (y, up h 104 0 0) else some (x, up h 104 0 0)) (fun x y => by simp [c5]) FU a1 0 1
            have hr' : mK_payOff_L9 a2 a3 1 h (fun x y => if (1 : Int32) = 0 then some x else some y) FU a1 0 1 = some r := hr
            rw [hr'] at hs
            simp only [if_pos c5, hr]
            simp only [c5, if_true] at hs
            simp [c5, hs]
          · obtain ⟨r, hr⟩ := payOff_some a1 a2 a3 0 h
            have hs := mort_sim a2 a3 a4 0 h (up h 104 0 0) (fun x y => if (0 : Int32) = 0 then some x else some y) (fun x y => if a4 = 0 then some (y, up h 104 0 0) else some (x, up h 104 0 0)) (fun x y => by simp [c5]) FU a1 0 1
            have hr' : mK_payOff_L9 a2 a3 0 h (fun x y => if (0 : Int32) = 0 then some x else some y) FU a1 0 1 = some r := hr
            rw [hr'] at hs
            simp only [if_neg c5, hr]
            simp only [c5, if_false] at hs
            simp [c5, hs]
        · simp [c1, c2, c3, c4]
      · simp [c1, c2, c3]
    · simp [c1, c2]
  · simp [c1]
