/-! THE FIRST CALL: what is closed is computed -/
theorem ex_is {x : Option PH} (h : x.isSome = true) : ∃ y, x = some y := Option.isSome_iff_exists.mp h
theorem in_nat {lo hi : Nat} {a : Int32} (hh : hi < 2 ^ 31) (h1 : nI lo ≤ a) (h2 : a ≤ nI hi) (hl : lo < 2 ^ 31) : ∃ k, lo ≤ k ∧ k < hi + 1 ∧ a = nI k := by
  obtain ⟨j, hj, e⟩ := nI_of2 (x := a) (M := nI hi) (n := hi) (nI_toInt hh) (Int32.not_lt.mpr (Int32.le_trans (nI_pos' hl) h1)) h2
  refine ⟨j, ?_, by omega, e⟩
  rw [e] at h1
  exact (nI_leI hl (by omega)).mp h1
theorem k_text : ∀ k, k < 4 → (pc_text (nI k) hI).isSome = true := by decide +kernel
theorem k_pans : ∀ k, k < 61 → 1 ≤ k → ∀ j, j < 2 → (pc_pans (nI k) (nI j) hI).isSome = true := by decide +kernel
theorem k_meas : ∀ k, k < 2 → (pc_measures (nI k) hI).isSome = true := by decide +kernel
theorem k_line : ∀ k, k < 12 → ∀ j, j < 2 → (pc_line (nI k) (nI j) hI).isSome = true := by decide +kernel
theorem k_alone : ∀ k, k < 2 → (pc_alone (nI k) hI).isSome = true := by decide +kernel
theorem k_council : ∀ k, k < 2 → (pc_council (nI k) hI).isSome = true := by decide +kernel
theorem k_look : ∀ k, k < 14 → (pc_look (nI k) hI).isSome = true := by decide +kernel
theorem k_undo : (pc_undo hI).isSome = true := by decide +kernel
theorem k_heir : ∀ k, k < 12 → ∀ j, j < 12 → (pc_heir (nI k) (nI j) hI).isSome = true := by decide +kernel
theorem k_heir0 (a : Int32) : ∃ h2, pc_heir (-1) a hI = some h2 := ⟨_, rfl⟩
theorem k_ovens : (pc_ovens 0 hI).isSome = true := by decide +kernel
theorem ex_text (a : Int32) : ∃ h2, pc_text a hI = some h2 := by
  by_cases c : 0 ≤ a ∧ a ≤ 3
  · obtain ⟨k, -, h2, rfl⟩ := in_nat (lo := 0) (hi := 3) (by decide) c.1 c.2 (by decide)
    exact ex_is (k_text k h2)
  · simp [pc_text, mX_text, mm_text, mD_forgetFault, within_eq, isIn_eq, bd, bd2, lt, jn2, c]
theorem ex_pans (a b : Int32) : ∃ h2, pc_pans a b hI = some h2 := by
  by_cases c : 1 ≤ a ∧ a ≤ 60
  · by_cases c2 : 0 ≤ b ∧ b ≤ 1
    · obtain ⟨k, h1, h2, rfl⟩ := in_nat (lo := 1) (hi := 60) (by decide) c.1 c.2 (by decide)
      obtain ⟨j, -, g2, rfl⟩ := in_nat (lo := 0) (hi := 1) (by decide) c2.1 c2.2 (by decide)
      exact ex_is (k_pans k h2 h1 j g2)
    · simp [pc_pans, mX_pans, mm_pans, within_eq, isIn_eq, bd, bd2, lt, c, c2]
  · simp [pc_pans, mX_pans, mm_pans, within_eq, isIn_eq, bd, bd2, lt, c]
theorem ex_measures (a : Int32) : ∃ h2, pc_measures a hI = some h2 := by
  by_cases c : 0 ≤ a ∧ a ≤ 1
  · obtain ⟨k, -, h2, rfl⟩ := in_nat (lo := 0) (hi := 1) (by decide) c.1 c.2 (by decide)
    exact ex_is (k_meas k h2)
  · simp [pc_measures, mX_measures, mm_measures, within_eq, isIn_eq, bd, bd2, lt, c]
theorem ex_line (a b : Int32) : ∃ h2, pc_line a b hI = some h2 := by
  by_cases c : 0 ≤ a ∧ a ≤ 11
  · by_cases c2 : 0 ≤ b ∧ b ≤ 1
    · obtain ⟨k, h1, h2, rfl⟩ := in_nat (lo := 0) (hi := 11) (by decide) c.1 c.2 (by decide)
      obtain ⟨j, -, g2, rfl⟩ := in_nat (lo := 0) (hi := 1) (by decide) c2.1 c2.2 (by decide)
      exact ex_is (k_line k h2 j g2)
    · simp [pc_line, mX_line, mm_line, within_eq, isIn_eq, bd, bd2, lt, jn1, c, c2]
  · simp [pc_line, mX_line, mm_line, within_eq, isIn_eq, bd, bd2, lt, jn1, c]
theorem ex_alone (a : Int32) : ∃ h2, pc_alone a hI = some h2 := by
  by_cases c : 0 ≤ a ∧ a ≤ 1
  · obtain ⟨k, -, h2, rfl⟩ := in_nat (lo := 0) (hi := 1) (by decide) c.1 c.2 (by decide)
    exact ex_is (k_alone k h2)
  · simp [pc_alone, mX_alone, mm_alone, within_eq, isIn_eq, bd, bd2, lt, c]
theorem ex_council (a : Int32) : ∃ h2, pc_council a hI = some h2 := by
  by_cases c : 0 ≤ a ∧ a ≤ 1
  · obtain ⟨k, -, h2, rfl⟩ := in_nat (lo := 0) (hi := 1) (by decide) c.1 c.2 (by decide)
    exact ex_is (k_council k h2)
  · simp [pc_council, mX_council, mm_council, within_eq, isIn_eq, bd, bd2, lt, c]
theorem ex_look (a : Int32) : ∃ h2, pc_look a hI = some h2 := by
  by_cases c : 0 ≤ a ∧ a ≤ 13
  · obtain ⟨k, -, h2, rfl⟩ := in_nat (lo := 0) (hi := 13) (by decide) c.1 c.2 (by decide)
    exact ex_is (k_look k h2)
  · have nn : ∀ x : Int32, 0 ≤ x → x ≤ 13 → ¬ a = x := fun x h1 h2 e => c ⟨by rw [e]; exact h1, by rw [e]; exact h2⟩
    simp [pc_look, mX_look, mm_look, bd, bd2, lt, nn 0 (by decide) (by decide), nn 1 (by decide) (by decide), nn 2 (by decide) (by decide), nn 3 (by decide) (by decide), nn 4 (by decide) (by decide), nn 5 (by decide) (by decide), nn 6 (by decide) (by decide), nn 7 (by decide) (by decide), nn 8 (by decide) (by decide), nn 9 (by decide) (by decide), nn 10 (by decide) (by decide), nn 11 (by decide) (by decide), nn 12 (by decide) (by decide), nn 13 (by decide) (by decide)]
theorem ex_heir (a b : Int32) : ∃ h2, pc_heir a b hI = some h2 := by
  by_cases c0 : a = -1
  · subst c0
    exact k_heir0 b
  · by_cases c : 0 ≤ a ∧ a ≤ 11
    · by_cases c2 : 0 ≤ b ∧ b ≤ 11
      · obtain ⟨k, h1, h2, rfl⟩ := in_nat (lo := 0) (hi := 11) (by decide) c.1 c.2 (by decide)
        obtain ⟨j, -, g2, rfl⟩ := in_nat (lo := 0) (hi := 11) (by decide) c2.1 c2.2 (by decide)
        exact ex_is (k_heir k h2 j g2)
      · simp [pc_heir, mX_heir, mm_heir, mX_tell, within_eq, isIn_eq, bd, bd2, lt, jn1, c0, c, c2]
    · simp [pc_heir, mX_heir, mm_heir, mX_tell, within_eq, isIn_eq, bd, bd2, lt, jn1, c0, c]
theorem ex_ovens (a : Int32) : ∃ h2, pc_ovens a hI = some h2 := by
  by_cases c0 : a = 0
  · subst c0
    exact ex_is k_ovens
  · have e1 : (9 : Int32) + up hI 104 0 0 104 57 = 9 := rfl
    have e2 : hI 28 3 = 0 := rfl
    have n1 : ¬ (10 ≤ a ∧ a ≤ 9) := fun h => by
      have := Int32.le_trans h.1 h.2
      exact absurd this (by decide)
    by_cases c1 : a < 10
    · simp [pc_ovens, mX_ovens, mm_ovens, isIn_eq, bd, bd2, lt, jn0, c0, c1, e1, n1]
    · have c2 : ¬ a - 10 < 0 := by
        rw [Int32.lt_iff_toInt_lt] at c1 ⊢
        rw [Int32.toInt_sub]
        have b1 := Int32.toInt_lt a
        simp only [show (10 : Int32).toInt = 10 from rfl, show (0 : Int32).toInt = 0 from rfl] at c1 ⊢
        rw [Int.bmod_eq_of_le_mul_two (by omega) (by omega)]
        omega
      simp [pc_ovens, mX_ovens, mm_ovens, isIn_eq, bd, bd2, lt, jn0, c0, c1, c2, e1, e2, n1]
