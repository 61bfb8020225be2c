/-! CRUMBS, none told -/
theorem cr_19 (p : Int32) (k0 : PH → Option (Int32 × PH)) : ∀ (n k : Nat) (h : PH), 1681 < n + k → k ≤ 1681 → ∃ h', mm_crumbs_L19 p k0 n (nI k) h = k0 h' ∧ (∀ b, b ≠ 136 → h' b = h b) ∧ ∀ j, j < 1681 → (k ≤ j ∨ h 136 j = 0) → h' 136 j = 0 := by
  intro n
  induction n with
  | zero => intro k h h1 h2; omega
  | succ n ih =>
    intro k h h1 h2
    rw [mm_crumbs_L19]
    by_cases hk : k = 1681
    · subst hk
      rw [if_pos (show (1681 : Int32) ≤ nI 1681 from nI_le (a := 1681) (Nat.le_refl _) (by omega))]
      exact ⟨h, rfl, fun _ _ => rfl, fun j hj hh => hh.elim (fun q => by omega) id⟩
    · rw [if_neg (show ¬ (1681 : Int32) ≤ nI k from nI_ge (b := 1681) (by omega) (by omega))]
      rw [ck_nI (by omega) (by omega)]
      simp only [lt]
      rw [nI_1, show ix (nI k) = k from nI_clamp (by omega)]
      obtain ⟨h', q1, q2, q3⟩ := ih (k + 1) (up h 136 k 0) (by omega) (by omega)
      refine ⟨h', q1, fun b hb => ?_, fun j hj hh => ?_⟩
      · rw [q2 b hb]; funext j; simp [up_at, hb]
      · refine q3 j hj ?_
        by_cases e : j = k
        · exact Or.inr (by simp [up_at, e])
        · rcases hh with q | q
          · exact Or.inl (by omega)
          · exact Or.inr (by simp [up_at, e, q])
theorem cr_185 (h : PH) (H : ∀ j, j < 1681 → h 136 j ≤ 1) : ∀ (n k : Nat) (v : Int32), 1681 < n + k → k ≤ 1681 → mm_crumbs_L185 h n v (nI k) = some (v, h) := by
  intro n
  induction n with
  | zero => intro k v h1 h2; omega
  | succ n ih =>
    intro k v h1 h2
    rw [mm_crumbs_L185]
    by_cases hk : k = 1681
    · subst hk
      rw [if_pos (show (1681 : Int32) ≤ nI 1681 from nI_le (a := 1681) (Nat.le_refl _) (by omega))]
    · rw [if_neg (show ¬ (1681 : Int32) ≤ nI k from nI_ge (b := 1681) (by omega) (by omega))]
      rw [ck_nI (by omega) (by omega), show ix (nI k) = k from nI_clamp (by omega), if_pos (H k (by omega)), nI_1]
      exact ih (k + 1) v (by omega) (by omega)
theorem cr_class : ∀ k, k < 2 → ∃ r, mX_crumbs (nI k) hI = some (0, r) ∧ ∀ b, 104 ≤ b → r b = hI b
  | 0, _ => ⟨up (up hI 100 0 0) 101 0 0, rfl, fun b hb => by
      have h1 : b ≠ 100 := by omega
      have h2 : b ≠ 101 := by omega
      funext j; simp [up_at, h1, h2]⟩
  | 1, _ => ⟨up (up hI 100 0 0) 101 0 0, rfl, fun b hb => by
      have h1 : b ≠ 100 := by omega
      have h2 : b ≠ 101 := by omega
      funext j; simp [up_at, h1, h2]⟩
  | n + 2, h => by omega
theorem cr_model (k : Nat) (hk : k < 2) (h : PH) (e : h 104 54 = 0) : ∃ r, mm_crumbs (nI k) h = some r ∧ r.1 = 0 := by
  unfold mm_crumbs
  have c : 0 ≤ nI k ∧ nI k ≤ 1 := ⟨nI_pos' (by omega), nI_le (b := 1) (by omega) (by omega)⟩
  simp only [isIn_eq, bd_e, lt_e, if_pos c, show ¬ (1 : Int32) = 0 by decide, if_false]
  have c8 : ∀ {ρ : Type} (q : Option ρ), ck 840 1681 q = q := fun _ => ck_nI (i := 840) (by decide) (by decide)
  simp only [c8]
  have key : ∀ k0 : PH → Option (Int32 × PH), (∀ h', (∀ b, b ≠ 136 → h' b = (up h 104 0 0) b) → (∀ j, j < 1681 → h' 136 j = 0) → ∃ r, k0 h' = some r ∧ r.1 = 0) → ∃ r, mm_crumbs_L19 (nI k) k0 FU 0 (up h 104 0 0) = some r ∧ r.1 = 0 := by
    intro k0 hk0
    obtain ⟨h', q1, q2, q3⟩ := cr_19 (nI k) k0 FU 0 (up h 104 0 0) (by unfold FU; omega) (by omega)
    rw [nI_0] at q1
    rw [q1]
    exact hk0 h' q2 (fun j hj => q3 j hj (Or.inl (by omega)))
  refine key _ (fun h' f1 f2 => ?_)
  have e1 : up h' 136 (ix 840) 1 104 54 = 0 := by rw [up_at, f1 104 (by decide), up_at]; simpa using e
  rw [FU_s, mm_crumbs_L55, if_pos (z_le e1 rfl)]
  have ap : ∀ g : PH, mm_apart 0 0 g = some 0 := fun g => rfl
  by_cases b0 : nI k = 0
  · rw [if_pos b0]
    simp only [ap, bd_e]
    exact ⟨_, rfl, rfl⟩
  · rw [if_neg b0]
    have := cr_185 (up h' 136 (ix 840) 1) (fun j hj => by
      rw [up_at]
      by_cases ej : j = ix 840
      · simp [ej]
      · simp [ej, f2 j hj]) (99999 + 1) 0 0 (by omega) (by omega)
    rw [nI_0] at this
    rw [this]
    exact ⟨_, rfl, rfl⟩
theorem ex_crumbs (a : Int32) : ∃ h2, pc_crumbs a hI = some h2 := by
  by_cases c : 0 ≤ a ∧ a ≤ 1
  · obtain ⟨k, -, h2, rfl⟩ := in_nat (lo := 0) (hi := 1) (by decide) c.1 c.2 (by decide)
    obtain ⟨g, q1, q2⟩ := cr_class k h2
    obtain ⟨r, p1, p2⟩ := cr_model k h2 g (by rw [q2 104 (by decide)]; rfl)
    refine ⟨r.2, ?_⟩
    unfold pc_crumbs
    rw [q1]
    obtain ⟨s1, s2⟩ := r
    simp only [bd2] at p1 p2 ⊢
    rw [p1]
    simp only [p2, if_true]
  · simp [pc_crumbs, mX_crumbs, mm_crumbs, within_eq, isIn_eq, bd, bd2, lt, c]
