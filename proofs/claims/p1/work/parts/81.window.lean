/-! THE WINDOW -/
def wst : Nat → Int32 × Int32 × Int32 × Int32 × Int32
  | 0 => (1, 0, 0, 0, 0)
  | n + 1 => ((((wst n).1 + (wst n).2.2.2.1) + (wst n).2.1) + (wst n).2.2.2.2, (wst n).1, (wst n).2.1, (wst n).2.2.1, (wst n).2.2.2.1)
def wo (n : Nat) : Int32 := (wst n).1
def wt (n : Nat) : Int32 := (wst n).2.2.2.1
theorem ni_sub (m c : Nat) : nI (m + c) - nI c = nI m := by
  rw [← nI_add]; exact Int32.add_sub_cancel _ _
theorem win_class (N : Nat) (hN : N ≤ 20) (h : PH) : ∀ (n k : Nat), N < n + k → k ≤ N → mK_windowWays_L15 (nI N) h n (wst k).1 (wst k).2.1 (wst k).2.2.1 (wst k).2.2.2.1 (wst k).2.2.2.2 (nI (k + 1)) = some (wo N + wt N) := by
  intro n
  induction n with
  | zero => intro k h1 h2; omega
  | succ n ih =>
    intro k h1 h2
    unfold mK_windowWays_L15
    by_cases hk : k = N
    · subst hk
      rw [if_pos (nI_lt (by omega) (by omega))]
      rfl
    · rw [if_neg (nI_nlt (by omega) (by omega))]
      have := ih (k + 1) (by omega) (by omega)
      rw [nI_1]
      exact this
theorem win_model (N : Nat) (hN : N ≤ 20) (k0 : PH → Option (Int32 × PH)) : ∀ (n k : Nat) (h : PH), N + 1 < n + k → k ≤ N + 1 → (∀ u, u < k → h 142 u = wo u ∧ h 143 u = wt u) → ∃ hf, mm_window_L20 (nI N) k0 n (nI k) h = k0 hf ∧ ∀ u, u ≤ N → hf 142 u = wo u ∧ hf 143 u = wt u := by
  intro n
  induction n with
  | zero => intro k h h1 h2; omega
  | succ n ih =>
    intro k h h1 h2 hu
    unfold mm_window_L20
    by_cases hk : k = N + 1
    · subst hk
      rw [if_pos (nI_lt (by omega) (by omega))]
      exact ⟨h, rfl, fun u hu' => hu u (by omega)⟩
    · rw [if_neg (nI_nlt (by omega) (by omega))]
      have ckk : ∀ (ρ : Type) (q : Option ρ), ck (nI k) 21 q = q := fun _ _ => ck_nI (by omega) (by omega)
      have ixk : ix (nI k) = k := nI_clamp (by omega)
      have go : ∀ (x9 : Int32) (h7 : PH), (h7 142 k = wo k) → x9 = wt k → (∀ u, u < k → h7 142 u = wo u ∧ h7 143 u = wt u) → ∃ hf, mm_window_L20 (nI N) k0 n (nI k + 1) (up h7 143 k x9) = k0 hf ∧ ∀ u, u ≤ N → hf 142 u = wo u ∧ hf 143 u = wt u := by
        intro x9 h7 e1 e2 e3
        rw [nI_1]
        refine ih (k + 1) _ (by omega) (by omega) (fun u hu' => ?_)
        by_cases huk : u = k
        · subst huk
          simp [up_at, e1, e2]
        · have := e3 u (by omega)
          simp [up_at, huk, this]
      match k, hk, hu, ckk, ixk, go with
      | 0, hk, hu, ckk, ixk, go =>
        simp only [jn1, lt, ckk, ixk, show nI 0 = 0 from nI_0, show (0 : Int32) ≤ 1 by decide, show (0 : Int32) ≤ 2 by decide, if_true]
        simp only [nI_0] at go ckk ixk
        simp only [ckk, ixk]
        exact go _ _ (by simp [up_at]; rfl) rfl (fun u hu' => by omega)
      | 1, hk, hu, ckk, ixk, go =>
        have a0 : nI 1 - 1 = nI 0 := nI_pred 0
        have c0 : ∀ (ρ : Type) (q : Option ρ), ck (nI 0) 21 q = q := fun _ _ => ck_nI (by omega) (by omega)
        have i0 : ix (nI 0) = 0 := nI_clamp (by omega)
        have z1 : ¬ nI 1 = 0 := nI_ne0 (by omega) (by omega)
        have z2 : nI 1 ≤ 1 := nI_le (a := 1) (b := 1) (by omega) (by omega)
        have z3 : nI 1 ≤ 2 := nI_le (a := 1) (b := 2) (by omega) (by omega)
        simp only [jn1, lt, ckk, ixk, z1, z2, z3, if_true, if_false, a0, c0, i0]
        have := hu 0 (by omega)
        exact go _ _ (by simp [up_at, this]; rfl) rfl (fun u hu' => by
          have hz : u = 0 := by omega
          subst hz
          simp [up_at, this])
      | k + 2, hk, hu, ckk, ixk, go =>
        have a1 : nI (k + 2) - 1 = nI (k + 1) := nI_pred (k + 1)
        have a2 : nI (k + 2) - 2 = nI k := ni_sub k 2
        have c1 : ∀ (ρ : Type) (q : Option ρ), ck (nI (k + 1)) 21 q = q := fun _ _ => ck_nI (by omega) (by omega)
        have c2 : ∀ (ρ : Type) (q : Option ρ), ck (nI k) 21 q = q := fun _ _ => ck_nI (by omega) (by omega)
        have i1 : ix (nI (k + 1)) = k + 1 := nI_clamp (by omega)
        have i2 : ix (nI k) = k := nI_clamp (by omega)
        have z1 : ¬ nI (k + 2) = 0 := nI_ne0 (by omega) (by omega)
        have z2 : ¬ nI (k + 2) ≤ 1 := nI_ge (a := 1) (by omega) (by omega)
        have u0 := hu k (by omega)
        have u1 := hu (k + 1) (by omega)
        simp only [jn1, lt, ckk, ixk, z1, z2, if_false, a1, a2, c1, c2, i1, i2]
        have key : ∀ x9, x9 = wt (k + 2) → ∃ hf, mm_window_L20 (nI N) k0 n (nI (k + 2) + 1) (up (up (up h 142 (k + 2) (h 142 (k + 1) + h 143 (k + 1))) 142 (k + 2) (up h 142 (k + 2) (h 142 (k + 1) + h 143 (k + 1)) 142 (k + 2) + up h 142 (k + 2) (h 142 (k + 1) + h 143 (k + 1)) 142 k + up h 142 (k + 2) (h 142 (k + 1) + h 143 (k + 1)) 143 k)) 143 (k + 2) x9) = k0 hf ∧ ∀ u, u ≤ N → hf 142 u = wo u ∧ hf 143 u = wt u := by
          intro x9 hx
          refine go _ _ ?_ hx (fun u hu' => ?_)
          · simp [up_at, u0, u1]
            rfl
          · have := hu u hu'
            have hne : ¬ u = k + 2 := by omega
            simp [up_at, hne, this]
        by_cases h3 : nI (k + 2) ≤ 2
        · rw [if_pos h3]
          have hk0 : k = 0 := by
            rcases Nat.eq_zero_or_pos k with q | q
            · exact q
            · exact absurd h3 (nI_ge (a := 2) (by omega) (by omega))
          subst hk0
          exact key _ rfl
        · rw [if_neg h3]
          have hk1 : 1 ≤ k := by
            rcases Nat.eq_zero_or_pos k with q | q
            · subst q; exact absurd (nI_le (a := 2) (b := 2) (by omega) (by omega)) h3
            · exact q
          obtain ⟨j, rfl⟩ : ∃ j, k = j + 1 := ⟨k - 1, by omega⟩
          have a3 : nI (j + 1 + 2) - 3 = nI j := ni_sub j 3
          have c3 : ∀ (ρ : Type) (q : Option ρ), ck (nI j) 21 q = q := fun _ _ => ck_nI (by omega) (by omega)
          have i3 : ix (nI j) = j := nI_clamp (by omega)
          rw [a3, c3]
          refine key _ ?_
          have := hu j (by omega)
          have n1 : ¬ j = j + 1 + 2 := by omega
          simp [up_at, i3, n1, this]
          rfl
theorem win_in {a : Int32} (h1 : 1 ≤ a) (h2 : a ≤ 20) : ∃ N, 1 ≤ N ∧ N ≤ 20 ∧ a = nI N := by
  obtain ⟨j, hj, e⟩ := nI_of2 (x := a) (M := 20) (n := 20) rfl (Int32.not_lt.mpr (Int32.le_trans (by decide) h1)) h2
  refine ⟨j, ?_, hj, e⟩
  rcases Nat.eq_zero_or_pos j with q | q
  · subst q
    rw [e] at h1
    exact absurd h1 (by decide)
  · exact q
theorem ps_window (h : PH) (a : Int32) : ∃ h2, pc_window a h = some h2 := by
  unfold pc_window mX_window mm_window
  simp only [within_eq, isIn_eq, bd, bd2, lt]
  by_cases c : 1 ≤ a ∧ a ≤ 20
  · obtain ⟨N, h1, h2, rfl⟩ := win_in c.1 c.2
    simp only [c, and_self, if_true, show ¬ (1 : Int32) = 0 by decide, if_false]
    have hc : mK_windowWays (nI N) h = some (wo N + wt N) := win_class N h2 h FU 0 (by unfold FU; omega) (by omega)
    have ckk : ∀ (ρ : Type) (q : Option ρ), ck (nI N) 21 q = q := fun _ _ => ck_nI (by omega) (by omega)
    have ixk : ix (nI N) = N := nI_clamp (by omega)
    obtain ⟨hf, e1, e2⟩ := win_model N h2 (fun h12 => ck (nI N) 21 <| ck (nI N) 21 <| some ((h12 142 (ix (nI N))) + (h12 143 (ix (nI N))), h12)) FU 0 (up h 104 0 0) (by unfold FU; omega) (by omega) (fun u hu => by omega)
    rw [nI_0] at e1
    simp only [ckk, ixk] at e1 ⊢
    rw [hc, e1]
    simp only [(e2 N (Nat.le_refl N)).1, (e2 N (Nat.le_refl N)).2]
    exact ⟨hf, if_pos trivial⟩
  · exact ⟨up h 104 0 0, by simp [c]⟩
