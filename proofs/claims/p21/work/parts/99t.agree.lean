/-! WHAT NEEDS NO STATE: window, mortgage, game answer alike -/
theorem wn_window (h : PH) (a : Int32) : ∃ r hf, mX_window a h = some r ∧ mm_window a h = some (r, hf) := by
  unfold mX_window mm_window
  simp only [within_eq, isIn_eq, bd, bd2, lt]
  by_cases c : 1 ≤ a ∧ a ≤ 20
  · obtain ⟨N, h1, h2, rfl⟩ := win_in c.1 c.2
    simp only [c, and_self, if_true, show ¬ (1 : Int32) = 0 by decide, if_false]
    have hc : mK_windowWays (nI N) h = some (wo N + wt N) := win_class N h2 h FU 0 (by unfold FU; omega) (by omega)
    have ckk : ∀ (ρ : Type) (q : Option ρ), ck (nI N) 21 q = q := fun _ _ => ck_nI (by omega) (by omega)
    have ixk : ix (nI N) = N := nI_clamp (by omega)
    obtain ⟨hf, e1, e2⟩ := win_model N h2 (fun h12 => ck (nI N) 21 <| ck (nI N) 21 <| some ((h12 142 (ix (nI N))) + (h12 143 (ix (nI N))), h12)) FU 0 (up h 104 0 0) (by unfold FU; omega) (by omega) (fun u hu => by omega)
    rw [nI_0] at e1
    simp only [ckk, ixk] at e1 ⊢
    rw [hc, e1]
    simp only [(e2 N (Nat.le_refl N)).1, (e2 N (Nat.le_refl N)).2]
    exact ⟨_, hf, rfl, rfl⟩
  · exact ⟨-1, up h 104 0 0, by simp [c], by simp [c]⟩
theorem ag_window (a : Int32) (h : PH) {rX rm : Int32} {h2 : PH} (e1 : mX_window a h = some rX) (e2 : mm_window a h = some (rm, h2)) : rX = rm := by
  obtain ⟨r, hf, q1, q2⟩ := wn_window h a
  rw [q1] at e1
  rw [q2] at e2
  cases e1
  cases e2
  rfl
theorem wn_mortgage (h : PH) (a1 a2 a3 a4 : Int32) : ∃ r, mX_mortgage a1 a2 a3 a4 h = some r ∧ mm_mortgage a1 a2 a3 a4 h = some (r, up h 104 0 0) := by
  simp only [mX_mortgage, mm_mortgage, within_eq, isIn_eq, bd, bd2, lt, jn1]
  by_cases c1 : 1 ≤ a1 ∧ a1 ≤ 9999
  · by_cases c2 : 0 ≤ a2 ∧ a2 ≤ 50
    · by_cases c3 : 1 ≤ a3 ∧ a3 ≤ 999
      · by_cases c4 : 0 ≤ a4 ∧ a4 ≤ 1
        · simp only [c1, c2, c3, c4, and_self, if_true, show ¬ (1 : Int32) = 0 by decide, if_false]
          by_cases c5 : a4 = 0
          · obtain ⟨r, hr⟩ := payOff_some a1 a2 a3 1 h
            have hs := mort_sim a2 a3 a4 1 h (up h 104 0 0) (fun x y => if (1 : Int32) = 0 then some x else some y) (fun x y => if a4 = 0 then some (y, up h 104 0 0) else some (x, up h 104 0 0)) (fun x y => by simp [c5]) FU a1 0 1
            have hr' : mK_payOff_L9 a2 a3 1 h (fun x y => if (1 : Int32) = 0 then some x else some y) FU a1 0 1 = some r := hr
            rw [hr'] at hs
            simp only [if_pos c5, hr]
            simp only [c5, if_true] at hs
            exact ⟨r, by simp, by simp [c5, hs]⟩
          · obtain ⟨r, hr⟩ := payOff_some a1 a2 a3 0 h
            have hs := mort_sim a2 a3 a4 0 h (up h 104 0 0) (fun x y => if (0 : Int32) = 0 then some x else some y) (fun x y => if a4 = 0 then some (y, up h 104 0 0) else some (x, up h 104 0 0)) (fun x y => by simp [c5]) FU a1 0 1
            have hr' : mK_payOff_L9 a2 a3 0 h (fun x y => if (0 : Int32) = 0 then some x else some y) FU a1 0 1 = some r := hr
            rw [hr'] at hs
            simp only [if_neg c5, hr]
            simp only [c5, if_false] at hs
            exact ⟨r, by simp, by simp [c5, hs]⟩
        · exact ⟨-1, by simp [c1, c2, c3, c4], by simp [c1, c2, c3, c4]⟩
      · exact ⟨-1, by simp [c1, c2, c3], by simp [c1, c2, c3]⟩
    · exact ⟨-1, by simp [c1, c2], by simp [c1, c2]⟩
  · exact ⟨-1, by simp [c1], by simp [c1]⟩
theorem ag_mortgage (a1 a2 a3 a4 : Int32) (h : PH) {rX rm : Int32} {h2 : PH} (e1 : mX_mortgage a1 a2 a3 a4 h = some rX) (e2 : mm_mortgage a1 a2 a3 a4 h = some (rm, h2)) : rX = rm := by
  obtain ⟨r, q1, q2⟩ := wn_mortgage h a1 a2 a3 a4
  rw [q1] at e1
  rw [q2] at e2
  cases e1
  cases e2
  rfl
