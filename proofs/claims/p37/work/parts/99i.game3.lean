/-! THE GAME, each side alone -/
theorem im_fr2 {h g : PH} (i : IM h) (fr : ∀ c, c ≠ 146 → c ≠ 147 → g c = h c) : IM g := by
  obtain ⟨i1, i2, i3⟩ := i
  refine ⟨fun c j => ?_, ?_, ?_⟩
  · by_cases h1 : c = 146
    · subst h1; exact r_full _
    · by_cases h2 : c = 147
      · subst h2; exact r_full _
      · rw [fr c h1 h2]; exact i1 c j
  · unfold LawOK
    rw [fr 113 (by decide) (by decide), fr 115 (by decide) (by decide), fr 116 (by decide) (by decide), fr 117 (by decide) (by decide), fr 118 (by decide) (by decide), fr 119 (by decide) (by decide)]
    exact i2
  · unfold LawImg
    rw [fr 148 (by decide) (by decide)]
    exact i3
/-- the answer of the game -/
def gAns (a b : Int32) (x : Int32) : Prop := (1 ≤ a ∧ a ≤ 5) ∧ (1 ≤ b ∧ b ≤ 6) → ∀ hi fa : Nat, a = nI hi → b = nI fa → hi < 6 → fa < 7 → mL_winningBite (shq fa hi) (hT LO) = some x
theorem game_model (a b : Int32) (h : PH) (i : IM h) : Sf (mm_game a b h) (fun r => IM r.2 ∧ (¬ ((1 ≤ a ∧ a ≤ 5) ∧ (1 ≤ b ∧ b ≤ 6)) → r.1 = -1) ∧ gAns a b r.1) := by
  have i1 : IM (up h 104 0 0) := im_put i (show sp 104 0 = (-2147483648, 2147483647) from rfl) (r_full _) (by decide)
  by_cases c1 : 1 ≤ a ∧ a ≤ 5
  · by_cases c2 : 1 ≤ b ∧ b ≤ 6
    · obtain ⟨hi, j1, j2, rfl⟩ := in_nat (lo := 1) (hi := 5) (by decide) c1.1 c1.2 (by decide)
      obtain ⟨fa, f1, f2, rfl⟩ := in_nat (lo := 1) (hi := 6) (by decide) c2.1 c2.2 (by decide)
      obtain ⟨a0, a1, a2, a3⟩ := gm_fin hi j2 j1 fa f2 f1
      obtain ⟨-, x, e2, -⟩ := good_at (amN fa hi) a0 a1 (up (gM (amN fa hi)) 146 0 0) (fun j hj => by simp [up_at]) (fun t t1 t2 t3 => by
        have : ¬ t = 0 := by omega
        simp [up_at, this, gM]) a2
      have key : ∀ k0 : Int32 → Option (Int32 × PH), mm_game_L33 (nI hi) (nI fa) (up h 104 0 0) k0 FU 0 0 = k0 (nI (amN fa hi)) := fun k0 => by
        have := gm_33 hi fa j2 (up h 104 0 0) k0 FU 0 (by unfold FU; omega) (by omega)
        rw [show nI (amN fa 0) = 0 from rfl, nI_0] at this
        exact this
      have key2 : ∀ k0 : PH → Option (Int32 × PH), ∃ h', mm_game_L55 (nI (amN fa hi)) k0 FU 1 (up h 104 0 0) = k0 h' ∧ DW h' (amN fa hi + 1) ∧ ∀ b, b ≠ 146 → b ≠ 147 → h' b = (up h 104 0 0) b := fun k0 => by
        have := gm_55 (amN fa hi) a1 k0 FU 1 (up h 104 0 0) (by unfold FU; omega) (by omega) (by omega) (fun t t1 t2 => by omega)
        rw [show nI 1 = 1 from rfl] at this
        exact this
      obtain ⟨h', r1, r2, r3⟩ := key2 (fun h12 => bd (mm_takesSlab (nI (amN fa hi)) h12) fun h13 => bd (mm_goodBite h13) fun r14 => some (r14, h13))
      obtain ⟨g2, s1, s2, s3⟩ := ts_at (amN fa hi) h' (by omega)
      obtain ⟨e1, -⟩ := good_at (amN fa hi) a0 a1 g2 s3 (fun t t1 t2 t3 => by rw [s2 146 (by decide)]; exact r2 t t1 (by omega) t3) a2
      have hL := r1.trans (show (bd (mm_takesSlab (nI (amN fa hi)) h') fun h13 => bd (mm_goodBite h13) fun r14 => some (r14, h13)) = some (x, g2) by rw [s1, bd_e, e1, e2, bd_e])
      unfold mm_game
      simp only [isIn_eq, bd_e, lt_e, if_pos c1, if_pos c2, show ¬ (1 : Int32) = 0 by decide, if_false]
      rw [key, hL]
      refine s_some ⟨im_fr2 (g := g2) i1 (fun c d1 d2 => by rw [s2 c d2, r3 c d1 d2]), fun q => absurd ⟨c1, c2⟩ q, fun _ hi' fa' q1 q2 q3 q4 => ?_⟩
      have w1 : hi = hi' := (nI_eq (by omega) (by omega)).mp q1
      have w2 : fa = fa' := (nI_eq (by omega) (by omega)).mp q2
      rw [← w1, ← w2, a3]
      exact e2
    · refine ⟨(-1, up h 104 0 0), by simp [mm_game, isIn_eq, bd, lt, c1, c2], i1, fun _ => rfl, fun q => absurd q.2 c2⟩
  · refine ⟨(-1, up h 104 0 0), by simp [mm_game, isIn_eq, bd, lt, c1], i1, fun _ => rfl, fun q => absurd q.1 c1⟩
theorem gi_inv {h g : PH} (i : Inv h) (fr : ∀ c, c ≠ 102 → c ≠ 103 → g c = h c) : Inv g := by
  intro c j
  by_cases h1 : c = 102
  · subst h1; exact r_full _
  · by_cases h2 : c = 103
    · subst h2; exact r_full _
    · rw [fr c h1 h2]; exact i c j
theorem game_class (a b : Int32) (h : PH) (i : Inv h) (hG : GI h) : Sf (mX_game a b h) (fun r => Inv r.2 ∧ GI r.2 ∧ (¬ ((1 ≤ a ∧ a ≤ 5) ∧ (1 ≤ b ∧ b ≤ 6)) → r.1 = -1) ∧ gAns a b r.1) := by
  by_cases c1 : 1 ≤ a ∧ a ≤ 5
  · by_cases c2 : 1 ≤ b ∧ b ≤ 6
    · obtain ⟨hi, j1, j2, rfl⟩ := in_nat (lo := 1) (hi := 5) (by decide) c1.1 c1.2 (by decide)
      obtain ⟨fa, f1, f2, rfl⟩ := in_nat (lo := 1) (hi := 6) (by decide) c2.1 c2.2 (by decide)
      obtain ⟨a0, a1, a2, a3⟩ := gm_fin hi j2 j1 fa f2 f1
      obtain ⟨-, x, e2, -⟩ := good_at (amN fa hi) a0 a1 (up (gM (amN fa hi)) 146 0 0) (fun j hj => by simp [up_at]) (fun t t1 t2 t3 => by
        have : ¬ t = 0 := by omega
        simp [up_at, this, gM]) a2
      obtain ⟨g, q1, q2, q3, q4, q5⟩ := best_go hi fa j2 h hG x (by rw [a3]; exact e2)
      unfold mX_game
      simp only [within_eq, bd_e, if_pos c1, if_pos c2, show ¬ (1 : Int32) = 0 by decide, if_false]
      rw [q1, bd2_e]
      refine s_some ⟨gi_inv i q4, Or.inr ⟨q2, q3⟩, fun q => absurd ⟨c1, c2⟩ q, fun _ hi' fa' w1 w2 w3 w4 => ?_⟩
      have u1 : hi = hi' := (nI_eq (by omega) (by omega)).mp w1
      have u2 : fa = fa' := (nI_eq (by omega) (by omega)).mp w2
      rw [← u1, ← u2, a3]
      exact e2
    · refine ⟨(-1, h), by simp [mX_game, within_eq, bd, c1, c2], i, hG, fun _ => rfl, fun q => absurd q.2 c2⟩
  · refine ⟨(-1, h), by simp [mX_game, within_eq, bd, c1], i, hG, fun _ => rfl, fun q => absurd q.1 c1⟩
