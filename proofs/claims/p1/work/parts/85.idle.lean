/-! QUARTERS IN WHICH NOBODY LIVES: no house, no line of sky or office -/
theorem lt_e {α ρ : Type} (x : α) (f : α → Option ρ) : lt x f = f x := Eq.trans (b := f x) rfl rfl
theorem bd_e {α ρ : Type} (x : α) (f : α → Option ρ) : bd (some x) f = f x := Eq.trans (b := f x) rfl rfl
theorem bd2_e {α β ρ : Type} (x : α) (y : β) (f : α → β → Option ρ) : bd2 (some (x, y)) f = f x y := Eq.trans (b := f x y) rfl rfl
theorem jn1_e {α ρ : Type} (f : α → Option ρ) (b : (α → Option ρ) → Option ρ) : jn1 f b = b f := Eq.trans (b := b f) rfl rfl
theorem FU_s : FU = 99999 + 1 := rfl
theorem z_le {x y : Int32} (h : x = 0) (k : y = 0) : x ≤ y := by rw [h, k]; decide
theorem bc0 (h : PH) : mJ_bitCount 0 h = some 0 := rfl
theorem c0_115 {ρ : Type} (k : Option ρ) : ck 0 115 k = k := ck_nI (i := 0) (by decide) (by decide)
theorem zc_wea {a : Nat} {h : PH} (z2 : h 10 3 = 0) : mS_weather a h = some h := by
  unfold mS_weather
  rw [FU_s, mS_weather_L10]
  rw [if_pos (z_le z2 rfl)]
theorem zc_L6 {a : Nat} {h : PH} {k : PH → Option (Int32 × PH)} (z3 : h 12 3 = 0) : mS_pass_L6 a k FU 0 h = k h := by
  rw [FU_s, mS_pass_L6, if_pos (z_le z3 rfl)]
theorem zc_L70 {a : Nat} {p : Int32} {h : PH} {k : PH → Option (Int32 × PH)} (z : h (sT a) 1 = 0) : mS_pass_L70 a p k FU 0 h = k h := by
  rw [FU_s, mS_pass_L70, if_pos (z_le z rfl)]
theorem zc_L118 {a : Nat} {p : Int32} {h : PH} {k : PH → Option (Int32 × PH)} (z : h (sT a) 1 = 0) : mS_pass_L118 a p k FU 0 h = k h := by
  rw [FU_s, mS_pass_L118, if_pos (z_le z rfl)]
theorem zc_L142 {a : Nat} {p : Int32} {h : PH} {k : PH → Option (Int32 × PH)} (z : h (sT a) 1 = 0) : mS_pass_L142 a p k FU 0 h = k h := by
  rw [FU_s, mS_pass_L142, if_pos (z_le z rfl)]
theorem zc_L180 {a : Nat} {p : Int32} {h : PH} {k : PH → Option (Int32 × PH)} (z : h (sT a) 1 = 0) : mS_pass_L180 a p k FU 0 h = k h := by
  rw [FU_s, mS_pass_L180, if_pos (z_le z rfl)]
theorem zc_up {t : Nat} {h : PH} (z : h t 1 = 0) : mB_countUp t h = some 0 := by
  unfold mB_countUp mB_upSet
  rw [FU_s, mB_upSet_L4, if_pos (z_le z rfl)]
  simp only [bd, bc0]
theorem zc_har {a : Nat} {h : PH} (z : h (sT a) 1 = 0) : mS_harden a h = some h := by
  unfold mS_harden
  rw [FU_s, mS_harden_L2, if_pos (z_le z rfl)]
theorem zc_gro {a : Nat} {h : PH} (z : h (sT a) 1 = 0) : mS_grow a h = some (up h (sT a) 6 (imin 9999 (h (sT a) 6 + 1))) := by
  unfold mS_grow
  rw [FU_s, mS_grow_L2, if_pos (z_le z rfl)]
  rfl
theorem pass0 {a : Nat} {h : PH} (z : h (sT a) 1 = 0) (z2 : h 10 3 = 0) (z3 : h 12 3 = 0) : mS_pass a h = some (0, up h (sT a) 6 (imin 9999 (h (sT a) 6 + 1))) := by
  unfold mS_pass
  simp only [zc_wea z2, bd, zc_L6 z3, zc_up z, zc_L70 z, zc_L118 z, zc_L142 z, zc_har z, zc_L180 z, zc_gro z, lt]
  rfl
theorem zc_tot {t : Nat} {c : Int32} {h : PH} (z : h t 1 = 0) : mB_total t c h = some 0 := by
  unfold mB_total
  rw [FU_s, mB_total_L4, if_pos (z_le z rfl)]
/-- the model -/
theorem zm_sky {h : PH} (z2 : h 104 33 = 0) : mm_skyOf h = some h := by
  unfold mm_skyOf
  rw [FU_s, mm_skyOf_L2, if_pos (by rw [z2]; decide)]
theorem zm_L6 {h : PH} {k : PH → Option (Int32 × PH)} (z3 : h 104 35 = 0) : mm_goesBy_L6 k FU 0 h = k h := by
  rw [FU_s, mm_goesBy_L6, if_pos (by rw [z3]; decide)]
theorem zm_L50 {p : Int32} {h : PH} {k : PH → Option (Int32 × PH)} (z : h 104 6 = 0) : mm_goesBy_L50 p k FU 0 h = k h := by
  rw [FU_s, mm_goesBy_L50, if_pos (z_le z rfl)]
theorem zm_L91 {p : Int32} {h : PH} {k : PH → Option (Int32 × PH)} (z : h 104 6 = 0) : mm_goesBy_L91 p k FU 0 h = k h := by
  rw [FU_s, mm_goesBy_L91, if_pos (z_le z rfl)]
theorem zm_L112 {p : Int32} {h : PH} {k : PH → Option (Int32 × PH)} (z : h 104 6 = 0) : mm_goesBy_L112 p k FU 0 h = k h := by
  rw [FU_s, mm_goesBy_L112, if_pos (z_le z rfl)]
theorem zm_L133 {p : Int32} {h : PH} {k : PH → Option (Int32 × PH)} (z : h 104 6 = 0) : mm_goesBy_L133 p k FU 0 h = k h := by
  rw [FU_s, mm_goesBy_L133, if_pos (z_le z rfl)]
theorem zm_L193 {p : Int32} {h : PH} {k : PH → Option (Int32 × PH)} (z : h 104 6 = 0) : mm_goesBy_L193 p k FU 0 h = k h := by
  rw [FU_s, mm_goesBy_L193, if_pos (z_le z rfl)]
theorem zm_set {h : PH} (z : h 104 6 = 0) : mm_standingSet h = some 0 := by
  unfold mm_standingSet
  rw [FU_s, mm_standingSet_L4, if_pos (z_le z rfl)]
theorem zm_ones {h : PH} : mm_onesOf 0 h = some 0 := by
  unfold mm_onesOf
  rw [FU_s, mm_onesOf_L4, if_pos rfl]
theorem zm_all {c : Int32} {h : PH} (z : h 104 6 = 0) : mm_allOf c h = some 0 := by
  unfold mm_allOf
  rw [FU_s, mm_allOf_L4, if_pos (z_le z rfl)]
theorem goes0 {h : PH} (z : h 104 6 = 0) (z2 : h 104 33 = 0) (z3 : h 104 35 = 0) : mm_goesBy h = some (0, up h 105 0 (h 105 0 + 1)) := by
  unfold mm_goesBy
  have e : up h 105 (ix 0) (h 105 (ix 0) + 1) 104 6 = 0 := by rw [up_at]; simpa using z
  simp only [zm_sky z2, bd, zm_L6 z3, zm_set z, zm_L50 z, zm_L91 z, zm_L112 z, zm_L133 z, zm_L193 z, lt, c0_115, zm_set e]
  have e2 : (0 : Int32) &&& (0 ^^^ (-1)) = 0 := by decide
  rw [e2]
  simp only [zm_ones]
  rfl
/-- the copies of a borough -/
theorem cc_132 {ρ : Type} (k : Option ρ) : cc 132 132 0 0 132 k = k := by
  unfold cc
  exact if_neg (by decide)
theorem copy_fr (a0 a1 : Nat) (h : PH) (h01 : ¬ a1 = a0) (h02 : ¬ a0 = a1 + 1) (h03 : ¬ a1 = a0 + 1) : ∃ h', mB_copyFrom a0 a1 h = some h' ∧ (∀ b, b ≠ a0 → b ≠ a0 + 1 → h' b = h b) ∧ h' a0 1 = h a1 1 ∧ h' a0 2 = h a1 2 ∧ h' a0 3 = h a1 3 ∧ h' a0 4 = h a1 4 ∧ h' a0 5 = h a1 5 ∧ h' a0 6 = h a1 6 ∧ h' a0 7 = h a1 7 := by
  unfold mB_copyFrom
  simp only [cc_132, lt]
  refine ⟨_, rfl, fun b h1 h2 => ?_, ?_, ?_, ?_, ?_, ?_, ?_, ?_⟩
  · funext j
    simp [up, cpy, setC, upd, h1, h2]
  all_goals simp [up_at, cpy, setC, h01, h02, h03]
theorem irm6 : ∀ f, f < 6 → ∀ m, m < 7 → irm (nI f + nI m) 6 = nI ((f + m) % 6) := by decide +kernel
theorem irm6' : ∀ f, f < 6 → irm (nI f + 1) 6 = nI ((f + 1) % 6) := by decide +kernel
theorem dz6 {ρ : Type} (k : Option ρ) : dz 6 k = k := if_neg (by decide)
theorem keep_fr (p : Int32) (h : PH) (f m : Nat) (hf : f < 6) (hm : m < 7) (e1 : h 70 2 = nI f) (e2 : h 70 3 = nI m) : ∃ h', mP_keep 1 p h = some h' ∧ (∀ b, b ≠ 70 → b < 72 ∨ 84 < b → h' b = h b) ∧ ∃ f' m', f' < 6 ∧ m' < 7 ∧ h' 70 2 = nI f' ∧ h' 70 3 = nI m' := by
  unfold mP_keep
  have hs : (f + m) % 6 < 6 := Nat.mod_lt _ (by decide)
  simp only [dz6, lt, e1, e2, irm6 f hf m hm]
  generalize (f + m) % 6 = s at hs ⊢
  have cks : ∀ (ρ : Type) (q : Option ρ), ck (nI s) 6 q = q := fun _ _ => ck_nI hs (by decide)
  have ixs : ix (nI s) = s := nI_clamp (by omega)
  simp only [cks, ixs]
  obtain ⟨h3, q1, q2, -⟩ := copy_fr (73 + 2 * s) 1 h (by omega) (by omega) (by omega)
  rw [q1]
  simp only [bd]
  have g1 : h3 70 2 = nI f := by rw [q2 70 (by omega) (by omega)]; exact e1
  have g2 : h3 70 3 = nI m := by rw [q2 70 (by omega) (by omega)]; exact e2
  have g3 : up h3 72 s p 70 3 = nI m := by rw [up_at]; simpa using g2
  have g4 : up h3 72 s p 70 2 = nI f := by rw [up_at]; simpa using g1
  have gb : ∀ b, b ≠ 70 → b < 72 ∨ 84 < b → ∀ j x, up (up h3 72 s p) 70 j x b = h b := by
    intro b b1 b2 j x
    have b3 : b ≠ 72 := by omega
    rw [← q2 b (by omega) (by omega)]
    funext i
    simp [up_at, b1, b3]
  by_cases c : 6 ≤ up h3 72 s p 70 3
  · rw [if_pos c]
    refine ⟨_, rfl, fun b b1 b2 => gb b b1 b2 _ _, (f + 1) % 6, m, Nat.mod_lt _ (by decide), hm, ?_, ?_⟩
    · rw [g4, irm6' f hf]; simp [up_at]
    · rw [up_at]; simpa using g3
  · rw [if_neg c]
    have hm6 : m < 6 := by
      rcases Nat.lt_or_ge m 6 with q | q
      · exact q
      · exfalso; apply c; rw [g3]; exact nI_le (a := 6) q (by omega)
    refine ⟨_, rfl, fun b b1 b2 => gb b b1 b2 _ _, f, m + 1, hf, by omega, ?_, ?_⟩
    · rw [up_at]; simpa using g4
    · rw [g3, nI_1]; simp [up_at]
/-- the class's quarters -/
theorem q_class (N : Nat) (hN : N ≤ 60) : ∀ (n k : Nat) (h : PH) (f m : Nat), N < n + k → k ≤ N → f < 6 → m < 7 → h 70 2 = nI f → h 70 3 = nI m → h 1 1 = 0 → h 10 3 = 0 → h 12 3 = 0 →
    ∃ h', mX_quarters_L31 (nI N) n 0 (nI k) h = some (0, h') ∧ ∀ b, 104 ≤ b → h' b = h b := by
  intro n
  induction n with
  | zero => intro k h f m h1 h2; omega
  | succ n ih =>
    intro k h f m h1 h2 hf hm e1 e2 z1 z2 z3
    rw [mX_quarters_L31]
    by_cases hk : k = N
    · subst hk
      rw [if_pos (nI_le (Nat.le_refl _) (by omega))]
      exact ⟨h, rfl, fun _ _ => rfl⟩
    · rw [if_neg (nI_ge (by omega) (by omega))]
      obtain ⟨h', q1, q2, f', m', hf', hm', q3, q4⟩ := keep_fr (h 16 3) h f m hf hm e1 e2
      rw [q1]
      simp only [bd]
      have y1 : h' (sT 68) 1 = 0 := by show h' 1 1 = 0; rw [q2 1 (by omega) (by omega)]; exact z1
      have y2 : h' 10 3 = 0 := by rw [q2 10 (by omega) (by omega)]; exact z2
      have y3 : h' 12 3 = 0 := by rw [q2 12 (by omega) (by omega)]; exact z3
      rw [pass0 y1 y2 y3]
      simp only [bd2, lt]
      rw [nI_1, show (0 : Int32) + 0 = 0 from rfl, show sT 68 = 1 from rfl]
      obtain ⟨h'', r1, r2⟩ := ih (k + 1) (up h' 1 6 (imin 9999 (h' 1 6 + 1))) f' m' (by omega) (by omega) hf' hm' (by rw [up_at]; simpa using q3) (by rw [up_at]; simpa using q4) (by rw [up_at]; simpa using (show h' 1 1 = 0 from y1)) (by rw [up_at]; simpa using y2) (by rw [up_at]; simpa using y3)
      refine ⟨h'', r1, fun b hb => ?_⟩
      rw [r2 b hb, ← q2 b (by omega) (by omega)]
      funext j
      have : b ≠ 1 := by omega
      simp [up_at, this]
/-- the model's keeping -/
theorem ka_55 (k0 : PH → Option PH) (u : Nat) (hu : u ≤ 5) : ∀ (n k : Nat) (h : PH), 115 < n + k → k ≤ 115 → h 104 3 = nI u → ∃ h', mm_keepsAhead_L55 k0 n (nI k) h = k0 h' ∧ ∀ b, b ≠ 106 → h' b = h b := by
  intro n
  induction n with
  | zero => intro k h h1 h2; omega
  | succ n ih =>
    intro k h h1 h2 e
    rw [mm_keepsAhead_L55]
    by_cases hk : k = 115
    · subst hk
      rw [if_pos (show (115 : Int32) ≤ nI 115 from nI_le (a := 115) (Nat.le_refl _) (by omega))]
      exact ⟨h, rfl, fun _ _ => rfl⟩
    · rw [if_neg (show ¬ (115 : Int32) ≤ nI k from nI_ge (b := 115) (by omega) (by omega))]
      have e3 : 115 * h 104 3 + nI k = nI (115 * u + k) := by
        rw [e, ← nI_add]
        congr 1
        exact (Int32.ofNat_mul 115 u).symm
      rw [ck_nI (by omega) (by omega), e3, ck_nI (by omega) (by omega)]
      simp only [lt]
      rw [nI_1]
      obtain ⟨h', q1, q2⟩ := ih (k + 1) (up h 106 (ix (nI (115 * u + k))) (h 105 (ix (nI k)))) (by omega) (by omega) (by rw [up_at]; simpa using e)
      refine ⟨h', q1, fun b hb => ?_⟩
      rw [q2 b hb]
      funext j
      simp [up_at, hb]
theorem ka_21 (k0 : PH → Option PH) : ∀ (n k : Nat) (h : PH), 575 < n + k → k ≤ 575 → h 104 3 = nI 5 → ∃ h', mm_keepsAhead_L21 k0 n (nI k) h = k0 h' ∧ ∀ b, b ≠ 106 → h' b = h b := by
  intro n
  induction n with
  | zero => intro k h h1 h2; omega
  | succ n ih =>
    intro k h h1 h2 e
    rw [mm_keepsAhead_L21]
    have e3 : 115 * h 104 3 = nI 575 := by rw [e]; decide
    rw [e3]
    by_cases hk : k = 575
    · subst hk
      rw [if_pos (nI_le (Nat.le_refl _) (by omega))]
      exact ⟨h, rfl, fun _ _ => rfl⟩
    · rw [if_neg (nI_ge (by omega) (by omega))]
      have e4 : nI k + 115 = nI (k + 115) := nI_add k 115
      rw [e4, ck_nI (by omega) (by omega), ck_nI (by omega) (by omega)]
      simp only [lt]
      rw [nI_1]
      obtain ⟨h', q1, q2⟩ := ih (k + 1) (up h 106 (ix (nI k)) (h 106 (ix (nI (k + 115))))) (by omega) (by omega) (by rw [up_at]; simpa using e)
      refine ⟨h', q1, fun b hb => ?_⟩
      rw [q2 b hb]
      funext j
      simp [up_at, hb]
theorem ka_end (u : Nat) (hu : u ≤ 5) (h : PH) (e : h 104 3 = nI u) : ∃ h', mm_keepsAhead_L55 (fun h4 => lt (up h4 104 3 (h4 104 3 + 1)) fun h5 => some h5) FU 0 h = some h' ∧ (∀ b, b ≠ 106 → b ≠ 104 → h' b = h b) ∧ (∀ j, j ≠ 3 → h' 104 j = h 104 j) ∧ h' 104 3 = nI (u + 1) := by
  obtain ⟨h', q1, q2⟩ := ka_55 (fun h4 => lt (up h4 104 3 (h4 104 3 + 1)) fun h5 => some h5) u hu FU 0 h (by unfold FU; omega) (by omega) e
  rw [nI_0] at q1
  rw [q1]
  refine ⟨_, rfl, fun b b1 b2 => ?_, fun j hj => ?_, ?_⟩
  · rw [← q2 b b1]; funext j; simp [up_at, b2]
  · rw [← q2 104 (by decide)]; simp [up_at, hj]
  · rw [q2 104 (by decide), e, nI_1]; simp [up_at]
theorem ka_all (u : Nat) (hu : u ≤ 6) (h : PH) (e : h 104 3 = nI u) : ∃ h' u', mm_keepsAhead h = some h' ∧ (∀ b, b ≠ 106 → b ≠ 104 → h' b = h b) ∧ (∀ j, j ≠ 3 → h' 104 j = h 104 j) ∧ u' ≤ 6 ∧ h' 104 3 = nI u' := by
  unfold mm_keepsAhead
  rw [jn1_e]
  by_cases c : h 104 3 = 6
  · rw [if_pos c]
    have hu6 : u = 6 := by
      rw [e] at c
      exact (nI_eq (by omega) (by omega)).mp (show nI u = nI 6 from c)
    subst hu6
    have e5 : h 104 3 - 1 = nI 5 := by rw [e]; decide
    rw [lt_e, e5]
    obtain ⟨g, q1, q2⟩ := ka_21 (fun h8 => mm_keepsAhead_L55 (fun h4 => lt (up h4 104 3 (h4 104 3 + 1)) fun h5 => some h5) FU 0 h8) FU 0 (up h 104 3 (nI 5)) (by unfold FU; omega) (by omega) (by simp [up_at])
    rw [nI_0] at q1
    rw [q1]
    have eg : g 104 3 = nI 5 := by rw [q2 104 (by decide)]; simp [up_at]
    obtain ⟨h', r1, r2, r3, r4⟩ := ka_end 5 (by omega) g eg
    refine ⟨h', 6, r1, fun b b1 b2 => ?_, fun j hj => ?_, by omega, r4⟩
    · rw [r2 b b1 b2, q2 b b1]; funext j; simp [up_at, b2]
    · rw [r3 j hj, q2 104 (by decide)]; simp [up_at, hj]
  · rw [if_neg c]
    have hu5 : u ≤ 5 := by
      rcases Nat.lt_or_ge u 6 with q | q
      · omega
      · exfalso; apply c; rw [e, show u = 6 by omega]; rfl
    obtain ⟨h', r1, r2, r3, r4⟩ := ka_end u hu5 h e
    exact ⟨h', u + 1, r1, r2, r3, by omega, r4⟩
theorem q_model (N : Nat) (hN : N ≤ 60) : ∀ (n k : Nat) (h : PH) (u : Nat), N < n + k → k ≤ N → u ≤ 6 → h 104 3 = nI u → h 104 6 = 0 → h 104 33 = 0 → h 104 35 = 0 → ∃ h', mm_quarters_L36 (nI N) n 0 (nI k) h = some (0, h') := by
  intro n
  induction n with
  | zero => intro k h u h1 h2; omega
  | succ n ih =>
    intro k h u h1 h2 hu e z1 z2 z3
    rw [mm_quarters_L36]
    by_cases hk : k = N
    · subst hk
      rw [if_pos (nI_le (Nat.le_refl _) (by omega))]
      exact ⟨h, rfl⟩
    · rw [if_neg (nI_ge (by omega) (by omega))]
      obtain ⟨h', u', q1, q2, q3, q4, q5⟩ := ka_all u hu h e
      rw [q1]
      simp only [bd]
      have y1 : h' 104 6 = 0 := by rw [q3 6 (by decide)]; exact z1
      have y2 : h' 104 33 = 0 := by rw [q3 33 (by decide)]; exact z2
      have y3 : h' 104 35 = 0 := by rw [q3 35 (by decide)]; exact z3
      rw [goes0 y1 y2 y3]
      simp only [bd2, lt]
      rw [nI_1, show (0 : Int32) + 0 = 0 from rfl]
      exact ih (k + 1) _ u' (by omega) (by omega) q4 (by rw [up_at]; simpa using q5) (by rw [up_at]; simpa using y1) (by rw [up_at]; simpa using y2) (by rw [up_at]; simpa using y3)
theorem ex_quarters (a : Int32) : ∃ h2, pc_quarters a hI = some h2 := by
  unfold pc_quarters mX_quarters mm_quarters
  simp only [within_eq, isIn_eq, bd, lt, c0_115]
  by_cases c : 1 ≤ a ∧ a ≤ 60
  · obtain ⟨N, h1, h2, rfl⟩ := in_nat (lo := 1) (hi := 60) (by decide) c.1 c.2 (by decide)
    simp only [c, and_self, if_true, show ¬ (1 : Int32) = 0 by decide, if_false]
    have e1 : hI 1 6 + nI N ≤ 9999 := by
      rw [show hI 1 6 = nI 0 from rfl, nI_add]
      exact nI_le (b := 9999) (by omega) (by omega)
    obtain ⟨h', q1, q2⟩ := q_class N (by omega) FU 0 hI 0 0 (by unfold FU; omega) (by omega) (by decide) (by decide) rfl rfl rfl rfl rfl
    rw [nI_0] at q1
    rw [if_pos e1, q1]
    simp only [bd2]
    have e2 : up h' 104 0 0 105 (ix 0) + nI N ≤ 9999 := by
      rw [show up h' 104 0 0 105 (ix 0) = nI 0 by rw [up_at, q2 105 (by decide)]; rfl, nI_add]
      exact nI_le (b := 9999) (by omega) (by omega)
    rw [if_pos e2]
    obtain ⟨h'', r1⟩ := q_model N (by omega) FU 0 (up h' 104 0 0) 0 (by unfold FU; omega) (by omega) (by omega) (by rw [up_at, q2 104 (by decide)]; rfl) (by rw [up_at, q2 104 (by decide)]; rfl) (by rw [up_at, q2 104 (by decide)]; rfl) (by rw [up_at, q2 104 (by decide)]; rfl)
    rw [nI_0] at r1
    rw [r1]
    exact ⟨h'', if_pos rfl⟩
  · simp [c, bd2]
/-! IN THOUGHT -/
theorem g_class (N : Nat) (hN : N ≤ 60) (w : Int32) (k0 : PH → Option (Int32 × PH)) : ∀ (n k : Nat) (h : PH), N < n + k → k ≤ N → h 3 1 = 0 → h 10 3 = 0 → h 12 3 = 0 → ∃ h', mX_goes_L34 (nI N) w k0 n (nI k) h = k0 h' ∧ (∀ b, b ≠ 3 → h' b = h b) ∧ ∀ j, j ≠ 6 → h' 3 j = h 3 j := by
  intro n
  induction n with
  | zero => intro k h h1 h2; omega
  | succ n ih =>
    intro k h h1 h2 z1 z2 z3
    rw [mX_goes_L34]
    by_cases hk : k = N
    · subst hk
      rw [if_pos (nI_le (Nat.le_refl _) (by omega))]
      exact ⟨h, rfl, fun _ _ => rfl, fun _ _ => rfl⟩
    · rw [if_neg (nI_ge (by omega) (by omega))]
      rw [pass0 (a := 69) z1 z2 z3]
      simp only [bd2]
      rw [nI_1, show sT 69 = 3 from rfl]
      obtain ⟨h'', r1, r2, r3⟩ := ih (k + 1) (up h 3 6 (imin 9999 (h 3 6 + 1))) (by omega) (by omega) (by rw [up_at]; simpa using z1) (by rw [up_at]; simpa using z2) (by rw [up_at]; simpa using z3)
      refine ⟨h'', r1, fun b hb => ?_, fun j hj => ?_⟩
      · rw [r2 b hb]; funext j; simp [up_at, hb]
      · rw [r3 j hj]; simp [up_at, hj]
theorem g_model (N : Nat) (hN : N ≤ 60) (w : Int32) (k0 : PH → Option (Int32 × PH)) : ∀ (n k : Nat) (h : PH), N < n + k → k ≤ N → h 104 6 = 0 → h 104 33 = 0 → h 104 35 = 0 → ∃ h', mm_goes_L34 (nI N) w k0 n (nI k) h = k0 h' ∧ (∀ b, b ≠ 105 → h' b = h b) ∧ ∀ j, j ≠ 0 → h' 105 j = h 105 j := by
  intro n
  induction n with
  | zero => intro k h h1 h2; omega
  | succ n ih =>
    intro k h h1 h2 z1 z2 z3
    rw [mm_goes_L34]
    by_cases hk : k = N
    · subst hk
      rw [if_pos (nI_le (Nat.le_refl _) (by omega))]
      exact ⟨h, rfl, fun _ _ => rfl, fun _ _ => rfl⟩
    · rw [if_neg (nI_ge (by omega) (by omega))]
      rw [goes0 z1 z2 z3]
      simp only [bd2]
      rw [nI_1]
      obtain ⟨h'', r1, r2, r3⟩ := ih (k + 1) (up h 105 0 (h 105 0 + 1)) (by omega) (by omega) (by rw [up_at]; simpa using z1) (by rw [up_at]; simpa using z2) (by rw [up_at]; simpa using z3)
      refine ⟨h'', r1, fun b hb => ?_, fun j hj => ?_⟩
      · rw [r2 b hb]; funext j; simp [up_at, hb]
      · rw [r3 j hj]; simp [up_at, hj]
theorem th_L2 (k0 : PH → Option PH) : ∀ (n k : Nat) (h : PH), 115 < n + k → k ≤ 115 → ∃ h', mm_thinks_L2 k0 n (nI k) h = k0 h' ∧ ∀ b, b ≠ 107 → h' b = h b := by
  intro n
  induction n with
  | zero => intro k h h1 h2; omega
  | succ n ih =>
    intro k h h1 h2
    rw [mm_thinks_L2]
    by_cases hk : k = 115
    · subst hk
      rw [if_pos (show (115 : Int32) ≤ nI 115 from nI_le (a := 115) (Nat.le_refl _) (by omega))]
      exact ⟨h, rfl, fun _ _ => rfl⟩
    · rw [if_neg (show ¬ (115 : Int32) ≤ nI k from nI_ge (b := 115) (by omega) (by omega))]
      rw [ck_nI (by omega) (by omega), ck_nI (by omega) (by omega)]
      simp only [lt]
      rw [nI_1]
      obtain ⟨h', q1, q2⟩ := ih (k + 1) (up h 107 (ix (nI k)) (h 105 (ix (nI k)))) (by omega) (by omega)
      refine ⟨h', q1, fun b hb => ?_⟩
      rw [q2 b hb]
      funext j
      simp [up_at, hb]
theorem et_L2 (k0 : PH → Option PH) : ∀ (n k : Nat) (h : PH), 115 < n + k → k ≤ 115 → ∃ h', mm_endsThought_L2 k0 n (nI k) h = k0 h' := by
  intro n
  induction n with
  | zero => intro k h h1 h2; omega
  | succ n ih =>
    intro k h h1 h2
    rw [mm_endsThought_L2]
    by_cases hk : k = 115
    · subst hk
      rw [if_pos (show (115 : Int32) ≤ nI 115 from nI_le (a := 115) (Nat.le_refl _) (by omega))]
      exact ⟨h, rfl⟩
    · rw [if_neg (show ¬ (115 : Int32) ≤ nI k from nI_ge (b := 115) (by omega) (by omega))]
      rw [ck_nI (by omega) (by omega), ck_nI (by omega) (by omega)]
      simp only [lt]
      rw [nI_1]
      exact ih (k + 1) _ (by omega) (by omega)
theorem et_all (h : PH) : ∃ h', mm_endsThought h = some h' := by
  unfold mm_endsThought
  obtain ⟨h', q⟩ := et_L2 (fun h2 => lt (up h2 104 5 0) fun h3 => some h3) FU 0 h (by unfold FU; omega) (by omega)
  rw [nI_0] at q
  rw [q]
  exact ⟨_, rfl⟩
theorem th_all (h : PH) : ∃ h', mm_thinks h = some h' ∧ (∀ b, b ≠ 107 → b ≠ 104 → h' b = h b) ∧ ∀ j, j ≠ 5 → h' 104 j = h 104 j := by
  unfold mm_thinks
  obtain ⟨h', q1, q2⟩ := th_L2 (fun h2 => lt (up h2 104 5 1) fun h3 => some h3) FU 0 h (by unfold FU; omega) (by omega)
  rw [nI_0] at q1
  rw [q1]
  refine ⟨_, rfl, fun b b1 b2 => ?_, fun j hj => ?_⟩
  · rw [← q2 b b1]; funext j; simp [up_at, b2]
  · rw [← q2 104 (by decide)]; simp [up_at, hj]
theorem c5_115 {ρ : Type} (k : Option ρ) : ck 5 115 k = k := ck_nI (i := 5) (by decide) (by decide)
theorem g_class' {N : Nat} (hN : N ≤ 60) {w : Int32} {k0 : PH → Option (Int32 × PH)} {h : PH} {Q : Int32 × PH → Prop} (z1 : h 3 1 = 0) (z2 : h 10 3 = 0) (z3 : h 12 3 = 0) (hk : ∀ h', (∀ b, b ≠ 3 → h' b = h b) → (∀ j, j ≠ 6 → h' 3 j = h 3 j) → ∃ r, k0 h' = some r ∧ Q r) : ∃ r, mX_goes_L34 (nI N) w k0 FU 0 h = some r ∧ Q r := by
  obtain ⟨h', q1, q2, q3⟩ := g_class N hN w k0 FU 0 h (by unfold FU; omega) (by omega) z1 z2 z3
  rw [nI_0] at q1
  rw [q1]
  exact hk h' q2 q3
theorem g_model' {N : Nat} (hN : N ≤ 60) {w : Int32} {k0 : PH → Option (Int32 × PH)} {h : PH} {Q : Int32 × PH → Prop} (z1 : h 104 6 = 0) (z2 : h 104 33 = 0) (z3 : h 104 35 = 0) (hk : ∀ h', (∀ b, b ≠ 105 → h' b = h b) → (∀ j, j ≠ 0 → h' 105 j = h 105 j) → ∃ r, k0 h' = some r ∧ Q r) : ∃ r, mm_goes_L34 (nI N) w k0 FU 0 h = some r ∧ Q r := by
  obtain ⟨h', q1, q2, q3⟩ := g_model N hN w k0 FU 0 h (by unfold FU; omega) (by omega) z1 z2 z3
  rw [nI_0] at q1
  rw [q1]
  exact hk h' q2 q3
theorem gc_goes (N : Nat) (h1 : 1 ≤ N) (h2 : N ≤ 60) (b : Int32) (c2 : 0 ≤ b ∧ b ≤ 3) : ∃ r, mX_goes (nI N) b hI = some r ∧ r.1 = 0 ∧ ∀ x, 104 ≤ x → r.2 x = hI x := by
  unfold mX_goes
  have c : 1 ≤ nI N ∧ nI N ≤ 60 := ⟨nI_le (a := 1) h1 (by omega), nI_le (b := 60) h2 (by omega)⟩
  simp only [within_eq, bd_e, if_pos c, if_pos c2, show ¬ (1 : Int32) = 0 by decide, if_false]
  obtain ⟨g, q1, q2, v1, v2, v3, v4, -⟩ := copy_fr 3 1 hI (by decide) (by decide) (by decide)
  rw [q1]
  rw [bd_e]
  refine g_class' h2 (by rw [v1]; rfl) (by rw [q2 10 (by decide) (by decide)]; rfl) (by rw [q2 12 (by decide) (by decide)]; rfl) (fun h' f1 f2 => ?_)
  have w1 : h' 3 1 = 0 := by rw [f2 1 (by decide), v1]; rfl
  have w4 : h' 3 4 = 0 := by rw [f2 4 (by decide), v4]; rfl
  have w : ∀ x, 104 ≤ x → h' x = hI x := fun x hx => by rw [f1 x (by omega), q2 x (by omega) (by omega)]
  simp only [zc_up w1, zc_tot w1, bd_e]
  by_cases b0 : b = 0
  · simp only [if_pos b0]
    exact ⟨_, rfl, w4, w⟩
  · by_cases b1 : b = 1
    · simp only [if_neg b0, if_pos b1]
      exact ⟨_, rfl, rfl, w⟩
    · by_cases b2 : b = 2
      · simp only [if_neg b0, if_neg b1, if_pos b2]
        exact ⟨_, rfl, rfl, w⟩
      · simp only [if_neg b0, if_neg b1, if_neg b2]
        exact ⟨_, rfl, rfl, w⟩
theorem gm_goes (N : Nat) (h1 : 1 ≤ N) (h2 : N ≤ 60) (b : Int32) (c2 : 0 ≤ b ∧ b ≤ 3) (h : PH) (z1 : h 104 6 = 0) (z2 : h 104 33 = 0) (z3 : h 104 35 = 0) (z4 : h 105 5 = 0) : ∃ r, mm_goes (nI N) b h = some r ∧ r.1 = 0 := by
  unfold mm_goes
  have c : 1 ≤ nI N ∧ nI N ≤ 60 := ⟨nI_le (a := 1) h1 (by omega), nI_le (b := 60) h2 (by omega)⟩
  simp only [isIn_eq, bd_e, lt_e, jn1_e, if_pos c, if_pos c2, show ¬ (1 : Int32) = 0 by decide, if_false]
  obtain ⟨g, q1, q2, q3⟩ := th_all (up h 104 0 0)
  rw [q1]
  rw [bd_e]
  refine g_model' h2 (by rw [q3 6 (by decide), up_at]; simpa using z1) (by rw [q3 33 (by decide), up_at]; simpa using z2) (by rw [q3 35 (by decide), up_at]; simpa using z3) (fun h' f1 f2 => ?_)
  have w1 : h' 104 6 = 0 := by rw [f1 104 (by decide), q3 6 (by decide), up_at]; simpa using z1
  have w4 : h' 105 5 = 0 := by rw [f2 5 (by decide), q2 105 (by decide) (by decide), up_at]; simpa using z4
  obtain ⟨g3, e3⟩ := et_all h'
  simp only [zm_set w1, zm_all w1, zm_ones, c5_115, bd_e, e3]
  by_cases b0 : b = 0
  · simp only [if_pos b0]
    exact ⟨_, rfl, w4⟩
  · by_cases b1 : b = 1
    · simp only [if_neg b0, if_pos b1]
      exact ⟨_, rfl, rfl⟩
    · by_cases b2 : b = 2
      · simp only [if_neg b0, if_neg b1, if_pos b2]
        exact ⟨_, rfl, rfl⟩
      · simp only [if_neg b0, if_neg b1, if_neg b2]
        exact ⟨_, rfl, rfl⟩
theorem ex_goes (a b : Int32) : ∃ h2, pc_goes a b hI = some h2 := by
  by_cases c : 1 ≤ a ∧ a ≤ 60
  · by_cases c2 : 0 ≤ b ∧ b ≤ 3
    · obtain ⟨N, h1, h2, rfl⟩ := in_nat (lo := 1) (hi := 60) (by decide) c.1 c.2 (by decide)
      obtain ⟨r, q1, q2, q3⟩ := gc_goes N h1 (by omega) b c2
      obtain ⟨r', p1, p2⟩ := gm_goes N h1 (by omega) b c2 r.2 (by rw [q3 104 (by decide)]; rfl) (by rw [q3 104 (by decide)]; rfl) (by rw [q3 104 (by decide)]; rfl) (by rw [q3 105 (by decide)]; rfl)
      refine ⟨r'.2, ?_⟩
      unfold pc_goes
      rw [q1]
      obtain ⟨r1, r2⟩ := r
      obtain ⟨s1, s2⟩ := r'
      simp only [bd2] at p1 p2 q2 ⊢
      rw [p1]
      simp only [p2, q2, if_true]
    · unfold pc_goes mX_goes mm_goes
      simp [within_eq, isIn_eq, lt, bd, bd2, c, c2]
  · unfold pc_goes mX_goes mm_goes
    simp [within_eq, isIn_eq, lt, bd, bd2, c]
