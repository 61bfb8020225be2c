/-! SAFETY of the model, by hand: pans by the first that has room; crumbs -/
theorem fp15 (p1 : Int32) (a b : Nat) (hab : a ≤ b) (hb : b ≤ 7) (h : PH) (k0 : Int32 → Option (Int32 × PH)) {Q : Int32 × PH → Prop} (hk : ∀ c : Nat, c ≤ a → Sf (k0 (nI c)) Q) : ∀ (n c : Nat), a < n + c → c ≤ a → Sf (mm_firstPans_L15 p1 (nI a) (nI b) h k0 n (nI c)) Q := by
  intro n
  induction n with
  | zero => intro c h1 h2; omega
  | succ n ih =>
    intro c h1 h2
    rw [mm_firstPans_L15]
    by_cases hc : c = a
    · subst hc
      rw [if_pos (nI_le (Nat.le_refl _) (by omega))]
      exact hk c (Nat.le_refl _)
    · rw [if_neg (nI_ge (by omega) (by omega)), ck_nI (by omega) (by omega), ck_nI (by omega) (by omega)]
      refine s_if (fun _ => hk c (by omega)) (fun _ => ?_)
      rw [lt_e, nI_1]
      exact ih (c + 1) (by omega) (by omega)
theorem fp4 (p1 : Int32) : ∀ (n a b : Nat) (h : PH), 8 < n + b → b ≤ 8 → a ≤ b → IM h → Sf (mm_firstPans_L4 p1 n (nI a) (nI b) h) (fun r => R (-2147483648) 2147483647 r.1 ∧ IM r.2) := by
  intro n
  induction n with
  | zero => intro a b h h1 h2; omega
  | succ n ih =>
    intro a b h h1 h2 hab i
    rw [mm_firstPans_L4]
    have f5 : R 0 8 (h 104 45) := inv_rng i.1 rfl
    refine s_if (fun _ => s_some ⟨r_full _, i⟩) (fun c => ?_)
    have hb : b ≤ 7 := by
      rcases Nat.lt_or_ge b 8 with q | q
      · omega
      · exfalso
        apply c
        have e8 : b = 8 := by omega
        subst e8
        rw [Int32.le_iff_toInt_le]
        exact f5.2
    have key := fp15 p1 a b hab hb h (fun (x2 : Int32) =>
        jn2 (fun (x4 : Int32) (h5 : PH) =>
          ck x2 8 <|
          ck (nI b) 8 <|
          ck x2 8 <|
          lt (up h5 131 (ix x2) ((h5 131 (ix x2)) - (h5 129 (ix (nI b))))) fun h6 =>
          mm_firstPans_L4 p1 n x4 (nI b + 1) h6) fun j3 =>
        if x2 = nI a then
          ck x2 8 <|
          lt (up h 131 (ix x2) p1) fun h7 =>
          lt (nI a + 1) fun x8 =>
          j3 x8 h7
        else
          j3 (nI a) h) (Q := fun r => R (-2147483648) 2147483647 r.1 ∧ IM r.2) (fun c hc => ?_) FU 0 (by unfold FU; omega) (by omega)
    · rw [nI_0] at key
      exact key
    · have w : ∀ (g : PH) (j : Nat) (v : Int32), IM g → IM (up g 131 j v) := fun g j v ig => im_put ig (show sp 131 j = (-2147483648, 2147483647) from rfl) (r_full v) (by decide)
      refine s_jn2 (P := fun x g => IM g ∧ ∃ a' : Nat, a' ≤ b + 1 ∧ x = nI a') (fun x4 h5 q => ?_) (fun j3 kj => ?_)
      · obtain ⟨i5, a', ha', rfl⟩ := q
        rw [ck_nI (by omega) (by omega), ck_nI (by omega) (by omega), ck_nI (by omega) (by omega), lt_e, nI_1]
        exact ih a' (b + 1) _ (by omega) (by omega) ha' (w _ _ _ i5)
      · refine s_if (fun _ => ?_) (fun _ => kj _ _ ⟨i, a, by omega, rfl⟩)
        rw [ck_nI (by omega) (by omega), lt_e, lt_e, nI_1]
        exact kj _ _ ⟨w _ _ _ i, a + 1, by omega, rfl⟩
theorem sf_m_firstPans (p1 : Int32) {h0 : PH} (i : IM h0) : Sf (mm_firstPans p1 h0) (fun r => R (-2147483648) 2147483647 r.1 ∧ IM r.2) := by
  unfold mm_firstPans
  have := fp4 p1 FU 0 0 h0 (by unfold FU; omega) (by omega) (by omega) i
  rw [nI_0] at this
  exact this
/-- one step of the crumbs -/
theorem cr55 (p1 : Int32) (k0 : Int32 → Int32 → PH → Option (Int32 × PH)) {Q : Int32 × PH → Prop} (hk : ∀ x y g, IM g → Sf (k0 x y g) Q) : ∀ (n k : Nat) (v2 v3 : Int32) (h : PH), 16 < n + k → k ≤ 16 → R (-(k : Int)) k v2 → R (-(k : Int)) k v3 → IM h → Sf (mm_crumbs_L55 p1 k0 n v2 v3 (nI k) h) Q := by
  intro n
  induction n with
  | zero => intro k v2 v3 h h1 h2; omega
  | succ n ih =>
    intro k v2 v3 h h1 h2 f2 f3 i
    rw [mm_crumbs_L55]
    have f5 : R 0 16 (h 104 54) := inv_rng i.1 rfl
    refine s_if (fun _ => hk _ _ _ i) (fun c => ?_)
    have hk15 : k ≤ 15 := by
      rcases Nat.lt_or_ge k 16 with q | q
      · omega
      · exfalso
        apply c
        have e8 : k = 16 := by omega
        subst e8
        rw [Int32.le_iff_toInt_le]
        exact f5.2
    have ckk : ∀ {ρ : Type} (q : Option ρ), ck (nI k) 16 q = q := fun q => ck_nI (by omega) (by omega)
    simp only [ckk]
    have m1 : R 1 1 (1 : Int32) := ⟨by decide, by decide⟩
    have m9 : R (-1) (-1) (-1 : Int32) := ⟨by decide, by decide⟩
    have upx : ∀ v : Int32, R (-(k : Int)) k v → R (-(k : Int) - 1) (k + 1) (v + 1) := fun v f => r_w (r_add f m1 (e := -(k : Int) + 1) (f := (k : Int) + 1) ⟨⟨by omega, by omega⟩, rfl, rfl⟩) ⟨by omega, by omega⟩
    have dnx : ∀ v : Int32, R (-(k : Int)) k v → R (-(k : Int) - 1) (k + 1) (v + (-1)) := fun v f => r_w (r_add f m9 (e := -(k : Int) + -1) (f := (k : Int) + -1) ⟨⟨by omega, by omega⟩, rfl, rfl⟩) ⟨by omega, by omega⟩
    have stay : ∀ v : Int32, R (-(k : Int)) k v → R (-(k : Int) - 1) (k + 1) v := fun v f => r_w f ⟨by omega, by omega⟩
    refine s_jn2 (P := fun x y => R (-(k : Int) - 1) (k + 1) x ∧ R (-(k : Int) - 1) (k + 1) y) (fun x7 x8 q => ?_) (fun j6 kj => ?_)
    · refine s_lt (fun x9 e9 => ?_)
      have g7 : R (-16) 16 x7 := r_w q.1 ⟨by omega, by omega⟩
      have g8 : R (-16) 16 x8 := r_w q.2 ⟨by omega, by omega⟩
      have m20 : R 20 20 (20 : Int32) := ⟨by decide, by decide⟩
      have a1 : R 4 36 (x7 + 20) := r_add g7 m20 (by decide)
      have a2 : R 164 1476 (41 * (x7 + 20)) := r_mul (show R 41 41 (41 : Int32) from ⟨by decide, by decide⟩) a1 (by decide)
      have a3 : R 148 1492 (41 * (x7 + 20) + x8) := r_add a2 g8 (by decide)
      have a4 : R 168 1512 x9 := by rw [e9]; exact r_add a3 m20 (by decide)
      refine s_ck a4 (by decide) (s_ck a4 (by decide) ?_)
      rw [lt_e, nI_1]
      have e1 : -((k + 1 : Nat) : Int) = -(k : Int) - 1 := by omega
      have e2 : ((k + 1 : Nat) : Int) = (k : Int) + 1 := by omega
      exact ih (k + 1) x7 x8 _ (by omega) (by omega) (by rw [e1, e2]; exact q.1) (by rw [e1, e2]; exact q.2) (im_put i (show sp 136 (ix x9) = (-2147483648, 2147483647) from rfl) (r_full _) (by decide))
    · refine s_jn0 ?_ (fun j11 k11 => ?_)
      · exact s_if (fun _ => s_lt (fun x e => kj _ _ ⟨by rw [e]; exact upx v2 f2, stay v3 f3⟩)) (fun _ => s_lt (fun x e => kj _ _ ⟨by rw [e]; exact dnx v2 f2, stay v3 f3⟩))
      · exact s_if (fun _ => k11) (fun _ => s_if (fun _ => k11) (fun _ => s_if (fun _ => s_lt (fun x e => kj _ _ ⟨stay v2 f2, by rw [e]; exact upx v3 f3⟩)) (fun _ => s_lt (fun x e => kj _ _ ⟨stay v2 f2, by rw [e]; exact dnx v3 f3⟩))))
theorem cr19 (p1 : Int32) (k0 : PH → Option (Int32 × PH)) {Q : Int32 × PH → Prop} (hk : ∀ g, IM g → Sf (k0 g) Q) : ∀ (n k : Nat) (h : PH), 1681 < n + k → k ≤ 1681 → IM h → Sf (mm_crumbs_L19 p1 k0 n (nI k) h) Q := by
  intro n
  induction n with
  | zero => intro k h h1 h2; omega
  | succ n ih =>
    intro k h h1 h2 i
    rw [mm_crumbs_L19]
    by_cases hk1 : k = 1681
    · subst hk1
      rw [if_pos (show (1681 : Int32) ≤ nI 1681 by decide)]
      exact hk h i
    · rw [if_neg (show ¬ (1681 : Int32) ≤ nI k from nI_ge (b := 1681) (by omega) (by omega)), ck_nI (by omega) (by omega), lt_e, nI_1]
      exact ih (k + 1) _ (by omega) (by omega) (im_put i (show sp 136 (ix (nI k)) = (-2147483648, 2147483647) from rfl) (r_full _) (by decide))
theorem cr185 (h : PH) (i : IM h) : ∀ (n k : Nat) (v : Int32), 1681 < n + k → k ≤ 1681 → Sf (mm_crumbs_L185 h n v (nI k)) (fun r => R (-2147483648) 2147483647 r.1 ∧ IM r.2) := by
  intro n
  induction n with
  | zero => intro k v h1 h2; omega
  | succ n ih =>
    intro k v h1 h2
    rw [mm_crumbs_L185]
    by_cases hk1 : k = 1681
    · subst hk1
      rw [if_pos (show (1681 : Int32) ≤ nI 1681 by decide)]
      exact s_some ⟨r_full _, i⟩
    · rw [if_neg (show ¬ (1681 : Int32) ≤ nI k from nI_ge (b := 1681) (by omega) (by omega)), ck_nI (by omega) (by omega), nI_1]
      exact s_if (fun _ => ih (k + 1) v (by omega) (by omega)) (fun _ => s_lt (fun x _ => ih (k + 1) x (by omega) (by omega)))
theorem sf_m_crumbs (p1 : Int32) {h0 : PH} (i : IM h0) : Sf (mm_crumbs p1 h0) (fun r => R (-2147483648) 2147483647 r.1 ∧ IM r.2) := by
  unfold mm_crumbs
  rw [lt_e]
  have i1 : IM (up h0 104 0 0) := im_put i (show sp 104 0 = (-2147483648, 2147483647) from rfl) (r_full _) (by decide)
  refine s_isin (fun r2 _ _ => ?_)
  refine s_if (fun _ => s_some ⟨r_full _, i1⟩) (fun _ => ?_)
  have key : ∀ k0 : PH → Option (Int32 × PH), (∀ g, IM g → Sf (k0 g) (fun r => R (-2147483648) 2147483647 r.1 ∧ IM r.2)) → Sf (mm_crumbs_L19 p1 k0 FU 0 (up h0 104 0 0)) (fun r => R (-2147483648) 2147483647 r.1 ∧ IM r.2) := fun k0 hk => by
    have := cr19 p1 k0 hk FU 0 (up h0 104 0 0) (by unfold FU; omega) (by omega) i1
    rw [nI_0] at this
    exact this
  refine key _ (fun h4 i4 => ?_)
  refine s_ck (show R 840 840 (840 : Int32) from ⟨by decide, by decide⟩) (by decide) ?_
  rw [lt_e]
  have i5 : IM (up h4 136 (ix 840) 1) := im_put i4 (show sp 136 (ix 840) = (-2147483648, 2147483647) from rfl) (r_full _) (by decide)
  have key2 : ∀ k0 : Int32 → Int32 → PH → Option (Int32 × PH), (∀ x y g, IM g → Sf (k0 x y g) (fun r => R (-2147483648) 2147483647 r.1 ∧ IM r.2)) → Sf (mm_crumbs_L55 p1 k0 FU 0 0 0 (up h4 136 (ix 840) 1)) (fun r => R (-2147483648) 2147483647 r.1 ∧ IM r.2) := fun k0 hk => by
    have z : R (-((0 : Nat) : Int)) ((0 : Nat) : Int) (0 : Int32) := ⟨by decide, by decide⟩
    have := cr55 p1 k0 hk FU 0 0 0 (up h4 136 (ix 840) 1) (by unfold FU; omega) (by omega) z z i5
    rw [nI_0] at this
    exact this
  refine key2 _ (fun x16 x17 h18 i18 => ?_)
  refine s_if (fun _ => ?_) (fun _ => ?_)
  · refine s_bd (sf_m_apart x16 0 i18) (fun r19 _ => ?_)
    refine s_bd (sf_m_apart x17 0 i18) (fun r20 _ => ?_)
    exact s_some ⟨r_full _, i18⟩
  · have := cr185 h18 i18 FU 0 0 (by unfold FU; omega) (by omega)
    rw [nI_0] at this
    exact this
