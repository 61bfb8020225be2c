section
/-! SAFETY of the model, by hand: pans by the first that has room; crumbs -/
theorem fp15 (p1 : Int32) (a b : Nat) (hab : a ≤ b) (hb : b ≤ 7) (h : PH) (k0 : Int32 → Option (Int32 × PH)) {Q : Int32 × PH → Prop} (hk : ∀ c : Nat, c ≤ a → Sf (k0 (nI c)) Q) : ∀ (n c : Nat), a < n + c → c ≤ a → Sf (mm_firstPans_L15 p1 (nI a) (nI b) h k0 n (nI c)) Q := by
  intro n
  induction n with
  | zero => intro c h1 h2; omega
  | succ n ih =>
    intro c h1 h2
    rw [mm_firstPans_L15]
    by_cases hc : c = a
    · subst hc
      rw [if_pos (nI_le (Nat.le_refl _) (by omega))]
      exact hk c (Nat.le_refl _)
    · rw [if_neg (nI_ge (by omega) (by omega)), ck_nI (by omega) (by omega), ck_nI (by omega) (by omega)]
      refine s_if (fun _ => hk c (by omega)) (fun _ => ?_)
      rw [lt_e, nI_1]
      exact ih (c + 1) (by omega) (by omega)
theorem fp4 (p1 : Int32) : ∀ (n a b : Nat) (h : PH), 8 < n + b → b ≤ 8 → a ≤ b → IM h → Sf (mm_firstPans_L4 p1 n (nI a) (nI b) h) (fun r => R (-2147483648) 2147483647 r.1 ∧ IM r.2) := by
  intro n
  induction n with
  | zero => intro a b h h1 h2; omega
  | succ n ih =>
    intro a b h h1 h2 hab i
    rw [mm_firstPans_L4]
    have f5 : R 0 8 (h 104 45) := inv_rng i.1 rfl
    refine s_if (fun _ => s_some ⟨r_full _, i⟩) (fun c => ?_)
    have hb : b ≤ 7 := by
      rcases Nat.lt_or_ge b 8 with q | q
      · omega
      · exfalso
        apply c
        have e8 : b = 8 := by omega
        subst e8
        rw [Int32.le_iff_toInt_le]
        exact f5.2
    have key := fp15 p1 a b hab hb h (fun (x2 : Int32) =>
        jn2 (fun (x4 : Int32) (h5 : PH) =>
          ck x2 8 <|
          ck (nI b) 8 <|
          ck x2 8 <|
          lt (up h5 131 (ix x2) ((h5 131 (ix x2)) - (h5 129 (ix (nI b))))) fun h6 =>
          mm_firstPans_L4 p1 n x4 (nI b + 1) h6) fun j3 =>
        if x2 = nI a then
          ck x2 8 <|
          lt (up h 131 (ix x2) p1) fun h7 =>
          lt (nI a + 1) fun x8 =>
          j3 x8 h7
        else
          j3 (nI a) h) (Q := fun r => R (-2147483648) 2147483647 r.1 ∧ IM r.2) (fun c hc => ?_) FU 0 (by unfold FU; omega) (by omega)
    · rw [nI_0] at key
      exact key
    · have w : ∀ (g : PH) (j : Nat) (v : Int32), IM g → IM (up g 131 j v) := fun g j v ig => im_put ig (show sp 131 j = (-2147483648, 2147483647) from rfl) (r_full v) (by decide)
      refine s_jn2 (P := fun x g => IM g ∧ ∃ a' : Nat, a' ≤ b + 1 ∧ x = nI a') (fun x4 h5 q => ?_) (fun j3 kj => ?_)
      · obtain ⟨i5, a', ha', rfl⟩ := q
        rw [ck_nI (by omega) (by omega), ck_nI (by omega) (by omega), ck_nI (by omega) (by omega), lt_e, nI_1]
        exact ih a' (b + 1) _ (by omega) (by omega) ha' (w _ _ _ i5)
      · refine s_if (fun _ => ?_) (fun _ => kj _ _ ⟨i, a, by omega, rfl⟩)
        rw [ck_nI (by omega) (by omega), lt_e, lt_e, nI_1]
        exact kj _ _ ⟨w _ _ _ i, a + 1, by omega, rfl⟩
theorem sf_m_firstPans (p1 : Int32) {h0 : PH} (i : IM h0) : Sf (mm_firstPans p1 h0) (fun r => R (-2147483648) 2147483647 r.1 ∧ IM r.2) := by
  unfold mm_firstPans
  have := fp4 p1 FU 0 0 h0 (by unfold FU; omega) (by omega) (by omega) i
  rw [nI_0] at this
  exact this
/-- one step of the crumbs -/
theorem cr55 (p1 : Int32) (k0 : Int32 → Int32 → PH → Option (Int32 × PH)) {Q : Int32 × PH → Prop} (hk : ∀ x y g, IM g → Sf (k0 x y g) Q) : ∀ (n k : Nat) (v2 v3 : Int32) (h : PH), 16 < n + k → k ≤ 16 → R (-(k : Int)) k v2 → R (-(k : Int)) k v3 → IM h → Sf (mm_crumbs_L55 p1 k0 n v2 v3 (nI k) h) Q := by
  intro n
  induction n with
  | zero => intro k v2 v3 h h1 h2; omega
  | succ n ih =>
    intro k v2 v3 h h1 h2 f2 f3 i
    rw [mm_crumbs_L55]
    have f5 : R 0 16 (h 104 54) := inv_rng i.1 rfl
    refine s_if (fun _ => hk _ _ _ i) (fun c => ?_)
    have hk15 : k ≤ 15 := by
      rcases Nat.lt_or_ge k 16 with q | q
      · omega
      · exfalso
        apply c
        have e8 : k = 16 := by omega
        subst e8
        rw [Int32.le_iff_toInt_le]
        exact f5.2
    have ckk : ∀ {ρ : Type} (q : Option ρ), ck (nI k) 16 q = q := fun q => ck_nI (by omega) (by omega)
    simp only [ckk]
    have m1 : R 1 1 (1 : Int32) := ⟨by decide, by decide⟩
    have m9 : R (-1) (-1) (-1 : Int32) := ⟨by decide, by decide⟩
    have upx : ∀ v : Int32, R (-(k : Int)) k v → R (-(k : Int) - 1) (k + 1) (v + 1) := fun v f => r_w (r_add f m1 (e := -(k : Int) + 1) (f := (k : Int) + 1) ⟨⟨by omega, by omega⟩, rfl, rfl⟩) ⟨by omega, by omega⟩
    have dnx : ∀ v : Int32, R (-(k : Int)) k v → R (-(k : Int) - 1) (k + 1) (v + (-1)) := fun v f => r_w (r_add f m9 (e := -(k : Int) + -1) (f := (k : Int) + -1) ⟨⟨by omega, by omega⟩, rfl, rfl⟩) ⟨by omega, by omega⟩
    have stay : ∀ v : Int32, R (-(k : Int)) k v → R (-(k : Int) - 1) (k + 1) v := fun v f => r_w f ⟨by omega, by omega⟩
    refine s_jn2 (P := fun x y => R (-(k : Int) - 1) (k + 1) x ∧ R (-(k : Int) - 1) (k + 1) y) (fun x7 x8 q => ?_) (fun j6 kj => ?_)
    · refine s_lt (fun x9 e9 => ?_)
      have g7 : R (-16) 16 x7 := r_w q.1 ⟨by omega, by omega⟩
      have g8 : R (-16) 16 x8 := r_w q.2 ⟨by omega, by omega⟩
      have m20 : R 20 20 (20 : Int32) := ⟨by decide, by decide⟩
      have a1 : R 4 36 (x7 + 20) := r_add g7 m20 (by decide)
      have a2 : R 164 1476 (41 * (x7 + 20)) := r_mul (show R 41 41 (41 : Int32) from ⟨by decide, by decide⟩) a1 (by decide)
      have a3 : R 148 1492 (41 * (x7 + 20) + x8) := r_add a2 g8 (by decide)
      have a4 : R 168 1512 x9 := by rw [e9]; exact r_add a3 m20 (by decide)
      refine s_ck a4 (by decide) (s_ck a4 (by decide) ?_)
      rw [lt_e, nI_1]
      have e1 : -((k + 1 : Nat) : Int) = -(k : Int) - 1 := by omega
      have e2 : ((k + 1 : Nat) : Int) = (k : Int) + 1 := by omega
      exact ih (k + 1) x7 x8 _ (by omega) (by omega) (by rw [e1, e2]; exact q.1) (by rw [e1, e2]; exact q.2) (im_put i (show sp 136 (ix x9) = (-2147483648, 2147483647) from rfl) (r_full _) (by decide))
    · refine s_jn0 ?_ (fun j11 k11 => ?_)
      · exact s_if (fun _ => s_lt (fun x e => kj _ _ ⟨by rw [e]; exact upx v2 f2, stay v3 f3⟩)) (fun _ => s_lt (fun x e => kj _ _ ⟨by rw [e]; exact dnx v2 f2, stay v3 f3⟩))
      · exact s_if (fun _ => k11) (fun _ => s_if (fun _ => k11) (fun _ => s_if (fun _ => s_lt (fun x e => kj _ _ ⟨stay v2 f2, by rw [e]; exact upx v3 f3⟩)) (fun _ => s_lt (fun x e => kj _ _ ⟨stay v2 f2, by rw [e]; exact dnx v3 f3⟩))))
theorem cr19 (p1 : Int32) (k0 : PH → Option (Int32 × PH)) {Q : Int32 × PH → Prop} (hk : ∀ g, IM g → Sf (k0 g) Q) : ∀ (n k : Nat) (h : PH), 1681 < n + k → k ≤ 1681 → IM h → Sf (mm_crumbs_L19 p1 k0 n (nI k) h) Q := by
  intro n
  induction n with
  | zero => intro k h h1 h2; omega
  | succ n ih =>
    intro k h h1 h2 i
    rw [mm_crumbs_L19]
    by_cases hk1 : k = 1681
    · subst hk1
      rw [if_pos (show (1681 : Int32) ≤ nI 1681 by decide)]
      exact hk h i
    · rw [if_neg (show ¬ (1681 : Int32) ≤ nI k from nI_ge (b := 1681) (by omega) (by omega)), ck_nI (by omega) (by omega), lt_e, nI_1]
      exact ih (k + 1) _ (by omega) (by omega) (im_put i (show sp 136 (ix (nI k)) = (-2147483648, 2147483647) from rfl) (r_full _) (by decide))
theorem cr185 (h : PH) (i : IM h) : ∀ (n k : Nat) (v : Int32), 1681 < n + k → k ≤ 1681 → Sf (mm_crumbs_L185 h n v (nI k)) (fun r => R (-2147483648) 2147483647 r.1 ∧ IM r.2) := by
  intro n
  induction n with
  | zero => intro k v h1 h2; omega
  | succ n ih =>
    intro k v h1 h2
    rw [mm_crumbs_L185]
    by_cases hk1 : k = 1681
    · subst hk1
      rw [if_pos (show (1681 : Int32) ≤ nI 1681 by decide)]
      exact s_some ⟨r_full _, i⟩
    · rw [if_neg (show ¬ (1681 : Int32) ≤ nI k from nI_ge (b := 1681) (by omega) (by omega)), ck_nI (by omega) (by omega), nI_1]
      exact s_if (fun _ => ih (k + 1) v (by omega) (by omega)) (fun _ => s_lt (fun x _ => ih (k + 1) x (by omega) (by omega)))
theorem sf_m_crumbs (p1 : Int32) {h0 : PH} (i : IM h0) : Sf (mm_crumbs p1 h0) (fun r => R (-2147483648) 2147483647 r.1 ∧ IM r.2) := by
  unfold mm_crumbs
  rw [lt_e]
  have i1 : IM (up h0 104 0 0) := im_put i (show sp 104 0 = (-2147483648, 2147483647) from rfl) (r_full _) (by decide)
  refine s_isin (fun r2 _ _ => ?_)
  refine s_if (fun _ => s_some ⟨r_full _, i1⟩) (fun _ => ?_)
  have key : ∀ k0 : PH → Option (Int32 × PH), (∀ g, IM g → Sf (k0 g) (fun r => R (-2147483648) 2147483647 r.1 ∧ IM r.2)) → Sf (mm_crumbs_L19 p1 k0 FU 0 (up h0 104 0 0)) (fun r => R (-2147483648) 2147483647 r.1 ∧ IM r.2) := fun k0 hk => by
    have := cr19 p1 k0 hk FU 0 (up h0 104 0 0) (by unfold FU; omega) (by omega) i1
    rw [nI_0] at this
    exact this
  refine key _ (fun h4 i4 => ?_)
  refine s_ck (show R 840 840 (840 : Int32) from ⟨by decide, by decide⟩) (by decide) ?_
  rw [lt_e]
  have i5 : IM (up h4 136 (ix 840) 1) := im_put i4 (show sp 136 (ix 840) = (-2147483648, 2147483647) from rfl) (r_full _) (by decide)
  have key2 : ∀ k0 : Int32 → Int32 → PH → Option (Int32 × PH), (∀ x y g, IM g → Sf (k0 x y g) (fun r => R (-2147483648) 2147483647 r.1 ∧ IM r.2)) → Sf (mm_crumbs_L55 p1 k0 FU 0 0 0 (up h4 136 (ix 840) 1)) (fun r => R (-2147483648) 2147483647 r.1 ∧ IM r.2) := fun k0 hk => by
    have z : R (-((0 : Nat) : Int)) ((0 : Nat) : Int) (0 : Int32) := ⟨by decide, by decide⟩
    have := cr55 p1 k0 hk FU 0 0 0 (up h4 136 (ix 840) 1) (by unfold FU; omega) (by omega) z z i5
    rw [nI_0] at this
    exact this
  refine key2 _ (fun x16 x17 h18 i18 => ?_)
  refine s_if (fun _ => ?_) (fun _ => ?_)
  · refine s_bd (sf_m_apart x16 0 i18) (fun r19 _ => ?_)
    refine s_bd (sf_m_apart x17 0 i18) (fun r20 _ => ?_)
    exact s_some ⟨r_full _, i18⟩
  · have := cr185 h18 i18 FU 0 0 (by unfold FU; omega) (by omega)
    rw [nI_0] at this
    exact this
end
section
/-! SAFETY of the model's ovens: the orders go up, so they come to an end -/
def OI (h : PH) (m : Nat) : Prop := ∀ j, j < m → ∀ l, l < m → h 139 j = h 139 l → j = l
def cdO (h : PH) : Int := 7776 * (h 139 0).toInt + 1296 * (h 139 1).toInt + 216 * (h 139 2).toInt + 36 * (h 139 3).toInt + 6 * (h 139 4).toInt + (h 139 5).toInt
theorem rO {h : PH} (i : IM h) (j : Nat) : R 0 5 (h 139 j) := inv_rng i.1 rfl
theorem putO {h : PH} (i : IM h) (j : Nat) {v : Int32} (f : R 0 5 v) : IM (up h 139 j v) := im_put i (show sp 139 j = (0, 5) from rfl) f (by decide)
theorem cd_le {h : PH} (i : IM h) : 0 ≤ cdO h ∧ cdO h ≤ 46655 := by
  have a0 := rO i 0
  have a1 := rO i 1
  have a2 := rO i 2
  have a3 := rO i 3
  have a4 := rO i 4
  have a5 := rO i 5
  unfold R at a0 a1 a2 a3 a4 a5
  unfold cdO
  omega
theorem cd_up {h g : PH} (i : IM h) (ig : IM g) (q : Nat) (hq : q < 5) (hs : ∀ j, j < q → g 139 j = h 139 j) (hl : (h 139 q).toInt < (g 139 q).toInt) : cdO h < cdO g := by
  have a0 := rO i 0
  have a1 := rO i 1
  have a2 := rO i 2
  have a3 := rO i 3
  have a4 := rO i 4
  have a5 := rO i 5
  have b0 := rO ig 0
  have b1 := rO ig 1
  have b2 := rO ig 2
  have b3 := rO ig 3
  have b4 := rO ig 4
  have b5 := rO ig 5
  unfold R at a0 a1 a2 a3 a4 a5 b0 b1 b2 b3 b4 b5
  unfold cdO
  match q, hq, hs, hl with
  | 0, _, hs, hl => omega
  | 1, _, hs, hl => rw [hs 0 (by decide)]; omega
  | 2, _, hs, hl => rw [hs 0 (by decide), hs 1 (by decide)]; omega
  | 3, _, hs, hl => rw [hs 0 (by decide), hs 1 (by decide), hs 2 (by decide)]; omega
  | 4, _, hs, hl => rw [hs 0 (by decide), hs 1 (by decide), hs 2 (by decide), hs 3 (by decide)]; omega
  | q + 5, hq, _, _ => omega
theorem swO {h : PH} {m a b : Nat} (o : OI h m) (ha : a < m) (hb : b < m) : OI (up (up h 139 a (h 139 b)) 139 b (h 139 a)) m := by
  intro j hj l hl e
  simp only [up_at, if_true] at e
  by_cases j1 : j = b
  · by_cases l1 : l = b
    · rw [j1, l1]
    · by_cases l2 : l = a
      · simp only [j1, l1, l2, if_true, if_false] at e
        have := o a ha b hb (by
          by_cases q : a = b
          · rw [q]
          · simpa [q] using e)
        rw [j1, l2, this]
      · simp only [j1, l1, l2, if_true, if_false] at e
        exact absurd (o a ha l hl e).symm l2
  · by_cases j2 : j = a
    · by_cases l1 : l = b
      · have ab : ¬ a = b := fun q => j1 (by rw [j2, q])
        simp only [j2, ab, l1, if_true, if_false] at e
        exact absurd (o b hb a ha e).symm ab
      · by_cases l2 : l = a
        · rw [j2, l2]
        · have ab : ¬ a = b := fun q => j1 (by rw [j2, q])
          simp only [j2, ab, l1, l2, if_true, if_false] at e
          exact absurd (o b hb l hl e).symm l1
    · by_cases l1 : l = b
      · simp only [j1, j2, l1, if_true, if_false] at e
        exact absurd (o j hj a ha e) j2
      · by_cases l2 : l = a
        · have ab : ¬ a = b := fun q => l1 (by rw [l2, q])
          simp only [j1, j2, l2, ab, if_true, if_false] at e
          exact absurd (o j hj b hb e) j1
        · simp only [j1, j2, l1, l2, if_false] at e
          exact o j hj l hl e
theorem rev109 (m i : Nat) (hm : m ≤ 6) (o : PH) : ∀ (n a b : Nat) (h : PH), b + 1 < n + a → 1 ≤ n → b < m → i < a → a ≤ 7 → IM h → OI h m → (∀ j, j ≤ i → h 139 j = o 139 j) → h 104 57 = nI m → Sf (mm_goesToNextOrder_L109 n (nI b) (nI a) h) (fun r => r.1 = 1 ∧ IM r.2 ∧ OI r.2 m ∧ (∀ j, j ≤ i → r.2 139 j = o 139 j) ∧ r.2 104 57 = nI m) := by
  intro n
  induction n with
  | zero =>
    intro a b h h1 hn h2 h3 h3b ii oi fr e
    omega
  | succ n ih =>
    intro a b h h1 hn h2 h3 h3b ii oi fr e
    rw [mm_goesToNextOrder_L109]
    by_cases hab : b ≤ a
    · rw [if_pos (nI_le hab (by omega))]
      exact s_some ⟨rfl, ii, oi, fr, e⟩
    · rw [if_neg (nI_ge (by omega) (by omega)), ck_nI (by omega) (by omega), lt_e, ck_nI (by omega) (by omega), ck_nI (by omega) (by omega), lt_e, ck_nI (by omega) (by omega), lt_e, lt_e, show ix (nI a) = a from nI_clamp (by omega), show ix (nI b) = b from nI_clamp (by omega), nI_1]
      obtain ⟨c, rfl⟩ : ∃ c, b = c + 1 := ⟨b - 1, by omega⟩
      rw [nI_pred]
      refine ih (a + 1) c _ (by omega) (by omega) (by omega) (by omega) (by omega) (putO (putO ii a (rO ii _)) _ (rO ii a)) (swO oi (by omega) h2) (fun j hj => ?_) (by rw [up_oc (by decide), up_oc (by decide)]; exact e)
      have j1 : ¬ j = c + 1 := by omega
      have j2 : ¬ j = a := by omega
      rw [← fr j hj]
      simp [up_at, j1, j2]
theorem nx48 (m i : Nat) (him : i + 1 < m) (hm : m ≤ 6) (h : PH) (hle : (h 139 i).toInt ≤ (h 139 (i + 1)).toInt) (k0 : Int32 → Option (Int32 × PH)) {Q : Int32 × PH → Prop} (hk : ∀ k, i < k → k < m → (h 139 i).toInt ≤ (h 139 k).toInt → Sf (k0 (nI k)) Q) : ∀ (n k : Nat), k < n + i → i < k → k < m → Sf (mm_goesToNextOrder_L48 (nI i) h k0 n (nI k)) Q := by
  intro n
  induction n with
  | zero => intro k h1 h2; omega
  | succ n ih =>
    intro k h1 h2 h3
    rw [mm_goesToNextOrder_L48, ck_nI (by omega) (by omega), ck_nI (by omega) (by omega), show ix (nI i) = i from nI_clamp (by omega), show ix (nI k) = k from nI_clamp (by omega)]
    refine s_if (fun c => ?_) (fun c => ?_)
    · rw [Int32.le_iff_toInt_le] at c
      exact hk k h2 h3 c
    · rw [Int32.le_iff_toInt_le] at c
      have : ¬ k = i + 1 := fun q => by subst q; exact c hle
      obtain ⟨k', rfl⟩ : ∃ k', k = k' + 1 := ⟨k - 1, by omega⟩
      rw [lt_e, nI_pred]
      exact ih k' (by omega) (by omega) (by omega)
theorem nx7 (m : Nat) (hm : m ≤ 6) (h : PH) (k0 : Int32 → Option (Int32 × PH)) {Q : Int32 × PH → Prop} (hk0 : ∀ x : Int32, x < 0 → Sf (k0 x) Q) (hk : ∀ i, i + 1 < m → (h 139 i).toInt ≤ (h 139 (i + 1)).toInt → Sf (k0 (nI i)) Q) : ∀ (n i : Nat), i + 1 < n → i + 1 < m → Sf (mm_goesToNextOrder_L7 h k0 n (nI i)) Q := by
  intro n
  induction n with
  | zero =>
    intro i h1 h2
    omega
  | succ n ih =>
    intro i h1 h2
    rw [mm_goesToNextOrder_L7, if_neg (nI_pos (by omega)), ck_nI (by omega) (by omega), nI_1, ck_nI (by omega) (by omega), show ix (nI i) = i from nI_clamp (by omega), show ix (nI (i + 1)) = i + 1 from nI_clamp (by omega)]
    refine s_if (fun c => ?_) (fun c => ?_)
    · rw [Int32.le_iff_toInt_le] at c
      exact hk i h2 c
    · rw [lt_e]
      match i, h1, h2 with
      | 0, h1, _ =>
        obtain ⟨n', rfl⟩ : ∃ n', n = n' + 1 := ⟨n - 1, by omega⟩
        rw [mm_goesToNextOrder_L7, if_pos (show nI 0 - 1 < 0 by decide)]
        exact hk0 _ (by decide)
      | i + 1, h1, h2 =>
        rw [nI_pred]
        exact ih i (by omega) (by omega)
theorem sf_next (h : PH) (m : Nat) (hm : m ≤ 6) (i : IM h) (oi : OI h m) (e : h 104 57 = nI m) : Sf (mm_goesToNextOrder h) (fun r => IM r.2 ∧ (r.1 = 0 ∨ (r.1 = 1 ∧ OI r.2 m ∧ r.2 104 57 = nI m ∧ cdO h < cdO r.2))) := by
  unfold mm_goesToNextOrder
  rw [lt_e, e]
  have stop : ∀ x : Int32, x < 0 → Sf (if 0 ≤ x then
      lt (nI m - 1) fun x4 =>
      mm_goesToNextOrder_L48 x h (fun (x6 : Int32) =>
        ck x 6 <|
        lt (h 139 (ix x)) fun x7 =>
        ck x6 6 <|
        ck x 6 <|
        lt (up h 139 (ix x) (h 139 (ix x6))) fun h8 =>
        ck x6 6 <|
        lt (up h8 139 (ix x6) x7) fun h9 =>
        lt ((h9 104 57) - 1) fun x10 =>
        lt (x + 1) fun x11 =>
        mm_goesToNextOrder_L109 FU x10 x11 h9) FU x4
    else
      some (0, h)) (fun r => IM r.2 ∧ (r.1 = 0 ∨ (r.1 = 1 ∧ OI r.2 m ∧ r.2 104 57 = nI m ∧ cdO h < cdO r.2))) := fun x hx => by
    rw [if_neg (Int32.not_le.mpr hx)]
    exact s_some ⟨i, Or.inl rfl⟩
  match m, hm, oi, e, stop with
  | 0, _, _, _, stop =>
    rw [show FU = 99999 + 1 from rfl, mm_goesToNextOrder_L7, if_pos (show nI 0 - 2 < 0 by decide)]
    exact stop _ (by decide)
  | 1, _, _, _, stop =>
    rw [show FU = 99999 + 1 from rfl, mm_goesToNextOrder_L7, if_pos (show nI 1 - 2 < 0 by decide)]
    exact stop _ (by decide)
  | m + 2, hm, oi, e, stop =>
    rw [show nI (m + 2) - 2 = nI m from by rw [show (2 : Int32) = nI 2 from rfl, nI_sub (by omega)]; rfl]
    refine nx7 (m + 2) hm h _ stop (fun q hq hle => ?_) FU m (by unfold FU; omega) (by omega)
    rw [if_pos (nI_pos' (by omega)), lt_e, nI_pred]
    refine nx48 (m + 2) q hq hm h hle _ (fun k hk1 hk2 hk3 => ?_) FU (m + 1) (by unfold FU; omega) (by omega) (by omega)
    rw [ck_nI (by omega) (by omega), lt_e, ck_nI (by omega) (by omega), ck_nI (by omega) (by omega), lt_e, ck_nI (by omega) (by omega), lt_e, lt_e, lt_e, show ix (nI q) = q from nI_clamp (by omega), show ix (nI k) = k from nI_clamp (by omega), nI_1]
    have e9 : up (up h 139 q (h 139 k)) 139 k (h 139 q) 104 57 = nI (m + 2) := by rw [up_oc (by decide), up_oc (by decide)]; exact e
    rw [e9, nI_pred]
    have i9 : IM (up (up h 139 q (h 139 k)) 139 k (h 139 q)) := putO (putO i q (rO i k)) k (rO i q)
    refine s_w (rev109 (m + 2) q hm (up (up h 139 q (h 139 k)) 139 k (h 139 q)) FU (q + 1) (m + 1) _ (by unfold FU; omega) (by unfold FU; omega) (by omega) (by omega) (by omega) i9 (swO oi (by omega) hk2) (fun _ _ => rfl) e9) (fun r hr => ?_)
    obtain ⟨r1, r2, r3, r4, r5⟩ := hr
    refine ⟨r2, Or.inr ⟨r1, r3, r5, cd_up i r2 q (by omega) (fun j hj => ?_) ?_⟩⟩
    · rw [r4 j (by omega)]
      have j1 : ¬ j = k := by omega
      have j2 : ¬ j = q := by omega
      simp [up_at, j1, j2]
    · rw [r4 q (Nat.le_refl _)]
      have kq : ¬ q = k := by omega
      have e1 : up (up h 139 q (h 139 k)) 139 k (h 139 q) 139 q = h 139 k := by simp [up_at, kq]
      rw [e1]
      have ne : ¬ (h 139 q).toInt = (h 139 k).toInt := fun w => by
        have := oi q (by omega) k hk2 (Int32.toInt_inj.mp w)
        omega
      omega
end
section
/-! SAFETY of the model's ovens, the call -/
theorem dn6 (h : PH) (i : IM h) : ∀ (n : Nat) (v1 v2 v3 : Int32), 6 - v3.toInt < (n : Int) → R 0 6 v3 → Sf (mm_doneBy_L6 h n v1 v2 v3) (fun r => R (-2147483648) 2147483647 r) := by
  intro n
  induction n with
  | zero => intro v1 v2 v3 hf f; have := f.2; omega
  | succ n ih =>
    intro v1 v2 v3 hf f
    rw [mm_doneBy_L6]
    have fm : R 0 6 (h 104 57) := inv_rng i.1 rfl
    refine s_if (fun _ => s_some (r_full _)) (fun c => ?_)
    have f5 : R 0 5 v3 := lt_hi f fm (nle_lt c) (by decide)
    refine s_ck f5 (by decide) (s_ck (rO i _) (by decide) ?_)
    rw [lt_e]
    refine s_bd (sf_m_greater _ _ i) (fun r2 _ => ?_)
    refine s_ck f5 (by decide) (s_ck (rO i _) (by decide) ?_)
    rw [lt_e]
    exact ih _ _ (v3 + 1) (fu_su hf (i_inc f5 (k := 1) rfl (by decide)) (by decide)) (r_w (r_add f5 (show R 1 1 (1 : Int32) from ⟨by decide, by decide⟩) (e := 1) (f := 6) (by decide)) (by decide))
theorem sf_m_doneBy (h : PH) (i : IM h) : Sf (mm_doneBy h) (fun r => R (-2147483648) 2147483647 r) := dn6 h i FU 0 0 0 (fu_up (show R 0 0 (0 : Int32) from ⟨by decide, by decide⟩) (by decide)) ⟨by decide, by decide⟩
theorem ov70 (p1 p2 p4 : Int32) (o : PH) (k0 : PH → Option (Int32 × PH)) {Q : Int32 × PH → Prop} (hk : ∀ g, IM g → (∀ b, b ≠ 140 → g b = o b) → Sf (k0 g) Q) : ∀ (n : Nat) (v5 : Int32) (h : PH), 6 - v5.toInt < (n : Int) → R 0 6 v5 → IM h → (∀ b, b ≠ 140 → h b = o b) → Sf (mm_ovens_L70 p1 p2 p4 k0 n v5 h) Q := by
  intro n
  induction n with
  | zero => intro v5 h hf f; have := f.2; omega
  | succ n ih =>
    intro v5 h hf f i fr
    rw [mm_ovens_L70]
    have fm : R 0 6 (h 104 57) := inv_rng i.1 rfl
    refine s_if (fun _ => hk h i fr) (fun c => ?_)
    refine s_if (fun _ => hk h i fr) (fun _ => ?_)
    have f5 : R 0 5 v5 := lt_hi f fm (nle_lt c) (by decide)
    refine s_ck f5 (by decide) (s_ck f5 (by decide) ?_)
    rw [lt_e]
    exact ih (v5 + 1) _ (fu_su hf (i_inc f5 (k := 1) rfl (by decide)) (by decide)) (r_w (r_add f5 (show R 1 1 (1 : Int32) from ⟨by decide, by decide⟩) (e := 1) (f := 6) (by decide)) (by decide)) (im_put i (show sp 140 _ = (0, 5) from rfl) (rO i _) (by decide)) (fun b hb => by rw [← fr b hb]; funext j; simp [up_at, hb])
theorem cd_fr {h g : PH} (e : g 139 = h 139) : cdO g = cdO h := by unfold cdO; rw [e]
theorem oi_fr {h g : PH} {m : Nat} (e : g 139 = h 139) (o : OI h m) : OI g m := by unfold OI; rw [e]; exact o
theorem ov57 (p1 : Int32) (m : Nat) (hm : m ≤ 6) (k0 : Int32 → PH → Option (Int32 × PH)) {Q : Int32 × PH → Prop} (hk : ∀ x g, IM g → Sf (k0 x g) Q) : ∀ (n : Nat) (v2 v3 : Int32) (h : PH), 1 ≤ n → IM h → (v3 = 0 ∨ (v3 = 1 ∧ OI h m ∧ h 104 57 = nI m ∧ 46656 - cdO h < (n : Int))) → Sf (mm_ovens_L57 p1 k0 n v2 v3 h) Q := by
  intro n
  induction n with
  | zero => intro v2 v3 h h1; omega
  | succ n ih =>
    intro v2 v3 h h1 i st
    rw [mm_ovens_L57]
    refine s_if (fun _ => hk _ _ i) (fun c => ?_)
    rcases st with q | ⟨q, oi, e, hn⟩
    · exact absurd q c
    · have cl := cd_le i
      refine s_bd (sf_m_doneBy h i) (fun r5 _ => ?_)
      refine ov70 p1 v2 r5 h _ (fun h7 i7 f7 => ?_) FU 0 h (fu_up (show R 0 0 (0 : Int32) from ⟨by decide, by decide⟩) (by decide)) ⟨by decide, by decide⟩ i (fun _ _ => rfl)
      refine s_bd (sf_m_lesser v2 r5 i7) (fun r8 _ => ?_)
      have e139 := f7 139 (by decide)
      refine s_bd2 (sf_next h7 m hm i7 (oi_fr e139 oi) (by rw [f7 104 (by decide)]; exact e)) (fun r9 h10 hr => ?_)
      obtain ⟨i10, w⟩ := hr
      refine ih r8 r9 h10 (by omega) i10 ?_
      rcases w with w | ⟨w1, w2, w3, w4⟩
      · exact Or.inl w
      · refine Or.inr ⟨w1, w2, w3, ?_⟩
        have w4 : cdO h7 < cdO h10 := w4
        rw [cd_fr e139] at w4
        omega
theorem ov30 (p1 : Int32) (m : Nat) (hm : m ≤ 6) (k0 : PH → Option (Int32 × PH)) {Q : Int32 × PH → Prop} (hk : ∀ g, IM g → OI g m → g 104 57 = nI m → Sf (k0 g) Q) : ∀ (n k : Nat) (h : PH), m < n + k → k ≤ m → IM h → h 104 57 = nI m → (∀ j, j < k → h 139 j = nI j) → Sf (mm_ovens_L30 p1 k0 n (nI k) h) Q := by
  intro n
  induction n with
  | zero => intro k h h1 h2; omega
  | succ n ih =>
    intro k h h1 h2 i e fr
    rw [mm_ovens_L30, e]
    by_cases hkm : k = m
    · subst hkm
      rw [if_pos (nI_le (Nat.le_refl _) (by omega))]
      refine hk h i (fun j hj l hl q => ?_) e
      rw [fr j hj, fr l hl] at q
      exact (nI_eq (by omega) (by omega)).mp q
    · rw [if_neg (nI_ge (by omega) (by omega)), ck_nI (by omega) (by omega), lt_e, nI_1, show ix (nI k) = k from nI_clamp (by omega)]
      refine ih (k + 1) _ (by omega) (by omega) (putO i k ⟨by rw [nI_toInt (by omega)]; omega, by rw [nI_toInt (by omega)]; omega⟩) (by rw [up_oc (by decide)]; exact e) (fun j hj => ?_)
      by_cases jk : j = k
      · subst jk; exact up_same
      · rw [up_oj jk]; exact fr j (by omega)
theorem sf_m_ovens (p1 : Int32) {h0 : PH} (i : IM h0) : Sf (mm_ovens p1 h0) (fun r => R (-2147483648) 2147483647 r.1 ∧ IM r.2) := by
  unfold mm_ovens
  rw [lt_e, jn0_e]
  have i1 : IM (up h0 104 0 0) := im_put i (show sp 104 0 = (-2147483648, 2147483647) from rfl) (r_full _) (by decide)
  have fm : R 0 6 (up h0 104 0 0 104 57) := inv_rng i1.1 rfl
  obtain ⟨m, m1, m2, em⟩ := nat_of fm (by decide)
  have go : (p1 = 0 ∨ R 10 15 p1) → Sf (mm_ovens_L30 p1 (fun (h4 : PH) =>
      mm_ovens_L57 p1 (fun (x11 : Int32) (h12 : PH) =>
        if p1 = 0 then
          some (x11, h12)
        else
          ck (p1 - 10) 6 <|
          some (h12 140 (ix (p1 - 10)), h12)) FU 100000000 1 h4) FU 0 (up h0 104 0 0)) (fun r => R (-2147483648) 2147483647 r.1 ∧ IM r.2) := fun hp => by
    have := ov30 p1 m (by omega) (fun (h4 : PH) =>
      mm_ovens_L57 p1 (fun (x11 : Int32) (h12 : PH) =>
        if p1 = 0 then
          some (x11, h12)
        else
          ck (p1 - 10) 6 <|
          some (h12 140 (ix (p1 - 10)), h12)) FU 100000000 1 h4) (Q := fun r => R (-2147483648) 2147483647 r.1 ∧ IM r.2) (fun g ig og eg => ?_) FU 0 (up h0 104 0 0) (by unfold FU; omega) (by omega) i1 em (fun j hj => by omega)
    · rw [nI_0] at this
      exact this
    · refine ov57 p1 m (by omega) _ (fun x11 h12 i12 => ?_) FU _ 1 g (by unfold FU; omega) ig (Or.inr ⟨rfl, og, eg, by have := cd_le ig; have e : ((FU : Nat) : Int) = 100000 := rfl; omega⟩)
      refine s_if (fun _ => s_some ⟨r_full _, i12⟩) (fun c => ?_)
      rcases hp with q | q
      · exact absurd q c
      · exact s_ck (r_sub q (show R 10 10 (10 : Int32) from ⟨by decide, by decide⟩) (e := 0) (f := 5) (by decide)) (by decide) (s_some ⟨r_full _, i12⟩)
  refine s_if (fun c => go (Or.inl c)) (fun c => ?_)
  refine s_isin (fun r13 _ c13 => ?_)
  refine s_if (fun _ => s_some ⟨r_full _, i1⟩) (fun n13 => ?_)
  have q := c13 n13
  have f9 : R 9 15 (9 + up h0 104 0 0 104 57) := r_add (show R 9 9 (9 : Int32) from ⟨by decide, by decide⟩) fm (by decide)
  exact go (Or.inr (le_hi (le_lo (show R 10 10 (10 : Int32) from ⟨by decide, by decide⟩) (r_full p1) q.1) f9 q.2))
end
section
/-! SAFETY of the model's image, ahead of the law. Printed by wip/gen/pimg.py -/
def IMP (p : Nat) (t : Int32) (h : PH) : Prop := IM h ∧ h 104 73 = nI p ∧ h 104 71 = t
theorem im_img {h : PH} {p : Nat} {v : Int32} (i : IM h) (hp : p < 985) (f : R (sp 148 p).1 (sp 148 p).2 v) : IM (up h 148 p v) := by
  obtain ⟨i1, i2, i3⟩ := i
  have ne : ∀ x, ¬ x = 148 → up h 148 p v x = h x := fun x hx => by funext k; simp [up_at, hx]
  refine ⟨inv_up i1 f, ?_, ?_⟩
  · unfold LawOK
    rw [ne 113 (by decide), ne 115 (by decide), ne 116 (by decide), ne 117 (by decide), ne 118 (by decide), ne 119 (by decide)]
    exact i2
  · have nj : ∀ q, 985 ≤ q → up h 148 p v 148 q = h 148 q := fun q hq => up_oj (by omega)
    unfold LawImg
    have e1 : (fun l => up h 148 p v 148 (986 + 4 * l + 1)) = fun l => h 148 (986 + 4 * l + 1) := funext fun l => nj _ (by omega)
    have e2 : (fun l => up h 148 p v 148 (986 + 4 * l + 2)) = fun l => h 148 (986 + 4 * l + 2) := funext fun l => nj _ (by omega)
    have e3 : (fun l => up h 148 p v 148 (986 + 4 * l + 3)) = fun l => h 148 (986 + 4 * l + 3) := funext fun l => nj _ (by omega)
    have e4 : (fun l => up h 148 p v 148 (1050 + 2 * l)) = fun l => h 148 (1050 + 2 * l) := funext fun l => nj _ (by omega)
    have e5 : (fun l => up h 148 p v 148 (1050 + 2 * l + 1)) = fun l => h 148 (1050 + 2 * l + 1) := funext fun l => nj _ (by omega)
    rw [e1, e2, e3, e4, e5, nj 985 (by omega)]
    exact i3
theorem kp_at (h : PH) (p : Nat) (v : Int32) (hp : p < 2400) (e : h 104 73 = nI p) : mm_keeps v h = if h 104 71 = 0 then some (h 148 p, up h 104 73 (nI (p + 1))) else some (v, up (up h 104 73 (nI (p + 1))) 148 p v) := by
  unfold mm_keeps
  rw [lt_e, e, nI_1]
  have e1 : up h 104 73 (nI (p + 1)) 104 71 = h 104 71 := up_oj (by decide)
  have e2 : up h 104 73 (nI (p + 1)) 104 73 = nI (p + 1) := up_same
  have e3 : ∀ q, up h 104 73 (nI (p + 1)) 148 q = h 148 q := fun q => up_oc (by decide)
  rw [e1, e2, nI_pred, show ix (nI p) = p from nI_clamp (by omega), e3]
  have ck1 : ∀ {ρ : Type} (q : Option ρ), ck (nI p) 2400 q = q := fun q => ck_nI hp (by decide)
  simp only [ck1, lt_e]
theorem imp_keep {h : PH} {C J p : Nat} {t : Int32} (st : IMP p t h) (hp : p < 985) (es : sp C J = sp 148 p) (hC : (C < 113 ∨ 119 < C) ∧ ¬ C = 148) (hJ : C = 104 → J ≠ 73 ∧ J ≠ 71) : ∃ r h2, mm_keeps (h C J) h = some (r, h2) ∧ IMP (p + 1) t (up h2 C J r) := by
  obtain ⟨i, e, et⟩ := st
  have i1 : IM (up h 104 73 (nI (p + 1))) := im_put i (show sp 104 73 = (-2147483648, 2147483647) from rfl) (r_full _) (by decide)
  have fin : ∀ (g : PH) (r : Int32), IM g → g 104 73 = nI (p + 1) → g 104 71 = t → R (sp C J).1 (sp C J).2 r → IMP (p + 1) t (up g C J r) := fun g r ig e1 e2 f => by
    refine ⟨im_put ig (show sp C J = ((sp C J).1, (sp C J).2) from rfl) f hC, ?_, ?_⟩
    · rw [up_at]
      by_cases q : 104 = C
      · rw [if_pos q, if_neg (fun w => (hJ q.symm).1 w.symm), ← q]; exact e1
      · rw [if_neg q]; exact e1
    · rw [up_at]
      by_cases q : 104 = C
      · rw [if_pos q, if_neg (fun w => (hJ q.symm).2 w.symm), ← q]; exact e2
      · rw [if_neg q]; exact e2
  have k1 : up h 104 73 (nI (p + 1)) 104 73 = nI (p + 1) := up_same
  have k2 : up h 104 73 (nI (p + 1)) 104 71 = t := by rw [up_oj (by decide)]; exact et
  rw [kp_at h p _ (by omega) e]
  by_cases c : h 104 71 = 0
  · rw [if_pos c]
    refine ⟨_, _, rfl, fin _ _ i1 k1 k2 ?_⟩
    rw [es]
    exact i.1 148 p
  · rw [if_neg c]
    refine ⟨_, _, rfl, fin _ _ (im_img i1 hp ?_) (by rw [up_oc (by decide)]; exact k1) (by rw [up_oc (by decide)]; exact k2) (i.1 C J)⟩
    rw [← es]
    exact i.1 C J
theorem s_keep0 {ρ : Type} {Q : ρ → Prop} {h : PH} {C J p : Nat} {t : Int32} {K : PH → Option ρ} (st : IMP p t h) (hp : p < 985) (es : sp C J = sp 148 p) (hC : (C < 113 ∨ 119 < C) ∧ ¬ C = 148) (hJ : C = 104 → J ≠ 73 ∧ J ≠ 71) (hK : ∀ h3, IMP (p + 1) t h3 → Sf (K h3) Q) : Sf (bd2 (mm_keeps (h C J) h) fun r h2 => lt (up h2 C J r) fun h3 => K h3) Q := by
  obtain ⟨r, h2, e1, s1⟩ := imp_keep st hp es hC hJ
  rw [e1, bd2_e, lt_e]
  exact hK _ s1
theorem s_keepA {ρ : Type} {Q : ρ → Prop} {h : PH} {C J p N : Nat} {v t : Int32} {K : PH → Option ρ} (st : IMP p t h) (hp : p < 985) (es : sp C J = sp 148 p) (hC : (C < 113 ∨ 119 < C) ∧ ¬ C = 148) (hJ : C = 104 → J ≠ 73 ∧ J ≠ 71) (hc : vp_in v N) (hK : ∀ h3, IMP (p + 1) t h3 → Sf (K h3) Q) : Sf (bd2 (mm_keeps (h C J) h) fun r h2 => ck v N <| lt (up h2 C J r) fun h3 => K h3) Q := by
  obtain ⟨r, h2, e1, s1⟩ := imp_keep st hp es hC hJ
  rw [e1, bd2_e, ck_in hc, lt_e]
  exact hK _ s1
theorem tb_now_0 : ∀ k, k < 115 → sp 105 k = sp 148 (0 + 1 * k + 0) := by decide +kernel
theorem kl_now (t : Int32) (p1 : Int32) (k0 : PH → Option (Int32 × PH)) {Q : Int32 × PH → Prop} (hk : ∀ g, IMP 115 t g → Sf (k0 g) Q) : ∀ (n k : Nat) (h : PH), 115 < n + k → k ≤ 115 → IMP (0 + 1 * k) t h → Sf (mm_image_L35 p1 k0 n (nI k) h) Q := by
  intro n
  induction n with
  | zero => intro k h h1 h2; omega
  | succ n ih =>
    intro k h h1 h2 st
    rw [mm_image_L35]
    by_cases hk1 : k = 115
    · subst hk1
      rw [if_pos (show (115 : Int32) ≤ nI 115 by decide)]
      exact hk h st
    · rw [if_neg (show ¬ (115 : Int32) ≤ nI k from nI_ge (b := 115) (by omega) (by omega))]
      have ixk : ix (nI k) = k := nI_clamp (by omega)
      simp only [ixk]
      rw [ck_nI (by omega) (by omega)]
      refine s_keepA st (by omega) (tb_now_0 k (by omega)) (by decide) (fun q => by omega) (vp_in_nI (by omega) (by omega)) (fun h3 st => ?_)
      rw [nI_1]
      exact ih (k + 1) h3 (by omega) (by omega) st
theorem sf_many (t : Int32) {h0 : PH} (st : IMP 115 t h0) : Sf (mm_keepsMany h0) (fun g => IMP 127 t g) := by
  unfold mm_keepsMany
  refine s_keep0 (p := 115) st (by decide) rfl (by decide) (fun _ => by decide) (fun h3 st => ?_)
  refine s_keep0 (p := 116) st (by decide) rfl (by decide) (fun _ => by decide) (fun h3 st => ?_)
  refine s_keep0 (p := 117) st (by decide) rfl (by decide) (fun _ => by decide) (fun h3 st => ?_)
  refine s_keep0 (p := 118) st (by decide) rfl (by decide) (fun _ => by decide) (fun h3 st => ?_)
  refine s_keep0 (p := 119) st (by decide) rfl (by decide) (fun _ => by decide) (fun h3 st => ?_)
  refine s_keep0 (p := 120) st (by decide) rfl (by decide) (fun _ => by decide) (fun h3 st => ?_)
  refine s_keep0 (p := 121) st (by decide) rfl (by decide) (fun _ => by decide) (fun h3 st => ?_)
  refine s_keep0 (p := 122) st (by decide) rfl (by decide) (fun _ => by decide) (fun h3 st => ?_)
  refine s_keep0 (p := 123) st (by decide) rfl (by decide) (fun _ => by decide) (fun h3 st => ?_)
  refine s_keep0 (p := 124) st (by decide) rfl (by decide) (fun _ => by decide) (fun h3 st => ?_)
  refine s_keep0 (p := 125) st (by decide) rfl (by decide) (fun _ => by decide) (fun h3 st => ?_)
  refine s_keep0 (p := 126) st (by decide) rfl (by decide) (fun _ => by decide) (fun h3 st => ?_)
  exact s_some st
theorem tb_hou_0 : ∀ k, k < 12 → sp 108 k = sp 148 (127 + 4 * k + 0) := by decide +kernel
theorem tb_hou_1 : ∀ k, k < 12 → sp 109 k = sp 148 (127 + 4 * k + 1) := by decide +kernel
theorem tb_hou_2 : ∀ k, k < 12 → sp 123 k = sp 148 (127 + 4 * k + 2) := by decide +kernel
theorem tb_hou_3 : ∀ k, k < 12 → sp 141 k = sp 148 (127 + 4 * k + 3) := by decide +kernel
theorem kl_hou (t : Int32) (k0 : PH → Option (PH)) {Q : PH → Prop} (hk : ∀ g, IMP 175 t g → Sf (k0 g) Q) : ∀ (n k : Nat) (h : PH), 12 < n + k → k ≤ 12 → IMP (127 + 4 * k) t h → Sf (mm_keepsTold_L2 k0 n (nI k) h) Q := by
  intro n
  induction n with
  | zero => intro k h h1 h2; omega
  | succ n ih =>
    intro k h h1 h2 st
    rw [mm_keepsTold_L2]
    by_cases hk1 : k = 12
    · subst hk1
      rw [if_pos (show (12 : Int32) ≤ nI 12 by decide)]
      exact hk h st
    · rw [if_neg (show ¬ (12 : Int32) ≤ nI k from nI_ge (b := 12) (by omega) (by omega))]
      have ixk : ix (nI k) = k := nI_clamp (by omega)
      simp only [ixk]
      rw [ck_nI (by omega) (by omega)]
      refine s_keepA st (by omega) (tb_hou_0 k (by omega)) (by decide) (fun q => by omega) (vp_in_nI (by omega) (by omega)) (fun h3 st => ?_)
      rw [ck_nI (by omega) (by omega)]
      refine s_keepA st (by omega) (tb_hou_1 k (by omega)) (by decide) (fun q => by omega) (vp_in_nI (by omega) (by omega)) (fun h3 st => ?_)
      rw [ck_nI (by omega) (by omega)]
      refine s_keepA st (by omega) (tb_hou_2 k (by omega)) (by decide) (fun q => by omega) (vp_in_nI (by omega) (by omega)) (fun h3 st => ?_)
      rw [ck_nI (by omega) (by omega)]
      refine s_keepA st (by omega) (tb_hou_3 k (by omega)) (by decide) (fun q => by omega) (vp_in_nI (by omega) (by omega)) (fun h3 st => ?_)
      rw [nI_1]
      exact ih (k + 1) h3 (by omega) (by omega) st
theorem tb_pie_0 : ∀ k, k < 9 → sp 127 k = sp 148 (175 + 1 * k + 0) := by decide +kernel
theorem kl_pie (t : Int32) (k0 : PH → Option (PH)) {Q : PH → Prop} (hk : ∀ g, IMP 184 t g → Sf (k0 g) Q) : ∀ (n k : Nat) (h : PH), 9 < n + k → k ≤ 9 → IMP (175 + 1 * k) t h → Sf (mm_keepsTold_L80 k0 n (nI k) h) Q := by
  intro n
  induction n with
  | zero => intro k h h1 h2; omega
  | succ n ih =>
    intro k h h1 h2 st
    rw [mm_keepsTold_L80]
    by_cases hk1 : k = 9
    · subst hk1
      rw [if_pos (show (9 : Int32) ≤ nI 9 by decide)]
      exact hk h st
    · rw [if_neg (show ¬ (9 : Int32) ≤ nI k from nI_ge (b := 9) (by omega) (by omega))]
      have ixk : ix (nI k) = k := nI_clamp (by omega)
      simp only [ixk]
      rw [ck_nI (by omega) (by omega)]
      refine s_keepA st (by omega) (tb_pie_0 k (by omega)) (by decide) (fun q => by omega) (vp_in_nI (by omega) (by omega)) (fun h3 st => ?_)
      rw [nI_1]
      exact ih (k + 1) h3 (by omega) (by omega) st
theorem tb_dou_0 : ∀ k, k < 8 → sp 129 k = sp 148 (184 + 5 * k + 0) := by decide +kernel
theorem tb_dou_1 : ∀ k, k < 8 → sp 133 k = sp 148 (184 + 5 * k + 1) := by decide +kernel
theorem tb_dou_2 : ∀ k, k < 8 → sp 134 k = sp 148 (184 + 5 * k + 2) := by decide +kernel
theorem tb_dou_3 : ∀ k, k < 8 → sp 144 k = sp 148 (184 + 5 * k + 3) := by decide +kernel
theorem tb_dou_4 : ∀ k, k < 8 → sp 145 k = sp 148 (184 + 5 * k + 4) := by decide +kernel
theorem kl_dou (t : Int32) (k0 : PH → Option (PH)) {Q : PH → Prop} (hk : ∀ g, IMP 224 t g → Sf (k0 g) Q) : ∀ (n k : Nat) (h : PH), 8 < n + k → k ≤ 8 → IMP (184 + 5 * k) t h → Sf (mm_keepsTold_L110 k0 n (nI k) h) Q := by
  intro n
  induction n with
  | zero => intro k h h1 h2; omega
  | succ n ih =>
    intro k h h1 h2 st
    rw [mm_keepsTold_L110]
    by_cases hk1 : k = 8
    · subst hk1
      rw [if_pos (show (8 : Int32) ≤ nI 8 by decide)]
      exact hk h st
    · rw [if_neg (show ¬ (8 : Int32) ≤ nI k from nI_ge (b := 8) (by omega) (by omega))]
      have ixk : ix (nI k) = k := nI_clamp (by omega)
      simp only [ixk]
      rw [ck_nI (by omega) (by omega)]
      refine s_keepA st (by omega) (tb_dou_0 k (by omega)) (by decide) (fun q => by omega) (vp_in_nI (by omega) (by omega)) (fun h3 st => ?_)
      rw [ck_nI (by omega) (by omega)]
      refine s_keepA st (by omega) (tb_dou_1 k (by omega)) (by decide) (fun q => by omega) (vp_in_nI (by omega) (by omega)) (fun h3 st => ?_)
      rw [ck_nI (by omega) (by omega)]
      refine s_keepA st (by omega) (tb_dou_2 k (by omega)) (by decide) (fun q => by omega) (vp_in_nI (by omega) (by omega)) (fun h3 st => ?_)
      rw [ck_nI (by omega) (by omega)]
      refine s_keepA st (by omega) (tb_dou_3 k (by omega)) (by decide) (fun q => by omega) (vp_in_nI (by omega) (by omega)) (fun h3 st => ?_)
      rw [ck_nI (by omega) (by omega)]
      refine s_keepA st (by omega) (tb_dou_4 k (by omega)) (by decide) (fun q => by omega) (vp_in_nI (by omega) (by omega)) (fun h3 st => ?_)
      rw [nI_1]
      exact ih (k + 1) h3 (by omega) (by omega) st
theorem tb_mar_0 : ∀ k, k < 5 → sp 132 k = sp 148 (224 + 1 * k + 0) := by decide +kernel
theorem kl_mar (t : Int32) (k0 : PH → Option (PH)) {Q : PH → Prop} (hk : ∀ g, IMP 229 t g → Sf (k0 g) Q) : ∀ (n k : Nat) (h : PH), 5 < n + k → k ≤ 5 → IMP (224 + 1 * k) t h → Sf (mm_keepsTold_L204 k0 n (nI k) h) Q := by
  intro n
  induction n with
  | zero => intro k h h1 h2; omega
  | succ n ih =>
    intro k h h1 h2 st
    rw [mm_keepsTold_L204]
    by_cases hk1 : k = 5
    · subst hk1
      rw [if_pos (show (5 : Int32) ≤ nI 5 by decide)]
      exact hk h st
    · rw [if_neg (show ¬ (5 : Int32) ≤ nI k from nI_ge (b := 5) (by omega) (by omega))]
      have ixk : ix (nI k) = k := nI_clamp (by omega)
      simp only [ixk]
      rw [ck_nI (by omega) (by omega)]
      refine s_keepA st (by omega) (tb_mar_0 k (by omega)) (by decide) (fun q => by omega) (vp_in_nI (by omega) (by omega)) (fun h3 st => ?_)
      rw [nI_1]
      exact ih (k + 1) h3 (by omega) (by omega) st
theorem tb_way_0 : ∀ k, k < 16 → sp 135 k = sp 148 (229 + 1 * k + 0) := by decide +kernel
theorem kl_way (t : Int32) (k0 : PH → Option (PH)) {Q : PH → Prop} (hk : ∀ g, IMP 245 t g → Sf (k0 g) Q) : ∀ (n k : Nat) (h : PH), 16 < n + k → k ≤ 16 → IMP (229 + 1 * k) t h → Sf (mm_keepsTold_L233 k0 n (nI k) h) Q := by
  intro n
  induction n with
  | zero => intro k h h1 h2; omega
  | succ n ih =>
    intro k h h1 h2 st
    rw [mm_keepsTold_L233]
    by_cases hk1 : k = 16
    · subst hk1
      rw [if_pos (show (16 : Int32) ≤ nI 16 by decide)]
      exact hk h st
    · rw [if_neg (show ¬ (16 : Int32) ≤ nI k from nI_ge (b := 16) (by omega) (by omega))]
      have ixk : ix (nI k) = k := nI_clamp (by omega)
      simp only [ixk]
      rw [ck_nI (by omega) (by omega)]
      refine s_keepA st (by omega) (tb_way_0 k (by omega)) (by decide) (fun q => by omega) (vp_in_nI (by omega) (by omega)) (fun h3 st => ?_)
      rw [nI_1]
      exact ih (k + 1) h3 (by omega) (by omega) st
theorem tb_loa_0 : ∀ k, k < 6 → sp 137 k = sp 148 (245 + 2 * k + 0) := by decide +kernel
theorem tb_loa_1 : ∀ k, k < 6 → sp 138 k = sp 148 (245 + 2 * k + 1) := by decide +kernel
theorem kl_loa (t : Int32) (k0 : PH → Option (PH)) {Q : PH → Prop} (hk : ∀ g, IMP 257 t g → Sf (k0 g) Q) : ∀ (n k : Nat) (h : PH), 6 < n + k → k ≤ 6 → IMP (245 + 2 * k) t h → Sf (mm_keepsTold_L263 k0 n (nI k) h) Q := by
  intro n
  induction n with
  | zero => intro k h h1 h2; omega
  | succ n ih =>
    intro k h h1 h2 st
    rw [mm_keepsTold_L263]
    by_cases hk1 : k = 6
    · subst hk1
      rw [if_pos (show (6 : Int32) ≤ nI 6 by decide)]
      exact hk h st
    · rw [if_neg (show ¬ (6 : Int32) ≤ nI k from nI_ge (b := 6) (by omega) (by omega))]
      have ixk : ix (nI k) = k := nI_clamp (by omega)
      simp only [ixk]
      rw [ck_nI (by omega) (by omega)]
      refine s_keepA st (by omega) (tb_loa_0 k (by omega)) (by decide) (fun q => by omega) (vp_in_nI (by omega) (by omega)) (fun h3 st => ?_)
      rw [ck_nI (by omega) (by omega)]
      refine s_keepA st (by omega) (tb_loa_1 k (by omega)) (by decide) (fun q => by omega) (vp_in_nI (by omega) (by omega)) (fun h3 st => ?_)
      rw [nI_1]
      exact ih (k + 1) h3 (by omega) (by omega) st
theorem tb_sky_0 : ∀ k, k < 48 → sp 121 k = sp 148 (257 + 1 * k + 0) := by decide +kernel
theorem kl_sky (t : Int32) (k0 : PH → Option (PH)) {Q : PH → Prop} (hk : ∀ g, IMP 305 t g → Sf (k0 g) Q) : ∀ (n k : Nat) (h : PH), 48 < n + k → k ≤ 48 → IMP (257 + 1 * k) t h → Sf (mm_keepsTold_L309 k0 n (nI k) h) Q := by
  intro n
  induction n with
  | zero => intro k h h1 h2; omega
  | succ n ih =>
    intro k h h1 h2 st
    rw [mm_keepsTold_L309]
    by_cases hk1 : k = 48
    · subst hk1
      rw [if_pos (show (48 : Int32) ≤ nI 48 by decide)]
      exact hk h st
    · rw [if_neg (show ¬ (48 : Int32) ≤ nI k from nI_ge (b := 48) (by omega) (by omega))]
      have ixk : ix (nI k) = k := nI_clamp (by omega)
      simp only [ixk]
      rw [ck_nI (by omega) (by omega)]
      refine s_keepA st (by omega) (tb_sky_0 k (by omega)) (by decide) (fun q => by omega) (vp_in_nI (by omega) (by omega)) (fun h3 st => ?_)
      rw [nI_1]
      exact ih (k + 1) h3 (by omega) (by omega) st
theorem tb_dee_0 : ∀ k, k < 80 → sp 122 k = sp 148 (305 + 1 * k + 0) := by decide +kernel
theorem kl_dee (t : Int32) : ∀ (n k : Nat) (h : PH), 80 < n + k → k ≤ 80 → IMP (305 + 1 * k) t h → Sf (mm_keepsTold_L339 n (nI k) h) (fun g => IMP 385 t g) := by
  intro n
  induction n with
  | zero => intro k h h1 h2; omega
  | succ n ih =>
    intro k h h1 h2 st
    rw [mm_keepsTold_L339]
    by_cases hk1 : k = 80
    · subst hk1
      rw [if_pos (show (80 : Int32) ≤ nI 80 by decide)]
      exact s_some st
    · rw [if_neg (show ¬ (80 : Int32) ≤ nI k from nI_ge (b := 80) (by omega) (by omega))]
      have ixk : ix (nI k) = k := nI_clamp (by omega)
      simp only [ixk]
      rw [ck_nI (by omega) (by omega)]
      refine s_keepA st (by omega) (tb_dee_0 k (by omega)) (by decide) (fun q => by omega) (vp_in_nI (by omega) (by omega)) (fun h3 st => ?_)
      rw [nI_1]
      exact ih (k + 1) h3 (by omega) (by omega) st
theorem fu0 (t : Int32) : True := trivial
theorem sf_told (t : Int32) {h0 : PH} (st : IMP 127 t h0) : Sf (mm_keepsTold h0) (fun g => IMP 385 t g) := by
  unfold mm_keepsTold
  refine kl_hou t _ (fun g st => ?_) FU 0 _ (by unfold FU; omega) (by omega) st
  refine kl_pie t _ (fun g st => ?_) FU 0 _ (by unfold FU; omega) (by omega) st
  refine kl_dou t _ (fun g st => ?_) FU 0 _ (by unfold FU; omega) (by omega) st
  refine kl_mar t _ (fun g st => ?_) FU 0 _ (by unfold FU; omega) (by omega) st
  refine kl_way t _ (fun g st => ?_) FU 0 _ (by unfold FU; omega) (by omega) st
  refine kl_loa t _ (fun g st => ?_) FU 0 _ (by unfold FU; omega) (by omega) st
  refine kl_sky t _ (fun g st => ?_) FU 0 _ (by unfold FU; omega) (by omega) st
  exact kl_dee t FU 0 _ (by unfold FU; omega) (by omega) st
theorem tb_boo_0 : ∀ k, k < 600 → sp 110 k = sp 148 (385 + 1 * k + 0) := by decide +kernel
theorem kl_boo (t : Int32) (p1 : Int32) (k0 : PH → Option (Int32 × PH)) {Q : Int32 × PH → Prop} (hk : ∀ g, IMP 985 t g → Sf (k0 g) Q) : ∀ (n k : Nat) (h : PH), 600 < n + k → k ≤ 600 → IMP (385 + 1 * k) t h → Sf (mm_image_L73 p1 k0 n (nI k) h) Q := by
  intro n
  induction n with
  | zero => intro k h h1 h2; omega
  | succ n ih =>
    intro k h h1 h2 st
    rw [mm_image_L73]
    by_cases hk1 : k = 600
    · subst hk1
      rw [if_pos (show (600 : Int32) ≤ nI 600 by decide)]
      exact hk h st
    · rw [if_neg (show ¬ (600 : Int32) ≤ nI k from nI_ge (b := 600) (by omega) (by omega))]
      have ixk : ix (nI k) = k := nI_clamp (by omega)
      simp only [ixk]
      rw [ck_nI (by omega) (by omega)]
      refine s_keepA st (by omega) (tb_boo_0 k (by omega)) (by decide) (fun q => by omega) (vp_in_nI (by omega) (by omega)) (fun h3 st => ?_)
      rw [nI_1]
      exact ih (k + 1) h3 (by omega) (by omega) st
end
section
/-! SAFETY of the model's image: the law goes in or comes back -/
theorem stC_c {op arg op' arg' : Nat → Int32} (hc : ∀ k, k < 400 → op' k = op k ∧ arg' k = arg k) (f k d : Nat) (hk : k < 400) : stC op' arg' f k d = stC op arg f k d := by
  unfold stC
  rw [(hc k hk).1, (hc k hk).2, (hc (k - 1) (by omega)).1, (hc (k - 1) (by omega)).2]
theorem dep_c {op arg op' arg' : Nat → Int32} (hc : ∀ k, k < 400 → op' k = op k ∧ arg' k = arg k) (f : Nat) : ∀ (m k d : Nat), k + m ≤ 400 → dep op' arg' f m k d = dep op arg f m k d := by
  intro m
  induction m with
  | zero => intro k d _; rfl
  | succ m ih =>
    intro k d h
    rw [dep, dep, stC_c hc f k d (by omega)]
    congr 1
    funext d'
    exact ih (k + 1) d' (by omega)
theorem LawF_c {lm lm' : Int32} {lf lw lt op arg lf' lw' lt' op' arg' : Nat → Int32} (h : LawF lm lf lw lt op arg) (hm : lm.toInt ≤ 16) (em : lm' = lm) (hl : ∀ l, l < 16 → lf' l = lf l ∧ lw' l = lw l ∧ lt' l = lt l) (hc : ∀ k, k < 400 → op' k = op k ∧ arg' k = arg k) : LawF lm' lf' lw' lt' op' arg' := by
  intro l q
  rw [em] at q
  obtain ⟨a, b, c, q1, q2, q3, q4, q5, q6, ⟨d, q7⟩, d', q8⟩ := h l q
  have l16 : l < 16 := by omega
  obtain ⟨w1, w2, w3⟩ := hl l l16
  exact ⟨a, b, c, by rw [w1]; exact q1, by rw [w2]; exact q2, by rw [w3]; exact q3, q4, q5, q6, ⟨d, by rw [dep_c hc a (b - a) a 0 (by omega)]; exact q7⟩, d', by rw [dep_c hc b (c - b) b 0 (by omega)]; exact q8⟩
def DB2 (o : PH) (t : Int32) (h : PH) : Prop := (¬ t = 0 ∧ ∀ c, 113 ≤ c → c ≤ 119 → h c = o c) ∨ (t = 0 ∧ h 148 = o 148)
def KB (o : PH) (t : Int32) (p : Nat) (h : PH) : Prop := Inv h ∧ h 104 73 = nI p ∧ h 104 71 = t ∧ DB2 o t h
theorem kb_keep {o h : PH} {C J p : Nat} {t : Int32} (st : KB o t p h) (hp : p < 2400) (es : sp C J = sp 148 p) (hC : 113 ≤ C ∧ C ≤ 119) : ∃ r h2, mm_keeps (h C J) h = some (r, h2) ∧ KB o t (p + 1) (up h2 C J r) ∧ up h2 C J r 148 p = up h2 C J r C J ∧ (∀ q, q ≠ p → up h2 C J r 148 q = h 148 q) ∧ (∀ C' J', C' ≠ 104 → C' ≠ 148 → (C' ≠ C ∨ J' ≠ J) → up h2 C J r C' J' = h C' J') := by
  obtain ⟨i, e, et, dd⟩ := st
  have i1 : Inv (up h 104 73 (nI (p + 1))) := inv_put i (show sp 104 73 = (-2147483648, 2147483647) from rfl) (r_full _)
  have n1 : ¬ 104 = C := by omega
  have n2 : ¬ 148 = C := by omega
  rw [kp_at h p _ hp e]
  by_cases c : h 104 71 = 0
  · rw [if_pos c]
    have t0 : t = 0 := by rw [← et]; exact c
    have hd : h 148 = o 148 := by
      rcases dd with q | q
      · exact absurd t0 q.1
      · exact q.2
    refine ⟨_, _, rfl, ⟨inv_up i1 (by rw [es]; exact i 148 p), ?_, ?_, Or.inr ⟨t0, ?_⟩⟩, ?_, fun q hq => ?_, fun C' J' h1 h2 h3 => ?_⟩
    · rw [up_oc n1]; exact up_same
    · rw [up_oc n1, up_oj (by decide)]; exact et
    · rw [← hd]; funext q; rw [up_oc n2, up_oc (by decide)]
    · rw [up_oc n2, up_oc (by decide), up_same]
    · rw [up_oc n2, up_oc (by decide)]
    · rw [up_at]
      by_cases w : C' = C
      · subst w
        have jn : ¬ J' = J := fun w2 => by rcases h3 with q | q; exact q rfl; exact q w2
        rw [if_pos rfl, if_neg jn, up_oc h1]
      · rw [if_neg w, up_oc h1]
  · rw [if_neg c]
    have t0 : ¬ t = 0 := by rw [← et]; exact c
    have hd : ∀ c, 113 ≤ c → c ≤ 119 → h c = o c := by
      rcases dd with q | q
      · exact q.2
      · exact absurd q.1 t0
    have vC : ∀ j, up (up (up h 104 73 (nI (p + 1))) 148 p (h C J)) C J (h C J) C j = h C j := fun j => by
      by_cases w : j = J
      · subst w; exact up_same
      · rw [up_oj w, up_oc (fun q => n2 q.symm), up_oc (fun q => n1 q.symm)]
    refine ⟨_, _, rfl, ⟨inv_up (inv_up i1 (by rw [← es]; exact i C J)) (i C J), ?_, ?_, Or.inl ⟨t0, fun c' h1 h2 => ?_⟩⟩, ?_, fun q hq => ?_, fun C' J' h1 h2 h3 => ?_⟩
    · rw [up_oc n1, up_oc (by decide)]; exact up_same
    · rw [up_oc n1, up_oc (by decide), up_oj (by decide)]; exact et
    · rw [← hd c' h1 h2]
      funext j
      by_cases w : c' = C
      · subst w; exact vC j
      · rw [up_oc w, up_oc (by omega), up_oc (by omega)]
    · rw [vC J, up_oc n2, up_same]
    · rw [up_oc n2, up_oj hq, up_oc (by decide)]
    · by_cases w : C' = C
      · subst w; exact vC J'
      · rw [up_oc w, up_oc h2, up_oc h1]
def E1 (l : Nat) (h : PH) : Prop := h 148 985 = h 113 0 ∧ ∀ j, j < l → h 148 (986 + 4 * j + 1) = h 115 j ∧ h 148 (986 + 4 * j + 2) = h 116 j ∧ h 148 (986 + 4 * j + 3) = h 117 j
def E2 (k : Nat) (h : PH) : Prop := ∀ j, j < k → h 148 (1050 + 2 * j) = h 118 j ∧ h 148 (1050 + 2 * j + 1) = h 119 j
theorem tb_l0 : ∀ k, k < 16 → sp 114 k = sp 148 (986 + 4 * k) := by decide +kernel
theorem tb_l1 : ∀ k, k < 16 → sp 115 k = sp 148 (986 + 4 * k + 1) := by decide +kernel
theorem tb_l2 : ∀ k, k < 16 → sp 116 k = sp 148 (986 + 4 * k + 1 + 1) := by decide +kernel
theorem tb_l3 : ∀ k, k < 16 → sp 117 k = sp 148 (986 + 4 * k + 1 + 1 + 1) := by decide +kernel
theorem tb_c0 : ∀ k, k < 400 → sp 118 k = sp 148 (1050 + 2 * k) := by decide +kernel
theorem tb_c1 : ∀ k, k < 400 → sp 119 k = sp 148 (1050 + 2 * k + 1) := by decide +kernel
theorem kb96 (o : PH) (t : Int32) : ∀ (n k : Nat) (h : PH), 400 < n + k → k ≤ 400 → KB o t (1050 + 2 * k) h → E1 16 h → E2 k h → Sf (mm_keepsLaw_L96 n (nI k) h) (fun g => KB o t 1850 g ∧ E1 16 g ∧ E2 400 g) := by
  intro n
  induction n with
  | zero => intro k h h1 h2; omega
  | succ n ih =>
    intro k h h1 h2 st e1 e2
    rw [mm_keepsLaw_L96]
    by_cases hk1 : k = 400
    · subst hk1
      rw [if_pos (show (400 : Int32) ≤ nI 400 by decide)]
      exact s_some ⟨st, e1, e2⟩
    · rw [if_neg (show ¬ (400 : Int32) ≤ nI k from nI_ge (b := 400) (by omega) (by omega))]
      have ixk : ix (nI k) = k := nI_clamp (by omega)
      have ckk : ∀ {ρ : Type} (q : Option ρ), ck (nI k) 1200 q = q := fun q => ck_nI (by omega) (by omega)
      simp only [ixk, ckk]
      obtain ⟨r, g, q1, s1, a1, a2, a3⟩ := kb_keep st (by omega) (tb_c0 k (by omega)) (by decide)
      rw [q1, bd2_e, lt_e]
      generalize up g 118 k r = h3 at s1 a1 a2 a3 ⊢
      obtain ⟨r', g', q1', s1', b1, b2, b3⟩ := kb_keep s1 (by omega) (tb_c1 k (by omega)) (by decide)
      rw [q1', bd2_e, lt_e, nI_1]
      generalize up g' 119 k r' = h4 at s1' b1 b2 b3 ⊢
      have im : ∀ q, q ≠ 1050 + 2 * k → q ≠ 1050 + 2 * k + 1 → h4 148 q = h 148 q := fun q w1 w2 => by rw [b2 q w2, a2 q w1]
      have ce : ∀ C' J', C' ≠ 104 → C' ≠ 148 → (C' ≠ 118 ∨ J' ≠ k) → (C' ≠ 119 ∨ J' ≠ k) → h4 C' J' = h C' J' := fun C' J' w1 w2 w3 w4 => by rw [b3 C' J' w1 w2 w4, a3 C' J' w1 w2 w3]
      refine ih (k + 1) h4 (by omega) (by omega) s1' ⟨?_, fun j hj => ?_⟩ (fun j hj => ?_)
      · rw [im 985 (by omega) (by omega), ce 113 0 (by decide) (by decide) (Or.inl (by decide)) (Or.inl (by decide))]; exact e1.1
      · obtain ⟨u1, u2, u3⟩ := e1.2 j hj
        rw [im _ (by omega) (by omega), im _ (by omega) (by omega), im _ (by omega) (by omega), ce 115 j (by decide) (by decide) (Or.inl (by decide)) (Or.inl (by decide)), ce 116 j (by decide) (by decide) (Or.inl (by decide)) (Or.inl (by decide)), ce 117 j (by decide) (by decide) (Or.inl (by decide)) (Or.inl (by decide))]
        exact ⟨u1, u2, u3⟩
      · by_cases jk : j = k
        · subst jk
          refine ⟨?_, b1⟩
          rw [b2 _ (by omega), b3 118 j (by decide) (by decide) (Or.inl (by decide))]
          exact a1
        · obtain ⟨u1, u2⟩ := e2 j (by omega)
          rw [im _ (by omega) (by omega), im _ (by omega) (by omega), ce 118 j (by decide) (by decide) (Or.inr jk) (Or.inl (by decide)), ce 119 j (by decide) (by decide) (Or.inl (by decide)) (Or.inr jk)]
          exact ⟨u1, u2⟩
theorem kb18 (o : PH) (t : Int32) (k0 : PH → Option PH) {Q : PH → Prop} (hk : ∀ g, KB o t 1050 g → E1 16 g → Sf (k0 g) Q) : ∀ (n k : Nat) (h : PH), 16 < n + k → k ≤ 16 → KB o t (986 + 4 * k) h → E1 k h → Sf (mm_keepsLaw_L18 k0 n (nI k) h) Q := by
  intro n
  induction n with
  | zero => intro k h h1 h2; omega
  | succ n ih =>
    intro k h h1 h2 st e1
    rw [mm_keepsLaw_L18]
    by_cases hk1 : k = 16
    · subst hk1
      rw [if_pos (show (16 : Int32) ≤ nI 16 by decide)]
      exact hk h st e1
    · rw [if_neg (show ¬ (16 : Int32) ≤ nI k from nI_ge (b := 16) (by omega) (by omega))]
      have ixk : ix (nI k) = k := nI_clamp (by omega)
      have ckk : ∀ {ρ : Type} (q : Option ρ), ck (nI k) 48 q = q := fun q => ck_nI (by omega) (by omega)
      simp only [ixk, ckk]
      obtain ⟨r, g, q1, s1, a1, a2, a3⟩ := kb_keep st (by omega) (tb_l0 k (by omega)) (by decide)
      rw [q1, bd2_e, lt_e]
      generalize up g 114 k r = h3 at s1 a1 a2 a3 ⊢
      obtain ⟨r', g', q1', s2, b1, b2, b3⟩ := kb_keep s1 (by omega) (tb_l1 k (by omega)) (by decide)
      rw [q1', bd2_e, lt_e]
      generalize up g' 115 k r' = h4 at s2 b1 b2 b3 ⊢
      obtain ⟨r2, g2, q2, s3, c1, c2, c3⟩ := kb_keep s2 (by omega) (tb_l2 k (by omega)) (by decide)
      rw [q2, bd2_e, lt_e]
      generalize up g2 116 k r2 = h5 at s3 c1 c2 c3 ⊢
      obtain ⟨r4, g4, q4, s4, d1, d2, d3⟩ := kb_keep s3 (by omega) (tb_l3 k (by omega)) (by decide)
      rw [q4, bd2_e, lt_e, nI_1]
      generalize up g4 117 k r4 = h6 at s4 d1 d2 d3 ⊢
      have im : ∀ q, (q < 986 + 4 * k ∨ 986 + 4 * k + 3 < q) → h6 148 q = h 148 q := fun q w => by rw [d2 q (by omega), c2 q (by omega), b2 q (by omega), a2 q (by omega)]
      have ce : ∀ C' J', C' ≠ 104 → C' ≠ 148 → ((C' < 114 ∨ 117 < C') ∨ J' ≠ k) → h6 C' J' = h C' J' := fun C' J' w1 w2 w3 => by rw [d3 C' J' w1 w2 (by omega), c3 C' J' w1 w2 (by omega), b3 C' J' w1 w2 (by omega), a3 C' J' w1 w2 (by omega)]
      refine ih (k + 1) h6 (by omega) (by omega) s4 ⟨?_, fun j hj => ?_⟩
      · rw [im 985 (by omega), ce 113 0 (by decide) (by decide) (Or.inl (by decide))]; exact e1.1
      · by_cases jk : j = k
        · subst jk
          refine ⟨?_, ?_, d1⟩
          · rw [d2 _ (by omega), c2 _ (by omega), d3 115 j (by decide) (by decide) (Or.inl (by decide)), c3 115 j (by decide) (by decide) (Or.inl (by decide))]
            exact b1
          · rw [d2 _ (by omega), d3 116 j (by decide) (by decide) (Or.inl (by decide))]
            exact c1
        · obtain ⟨u1, u2, u3⟩ := e1.2 j (by omega)
          rw [im _ (by omega), im _ (by omega), im _ (by omega), ce 115 j (by decide) (by decide) (Or.inr jk), ce 116 j (by decide) (by decide) (Or.inr jk), ce 117 j (by decide) (by decide) (Or.inr jk)]
          exact ⟨u1, u2, u3⟩
theorem sf_keepsLaw (t : Int32) {h0 : PH} (st : IMP 985 t h0) : Sf (mm_keepsLaw h0) (fun g => IM g) := by
  obtain ⟨i, e, et⟩ := st
  have st0 : KB h0 t 985 h0 := ⟨i.1, e, et, by
    by_cases c : t = 0
    · exact Or.inr ⟨c, rfl⟩
    · exact Or.inl ⟨c, fun _ _ _ => rfl⟩⟩
  unfold mm_keepsLaw
  have ix0 : ix (0 : Int32) = 0 := rfl
  simp only [c0_2, ix0]
  obtain ⟨r, g, q1, s1, a1, a2, a3⟩ := kb_keep (C := 113) (J := 0) st0 (by decide) rfl (by decide)
  rw [q1, bd2_e, lt_e]
  generalize up g 113 0 r = h3 at s1 a1 a2 a3 ⊢
  have key := kb18 h0 t (fun h16 => mm_keepsLaw_L96 FU 0 h16) (Q := fun g => IM g) (fun g sg eg => ?_) FU 0 h3 (by unfold FU; omega) (by omega) s1 ⟨a1, fun j hj => by omega⟩
  · rw [nI_0] at key
    exact key
  · have k2 := kb96 h0 t FU 0 g (by unfold FU; omega) (by omega) sg eg (fun j hj => by omega)
    rw [nI_0] at k2
    refine s_w k2 (fun g2 hg => ?_)
    obtain ⟨⟨j1, j2, j3, j4⟩, w1, w2⟩ := hg
    have lmr : R 0 16 (g2 113 0) := inv_rng j1 rfl
    rcases j4 with ⟨t0, fr⟩ | ⟨t0, fr⟩
    · have lo : LawOK g2 := by
        unfold LawOK
        rw [fr 113 (by decide) (by decide), fr 115 (by decide) (by decide), fr 116 (by decide) (by decide), fr 117 (by decide) (by decide), fr 118 (by decide) (by decide), fr 119 (by decide) (by decide)]
        exact i.2.1
      exact ⟨j1, lo, LawF_c lo lmr.2 w1.1 (fun l hl => w1.2 l hl) (fun k hk => w2 k hk)⟩
    · have li : LawImg g2 := by
        unfold LawImg
        rw [fr]
        exact i.2.2
      exact ⟨j1, LawF_c li (by rw [w1.1]; exact lmr.2) w1.1.symm (fun l hl => ⟨(w1.2 l hl).1.symm, (w1.2 l hl).2.1.symm, (w1.2 l hl).2.2.symm⟩) (fun k hk => ⟨(w2 k hk).1.symm, (w2 k hk).2.symm⟩), li⟩
theorem sf_m_image (p1 : Int32) (hp : p1 = 0 ∨ p1 = 1) {h0 : PH} (i : IM h0) : Sf (mm_image p1 h0) (fun r => R 0 1 r.1 ∧ IM r.2) := by
  have fp : R 0 1 p1 := by
    rcases hp with q | q
    · rw [q]; exact ⟨by decide, by decide⟩
    · rw [q]; exact ⟨by decide, by decide⟩
  unfold mm_image
  rw [lt_e]
  have i1 : IM (up h0 104 0 0) := im_put i (show sp 104 0 = (-2147483648, 2147483647) from rfl) (r_full _) (by decide)
  refine s_jn0 ?_ (fun j2 k2 => ?_)
  · have kz1 : ∀ {ρ : Type} (k : Option ρ), kz p1 k = k := fun k => if_pos hp
    rw [kz1, lt_e, lt_e, lt_e]
    have i3 := im_put i1 (show sp 104 71 = (0, 1) from rfl) fp (by decide)
    have i4 := im_put i3 (show sp 104 72 = (0, 1) from rfl) (show R 0 1 (1 : Int32) from ⟨by decide, by decide⟩) (by decide)
    have i5 := im_put i4 (show sp 104 73 = (-2147483648, 2147483647) from rfl) (r_full (0 : Int32)) (by decide)
    have st : IMP (0 + 1 * 0) p1 (up (up (up (up h0 104 0 0) 104 71 p1) 104 72 1) 104 73 0) := ⟨i5, by rw [up_same]; rfl, by rw [up_oj (by decide), up_oj (by decide), up_same]⟩
    refine kl_now p1 p1 _ (fun g sg => ?_) FU 0 _ (by unfold FU; omega) (by omega) st
    refine s_bd (sf_many p1 sg) (fun h10 s10 => ?_)
    refine s_bd (sf_told p1 s10) (fun h11 s11 => ?_)
    refine kl_boo p1 p1 _ (fun g2 sg2 => ?_) FU 0 _ (by unfold FU; omega) (by omega) s11
    refine s_bd (sf_keepsLaw p1 sg2) (fun h16 i16 => ?_)
    refine s_if (fun _ => ?_) (fun _ => s_some ⟨(show R 0 1 (1 : Int32) from ⟨by decide, by decide⟩), i16⟩)
    rw [lt_e]
    exact s_some ⟨(show R 0 1 (1 : Int32) from ⟨by decide, by decide⟩), im_put i16 (show sp 104 3 = (0, 6) from rfl) ⟨by decide, by decide⟩ (by decide)⟩
  · refine s_if (fun _ => ?_) (fun _ => k2)
    exact s_if (fun _ => s_some ⟨(show R 0 1 (0 : Int32) from ⟨by decide, by decide⟩), i1⟩) (fun _ => k2)
end
section
/-! THE FIRST HEAP keeps all ranges. Printed by wip/gen/pfirst.py -/
def Zr (f : Nat → Int × Int) : Prop := ∀ j, (f j).1 ≤ 0 ∧ 0 ≤ (f j).2
theorem rf0 : rF.1 ≤ 0 ∧ 0 ≤ rF.2 := ⟨by decide, by decide⟩
theorem zr_F : Zr spF := fun _ => rf0
theorem zr_B : Zr spB := fun j => by unfold spB; split <;> exact ⟨by decide, by decide⟩
theorem zr_A {a b : Int} (h : a ≤ 0 ∧ 0 ≤ b) : Zr (spA a b) := fun _ => h
theorem zr_C : Zr spC := fun j => by unfold spC; split <;> exact ⟨by decide, by decide⟩
theorem zr_D : Zr spD := fun j => by
  unfold spD
  split
  · exact ⟨by decide, by decide⟩
  · split <;> exact ⟨by decide, by decide⟩
theorem zr_W : Zr spW := fun j => by unfold spW; split <;> exact ⟨by decide, by decide⟩
theorem zr_L : ∀ (l : List (Nat × Int × Int)), (∀ q ∈ l, q.2.1 ≤ 0 ∧ 0 ≤ q.2.2) → Zr (spL l)
  | [], _ => fun _ => rf0
  | (k, a, b) :: l, h => fun j => by
    unfold spL
    split
    · exact h (k, a, b) List.mem_cons_self
    · exact zr_L l (fun q hq => h q (List.mem_cons_of_mem _ hq)) j
theorem zr_I : Zr spI := fun p => by
  unfold spI
  split
  · exact ⟨by decide, by decide⟩
  · split
    · rename_i q
      have key : ∀ k, k < 12 → (([((0 : Int), (12 : Int)), (0, 16), (0, 16), (0, 16), (0, 9), (0, 8), (0, 5), (0, 8), (0, 16), (0, 6), (0, 12), (0, 8)].getD k rF).1 ≤ 0 ∧ 0 ≤ ([((0 : Int), (12 : Int)), (0, 16), (0, 16), (0, 16), (0, 9), (0, 8), (0, 5), (0, 8), (0, 16), (0, 6), (0, 12), (0, 8)].getD k rF).2) := by decide
      exact key (p - 115) (by omega)
    · split
      · exact ⟨by decide, by decide⟩
      · split
        · exact zr_D _
        · split <;> exact ⟨by decide, by decide⟩
theorem zr_z0 {f : Nat → Int × Int} (h : Zr f) (j : Nat) : R (f j).1 (f j).2 (z0 j) := h j
theorem lz_big (l : List Int32) (j : Nat) (h : l.length ≤ j) : lz l j = 0 := by
  unfold lz
  rw [List.getD_eq_getElem?_getD, List.getElem?_eq_none h]
  rfl
theorem zr_lz {f : Nat → Int × Int} (l : List Int32) (n : Nat) (hn : l.length = n) (hz : ∀ j, n ≤ j → (f j).1 ≤ 0 ∧ 0 ≤ (f j).2) (hd : ∀ j, j < n → (f j).1 ≤ (lz l j).toInt ∧ (lz l j).toInt ≤ (f j).2) (j : Nat) : R (f j).1 (f j).2 (lz l j) := by
  by_cases h : j < n
  · exact hd j h
  · rw [lz_big l j (by omega)]
    exact hz j (by omega)
theorem iv_0 (j : Nat) : R (sp 0 j).1 (sp 0 j).2 (hI 0 j) := zr_lz (f := spL [(13, 0, 1)]) [0, 0, 0, 0, 0, 0, 0, 0, 0, 0, 0, 0, 0, 0] 14 rfl (fun j _ => (zr_L _ (by decide)) j) (by decide) j
theorem iv_1 (j : Nat) : R (sp 1 j).1 (sp 1 j).2 (hI 1 j) := zr_lz (f := spB) [0, 0, 0, 0, 0, 0, 0, 0] 8 rfl (fun j _ => zr_B j) (by decide) j
theorem iv_2 (j : Nat) : R (sp 2 j).1 (sp 2 j).2 (hI 2 j) := r_full _
theorem iv_3 (j : Nat) : R (sp 3 j).1 (sp 3 j).2 (hI 3 j) := zr_lz (f := spB) [0, 0, 0, 0, 0, 0, 0, 0] 8 rfl (fun j _ => zr_B j) (by decide) j
theorem iv_4 (j : Nat) : R (sp 4 j).1 (sp 4 j).2 (hI 4 j) := r_full _
theorem iv_5 (j : Nat) : R (sp 5 j).1 (sp 5 j).2 (hI 5 j) := r_full _
theorem rzz_6 : ∀ j, 4 ≤ j → (spR 16 5 j).1 ≤ 0 ∧ 0 ≤ (spR 16 5 j).2 := fun j hj => by
  unfold spR
  rw [if_neg (by omega), if_neg (by omega), if_neg (by omega)]
  exact ⟨by decide, by decide⟩
theorem iv_6 (j : Nat) : R (sp 6 j).1 (sp 6 j).2 (hI 6 j) := zr_lz (f := spR 16 5) [16, 5, 0, 0] 4 rfl rzz_6 (by decide) j
theorem iv_7 (j : Nat) : R (sp 7 j).1 (sp 7 j).2 (hI 7 j) := zr_z0 (f := spC) (zr_C) j
theorem rzz_8 : ∀ j, 4 ≤ j → (spR 400 2 j).1 ≤ 0 ∧ 0 ≤ (spR 400 2 j).2 := fun j hj => by
  unfold spR
  rw [if_neg (by omega), if_neg (by omega), if_neg (by omega)]
  exact ⟨by decide, by decide⟩
theorem iv_8 (j : Nat) : R (sp 8 j).1 (sp 8 j).2 (hI 8 j) := zr_lz (f := spR 400 2) [400, 2, 0, 0] 4 rfl rzz_8 (by decide) j
theorem iv_9 (j : Nat) : R (sp 9 j).1 (sp 9 j).2 (hI 9 j) := r_full _
theorem rzz_10 : ∀ j, 4 ≤ j → (spR 16 5 j).1 ≤ 0 ∧ 0 ≤ (spR 16 5 j).2 := fun j hj => by
  unfold spR
  rw [if_neg (by omega), if_neg (by omega), if_neg (by omega)]
  exact ⟨by decide, by decide⟩
theorem iv_10 (j : Nat) : R (sp 10 j).1 (sp 10 j).2 (hI 10 j) := zr_lz (f := spR 16 5) [16, 5, 0, 0] 4 rfl rzz_10 (by decide) j
theorem iv_11 (j : Nat) : R (sp 11 j).1 (sp 11 j).2 (hI 11 j) := zr_z0 (f := spC) (zr_C) j
theorem rzz_12 : ∀ j, 4 ≤ j → (spR 16 5 j).1 ≤ 0 ∧ 0 ≤ (spR 16 5 j).2 := fun j hj => by
  unfold spR
  rw [if_neg (by omega), if_neg (by omega), if_neg (by omega)]
  exact ⟨by decide, by decide⟩
theorem iv_12 (j : Nat) : R (sp 12 j).1 (sp 12 j).2 (hI 12 j) := zr_lz (f := spR 16 5) [16, 5, 0, 0] 4 rfl rzz_12 (by decide) j
theorem iv_13 (j : Nat) : R (sp 13 j).1 (sp 13 j).2 (hI 13 j) := zr_z0 (f := spC) (zr_C) j
theorem rzz_14 : ∀ j, 4 ≤ j → (spR 16 5 j).1 ≤ 0 ∧ 0 ≤ (spR 16 5 j).2 := fun j hj => by
  unfold spR
  rw [if_neg (by omega), if_neg (by omega), if_neg (by omega)]
  exact ⟨by decide, by decide⟩
theorem iv_14 (j : Nat) : R (sp 14 j).1 (sp 14 j).2 (hI 14 j) := zr_lz (f := spR 16 5) [16, 5, 0, 0] 4 rfl rzz_14 (by decide) j
theorem iv_15 (j : Nat) : R (sp 15 j).1 (sp 15 j).2 (hI 15 j) := zr_z0 (f := spC) (zr_C) j
theorem rzz_16 : ∀ j, 4 ≤ j → (spR 150 4 j).1 ≤ 0 ∧ 0 ≤ (spR 150 4 j).2 := fun j hj => by
  unfold spR
  rw [if_neg (by omega), if_neg (by omega), if_neg (by omega)]
  exact ⟨by decide, by decide⟩
theorem iv_16 (j : Nat) : R (sp 16 j).1 (sp 16 j).2 (hI 16 j) := zr_lz (f := spR 150 4) [150, 4, 0, 0] 4 rfl rzz_16 (by decide) j
theorem iv_17 (j : Nat) : R (sp 17 j).1 (sp 17 j).2 (hI 17 j) := r_full _
theorem rzz_18 : ∀ j, 4 ≤ j → (spR 9 1 j).1 ≤ 0 ∧ 0 ≤ (spR 9 1 j).2 := fun j hj => by
  unfold spR
  rw [if_neg (by omega), if_neg (by omega), if_neg (by omega)]
  exact ⟨by decide, by decide⟩
theorem iv_18 (j : Nat) : R (sp 18 j).1 (sp 18 j).2 (hI 18 j) := zr_lz (f := spR 9 1) [9, 1, 0, 0] 4 rfl rzz_18 (by decide) j
theorem iv_19 (j : Nat) : R (sp 19 j).1 (sp 19 j).2 (hI 19 j) := r_full _
theorem rzz_20 : ∀ j, 4 ≤ j → (spR 8 1 j).1 ≤ 0 ∧ 0 ≤ (spR 8 1 j).2 := fun j hj => by
  unfold spR
  rw [if_neg (by omega), if_neg (by omega), if_neg (by omega)]
  exact ⟨by decide, by decide⟩
theorem iv_20 (j : Nat) : R (sp 20 j).1 (sp 20 j).2 (hI 20 j) := zr_lz (f := spR 8 1) [8, 1, 0, 0] 4 rfl rzz_20 (by decide) j
theorem iv_21 (j : Nat) : R (sp 21 j).1 (sp 21 j).2 (hI 21 j) := r_full _
theorem rzz_22 : ∀ j, 4 ≤ j → (spR 5 1 j).1 ≤ 0 ∧ 0 ≤ (spR 5 1 j).2 := fun j hj => by
  unfold spR
  rw [if_neg (by omega), if_neg (by omega), if_neg (by omega)]
  exact ⟨by decide, by decide⟩
theorem iv_22 (j : Nat) : R (sp 22 j).1 (sp 22 j).2 (hI 22 j) := zr_lz (f := spR 5 1) [5, 1, 0, 0] 4 rfl rzz_22 (by decide) j
theorem iv_23 (j : Nat) : R (sp 23 j).1 (sp 23 j).2 (hI 23 j) := r_full _
theorem rzz_24 : ∀ j, 4 ≤ j → (spR 8 2 j).1 ≤ 0 ∧ 0 ≤ (spR 8 2 j).2 := fun j hj => by
  unfold spR
  rw [if_neg (by omega), if_neg (by omega), if_neg (by omega)]
  exact ⟨by decide, by decide⟩
theorem iv_24 (j : Nat) : R (sp 24 j).1 (sp 24 j).2 (hI 24 j) := zr_lz (f := spR 8 2) [8, 2, 0, 0] 4 rfl rzz_24 (by decide) j
theorem iv_25 (j : Nat) : R (sp 25 j).1 (sp 25 j).2 (hI 25 j) := r_full _
theorem rzz_26 : ∀ j, 4 ≤ j → (spR 16 1 j).1 ≤ 0 ∧ 0 ≤ (spR 16 1 j).2 := fun j hj => by
  unfold spR
  rw [if_neg (by omega), if_neg (by omega), if_neg (by omega)]
  exact ⟨by decide, by decide⟩
theorem iv_26 (j : Nat) : R (sp 26 j).1 (sp 26 j).2 (hI 26 j) := zr_lz (f := spR 16 1) [16, 1, 0, 0] 4 rfl rzz_26 (by decide) j
theorem iv_27 (j : Nat) : R (sp 27 j).1 (sp 27 j).2 (hI 27 j) := r_full _
theorem rzz_28 : ∀ j, 4 ≤ j → (spR 6 2 j).1 ≤ 0 ∧ 0 ≤ (spR 6 2 j).2 := fun j hj => by
  unfold spR
  rw [if_neg (by omega), if_neg (by omega), if_neg (by omega)]
  exact ⟨by decide, by decide⟩
theorem iv_28 (j : Nat) : R (sp 28 j).1 (sp 28 j).2 (hI 28 j) := zr_lz (f := spR 6 2) [6, 2, 0, 0] 4 rfl rzz_28 (by decide) j
theorem iv_29 (j : Nat) : R (sp 29 j).1 (sp 29 j).2 (hI 29 j) := r_full _
theorem rzz_30 : ∀ j, 4 ≤ j → (spR 12 2 j).1 ≤ 0 ∧ 0 ≤ (spR 12 2 j).2 := fun j hj => by
  unfold spR
  rw [if_neg (by omega), if_neg (by omega), if_neg (by omega)]
  exact ⟨by decide, by decide⟩
theorem iv_30 (j : Nat) : R (sp 30 j).1 (sp 30 j).2 (hI 30 j) := zr_lz (f := spR 12 2) [12, 2, 0, 0] 4 rfl rzz_30 (by decide) j
theorem iv_31 (j : Nat) : R (sp 31 j).1 (sp 31 j).2 (hI 31 j) := r_full _
theorem rzz_32 : ∀ j, 4 ≤ j → (spR 8 2 j).1 ≤ 0 ∧ 0 ≤ (spR 8 2 j).2 := fun j hj => by
  unfold spR
  rw [if_neg (by omega), if_neg (by omega), if_neg (by omega)]
  exact ⟨by decide, by decide⟩
theorem iv_32 (j : Nat) : R (sp 32 j).1 (sp 32 j).2 (hI 32 j) := zr_lz (f := spR 8 2) [8, 2, 0, 0] 4 rfl rzz_32 (by decide) j
theorem iv_33 (j : Nat) : R (sp 33 j).1 (sp 33 j).2 (hI 33 j) := r_full _
theorem iv_34 (j : Nat) : R (sp 34 j).1 (sp 34 j).2 (hI 34 j) := zr_lz (f := spL [(4, 0, 64)]) [0, 0, 0, 0, 0] 5 rfl (fun j _ => (zr_L _ (by decide)) j) (by decide) j
theorem iv_35 (j : Nat) : R (sp 35 j).1 (sp 35 j).2 (hI 35 j) := r_full _
theorem iv_36 (j : Nat) : R (sp 36 j).1 (sp 36 j).2 (hI 36 j) := r_full _
theorem iv_37 (j : Nat) : R (sp 37 j).1 (sp 37 j).2 (hI 37 j) := zr_lz (f := spB) [0, 0, 0, 0, 0, 0, 0, 0] 8 rfl (fun j _ => zr_B j) (by decide) j
theorem iv_38 (j : Nat) : R (sp 38 j).1 (sp 38 j).2 (hI 38 j) := r_full _
theorem iv_39 (j : Nat) : R (sp 39 j).1 (sp 39 j).2 (hI 39 j) := r_full _
theorem rzz_40 : ∀ j, 4 ≤ j → (spR 16 5 j).1 ≤ 0 ∧ 0 ≤ (spR 16 5 j).2 := fun j hj => by
  unfold spR
  rw [if_neg (by omega), if_neg (by omega), if_neg (by omega)]
  exact ⟨by decide, by decide⟩
theorem iv_40 (j : Nat) : R (sp 40 j).1 (sp 40 j).2 (hI 40 j) := zr_lz (f := spR 16 5) [16, 5, 0, 0] 4 rfl rzz_40 (by decide) j
theorem iv_41 (j : Nat) : R (sp 41 j).1 (sp 41 j).2 (hI 41 j) := zr_z0 (f := spC) (zr_C) j
theorem rzz_42 : ∀ j, 4 ≤ j → (spR 400 2 j).1 ≤ 0 ∧ 0 ≤ (spR 400 2 j).2 := fun j hj => by
  unfold spR
  rw [if_neg (by omega), if_neg (by omega), if_neg (by omega)]
  exact ⟨by decide, by decide⟩
theorem iv_42 (j : Nat) : R (sp 42 j).1 (sp 42 j).2 (hI 42 j) := zr_lz (f := spR 400 2) [400, 2, 0, 0] 4 rfl rzz_42 (by decide) j
theorem iv_43 (j : Nat) : R (sp 43 j).1 (sp 43 j).2 (hI 43 j) := r_full _
theorem rzz_44 : ∀ j, 4 ≤ j → (spR 16 5 j).1 ≤ 0 ∧ 0 ≤ (spR 16 5 j).2 := fun j hj => by
  unfold spR
  rw [if_neg (by omega), if_neg (by omega), if_neg (by omega)]
  exact ⟨by decide, by decide⟩
theorem iv_44 (j : Nat) : R (sp 44 j).1 (sp 44 j).2 (hI 44 j) := zr_lz (f := spR 16 5) [16, 5, 0, 0] 4 rfl rzz_44 (by decide) j
theorem iv_45 (j : Nat) : R (sp 45 j).1 (sp 45 j).2 (hI 45 j) := zr_z0 (f := spC) (zr_C) j
theorem rzz_46 : ∀ j, 4 ≤ j → (spR 16 5 j).1 ≤ 0 ∧ 0 ≤ (spR 16 5 j).2 := fun j hj => by
  unfold spR
  rw [if_neg (by omega), if_neg (by omega), if_neg (by omega)]
  exact ⟨by decide, by decide⟩
theorem iv_46 (j : Nat) : R (sp 46 j).1 (sp 46 j).2 (hI 46 j) := zr_lz (f := spR 16 5) [16, 5, 0, 0] 4 rfl rzz_46 (by decide) j
theorem iv_47 (j : Nat) : R (sp 47 j).1 (sp 47 j).2 (hI 47 j) := zr_z0 (f := spC) (zr_C) j
theorem rzz_48 : ∀ j, 4 ≤ j → (spR 16 5 j).1 ≤ 0 ∧ 0 ≤ (spR 16 5 j).2 := fun j hj => by
  unfold spR
  rw [if_neg (by omega), if_neg (by omega), if_neg (by omega)]
  exact ⟨by decide, by decide⟩
theorem iv_48 (j : Nat) : R (sp 48 j).1 (sp 48 j).2 (hI 48 j) := zr_lz (f := spR 16 5) [16, 5, 0, 0] 4 rfl rzz_48 (by decide) j
theorem iv_49 (j : Nat) : R (sp 49 j).1 (sp 49 j).2 (hI 49 j) := zr_z0 (f := spC) (zr_C) j
theorem rzz_50 : ∀ j, 4 ≤ j → (spR 150 4 j).1 ≤ 0 ∧ 0 ≤ (spR 150 4 j).2 := fun j hj => by
  unfold spR
  rw [if_neg (by omega), if_neg (by omega), if_neg (by omega)]
  exact ⟨by decide, by decide⟩
theorem iv_50 (j : Nat) : R (sp 50 j).1 (sp 50 j).2 (hI 50 j) := zr_lz (f := spR 150 4) [150, 4, 0, 0] 4 rfl rzz_50 (by decide) j
theorem iv_51 (j : Nat) : R (sp 51 j).1 (sp 51 j).2 (hI 51 j) := r_full _
theorem rzz_52 : ∀ j, 4 ≤ j → (spR 9 1 j).1 ≤ 0 ∧ 0 ≤ (spR 9 1 j).2 := fun j hj => by
  unfold spR
  rw [if_neg (by omega), if_neg (by omega), if_neg (by omega)]
  exact ⟨by decide, by decide⟩
theorem iv_52 (j : Nat) : R (sp 52 j).1 (sp 52 j).2 (hI 52 j) := zr_lz (f := spR 9 1) [9, 1, 0, 0] 4 rfl rzz_52 (by decide) j
theorem iv_53 (j : Nat) : R (sp 53 j).1 (sp 53 j).2 (hI 53 j) := r_full _
theorem rzz_54 : ∀ j, 4 ≤ j → (spR 8 1 j).1 ≤ 0 ∧ 0 ≤ (spR 8 1 j).2 := fun j hj => by
  unfold spR
  rw [if_neg (by omega), if_neg (by omega), if_neg (by omega)]
  exact ⟨by decide, by decide⟩
theorem iv_54 (j : Nat) : R (sp 54 j).1 (sp 54 j).2 (hI 54 j) := zr_lz (f := spR 8 1) [8, 1, 0, 0] 4 rfl rzz_54 (by decide) j
theorem iv_55 (j : Nat) : R (sp 55 j).1 (sp 55 j).2 (hI 55 j) := r_full _
theorem rzz_56 : ∀ j, 4 ≤ j → (spR 5 1 j).1 ≤ 0 ∧ 0 ≤ (spR 5 1 j).2 := fun j hj => by
  unfold spR
  rw [if_neg (by omega), if_neg (by omega), if_neg (by omega)]
  exact ⟨by decide, by decide⟩
theorem iv_56 (j : Nat) : R (sp 56 j).1 (sp 56 j).2 (hI 56 j) := zr_lz (f := spR 5 1) [5, 1, 0, 0] 4 rfl rzz_56 (by decide) j
theorem iv_57 (j : Nat) : R (sp 57 j).1 (sp 57 j).2 (hI 57 j) := r_full _
theorem rzz_58 : ∀ j, 4 ≤ j → (spR 8 2 j).1 ≤ 0 ∧ 0 ≤ (spR 8 2 j).2 := fun j hj => by
  unfold spR
  rw [if_neg (by omega), if_neg (by omega), if_neg (by omega)]
  exact ⟨by decide, by decide⟩
theorem iv_58 (j : Nat) : R (sp 58 j).1 (sp 58 j).2 (hI 58 j) := zr_lz (f := spR 8 2) [8, 2, 0, 0] 4 rfl rzz_58 (by decide) j
theorem iv_59 (j : Nat) : R (sp 59 j).1 (sp 59 j).2 (hI 59 j) := r_full _
theorem rzz_60 : ∀ j, 4 ≤ j → (spR 16 1 j).1 ≤ 0 ∧ 0 ≤ (spR 16 1 j).2 := fun j hj => by
  unfold spR
  rw [if_neg (by omega), if_neg (by omega), if_neg (by omega)]
  exact ⟨by decide, by decide⟩
theorem iv_60 (j : Nat) : R (sp 60 j).1 (sp 60 j).2 (hI 60 j) := zr_lz (f := spR 16 1) [16, 1, 0, 0] 4 rfl rzz_60 (by decide) j
theorem iv_61 (j : Nat) : R (sp 61 j).1 (sp 61 j).2 (hI 61 j) := r_full _
theorem rzz_62 : ∀ j, 4 ≤ j → (spR 6 2 j).1 ≤ 0 ∧ 0 ≤ (spR 6 2 j).2 := fun j hj => by
  unfold spR
  rw [if_neg (by omega), if_neg (by omega), if_neg (by omega)]
  exact ⟨by decide, by decide⟩
theorem iv_62 (j : Nat) : R (sp 62 j).1 (sp 62 j).2 (hI 62 j) := zr_lz (f := spR 6 2) [6, 2, 0, 0] 4 rfl rzz_62 (by decide) j
theorem iv_63 (j : Nat) : R (sp 63 j).1 (sp 63 j).2 (hI 63 j) := r_full _
theorem rzz_64 : ∀ j, 4 ≤ j → (spR 12 2 j).1 ≤ 0 ∧ 0 ≤ (spR 12 2 j).2 := fun j hj => by
  unfold spR
  rw [if_neg (by omega), if_neg (by omega), if_neg (by omega)]
  exact ⟨by decide, by decide⟩
theorem iv_64 (j : Nat) : R (sp 64 j).1 (sp 64 j).2 (hI 64 j) := zr_lz (f := spR 12 2) [12, 2, 0, 0] 4 rfl rzz_64 (by decide) j
theorem iv_65 (j : Nat) : R (sp 65 j).1 (sp 65 j).2 (hI 65 j) := r_full _
theorem rzz_66 : ∀ j, 4 ≤ j → (spR 8 2 j).1 ≤ 0 ∧ 0 ≤ (spR 8 2 j).2 := fun j hj => by
  unfold spR
  rw [if_neg (by omega), if_neg (by omega), if_neg (by omega)]
  exact ⟨by decide, by decide⟩
theorem iv_66 (j : Nat) : R (sp 66 j).1 (sp 66 j).2 (hI 66 j) := zr_lz (f := spR 8 2) [8, 2, 0, 0] 4 rfl rzz_66 (by decide) j
theorem iv_67 (j : Nat) : R (sp 67 j).1 (sp 67 j).2 (hI 67 j) := r_full _
theorem iv_68 (j : Nat) : R (sp 68 j).1 (sp 68 j).2 (hI 68 j) := zr_lz (f := spL [(3, 0, 1)]) [0, 0, 0, 1] 4 rfl (fun j _ => (zr_L _ (by decide)) j) (by decide) j
theorem iv_69 (j : Nat) : R (sp 69 j).1 (sp 69 j).2 (hI 69 j) := zr_lz (f := spL [(3, 0, 1)]) [0, 0, 0, 0] 4 rfl (fun j _ => (zr_L _ (by decide)) j) (by decide) j
theorem iv_70 (j : Nat) : R (sp 70 j).1 (sp 70 j).2 (hI 70 j) := zr_lz (f := spL [(2, 0, 5), (3, 0, 6)]) [0, 0, 0, 0] 4 rfl (fun j _ => (zr_L _ (by decide)) j) (by decide) j
theorem iv_71 (j : Nat) : R (sp 71 j).1 (sp 71 j).2 (hI 71 j) := r_full _
theorem iv_72 (j : Nat) : R (sp 72 j).1 (sp 72 j).2 (hI 72 j) := zr_z0 (f := spA 0 150) (zr_A (by decide)) j
theorem iv_73 (j : Nat) : R (sp 73 j).1 (sp 73 j).2 (hI 73 j) := zr_lz (f := spB) [0, 0, 0, 0, 0, 0, 0, 0] 8 rfl (fun j _ => zr_B j) (by decide) j
theorem iv_74 (j : Nat) : R (sp 74 j).1 (sp 74 j).2 (hI 74 j) := r_full _
theorem iv_75 (j : Nat) : R (sp 75 j).1 (sp 75 j).2 (hI 75 j) := zr_lz (f := spB) [0, 0, 0, 0, 0, 0, 0, 0] 8 rfl (fun j _ => zr_B j) (by decide) j
theorem iv_76 (j : Nat) : R (sp 76 j).1 (sp 76 j).2 (hI 76 j) := r_full _
theorem iv_77 (j : Nat) : R (sp 77 j).1 (sp 77 j).2 (hI 77 j) := zr_lz (f := spB) [0, 0, 0, 0, 0, 0, 0, 0] 8 rfl (fun j _ => zr_B j) (by decide) j
theorem iv_78 (j : Nat) : R (sp 78 j).1 (sp 78 j).2 (hI 78 j) := r_full _
theorem iv_79 (j : Nat) : R (sp 79 j).1 (sp 79 j).2 (hI 79 j) := zr_lz (f := spB) [0, 0, 0, 0, 0, 0, 0, 0] 8 rfl (fun j _ => zr_B j) (by decide) j
theorem iv_80 (j : Nat) : R (sp 80 j).1 (sp 80 j).2 (hI 80 j) := r_full _
theorem iv_81 (j : Nat) : R (sp 81 j).1 (sp 81 j).2 (hI 81 j) := zr_lz (f := spB) [0, 0, 0, 0, 0, 0, 0, 0] 8 rfl (fun j _ => zr_B j) (by decide) j
theorem iv_82 (j : Nat) : R (sp 82 j).1 (sp 82 j).2 (hI 82 j) := r_full _
theorem iv_83 (j : Nat) : R (sp 83 j).1 (sp 83 j).2 (hI 83 j) := zr_lz (f := spB) [0, 0, 0, 0, 0, 0, 0, 0] 8 rfl (fun j _ => zr_B j) (by decide) j
theorem iv_84 (j : Nat) : R (sp 84 j).1 (sp 84 j).2 (hI 84 j) := r_full _
theorem iv_85 (j : Nat) : R (sp 85 j).1 (sp 85 j).2 (hI 85 j) := zr_lz (f := spL [(4, 0, 400), (5, 0, 401)]) [0, 0, 0, 0, 0, 0] 6 rfl (fun j _ => (zr_L _ (by decide)) j) (by decide) j
theorem iv_86 (j : Nat) : R (sp 86 j).1 (sp 86 j).2 (hI 86 j) := r_full _
theorem iv_87 (j : Nat) : R (sp 87 j).1 (sp 87 j).2 (hI 87 j) := r_full _
theorem iv_88 (j : Nat) : R (sp 88 j).1 (sp 88 j).2 (hI 88 j) := r_full _
theorem iv_89 (j : Nat) : R (sp 89 j).1 (sp 89 j).2 (hI 89 j) := r_full _
theorem iv_90 (j : Nat) : R (sp 90 j).1 (sp 90 j).2 (hI 90 j) := zr_lz (f := spL [(8, 0, 12), (9, 0, 9999)]) [0, 0, 0, (-1), 0, 0, 0, 0, 0, 0] 10 rfl (fun j _ => (zr_L _ (by decide)) j) (by decide) j
theorem rzz_91 : ∀ j, 4 ≤ j → (spR 16 5 j).1 ≤ 0 ∧ 0 ≤ (spR 16 5 j).2 := fun j hj => by
  unfold spR
  rw [if_neg (by omega), if_neg (by omega), if_neg (by omega)]
  exact ⟨by decide, by decide⟩
theorem iv_91 (j : Nat) : R (sp 91 j).1 (sp 91 j).2 (hI 91 j) := zr_lz (f := spR 16 5) [16, 5, 0, 0] 4 rfl rzz_91 (by decide) j
theorem iv_92 (j : Nat) : R (sp 92 j).1 (sp 92 j).2 (hI 92 j) := zr_z0 (f := spC) (zr_C) j
theorem rzz_93 : ∀ j, 4 ≤ j → (spR 400 2 j).1 ≤ 0 ∧ 0 ≤ (spR 400 2 j).2 := fun j hj => by
  unfold spR
  rw [if_neg (by omega), if_neg (by omega), if_neg (by omega)]
  exact ⟨by decide, by decide⟩
theorem iv_93 (j : Nat) : R (sp 93 j).1 (sp 93 j).2 (hI 93 j) := zr_lz (f := spR 400 2) [400, 2, 0, 0] 4 rfl rzz_93 (by decide) j
theorem iv_94 (j : Nat) : R (sp 94 j).1 (sp 94 j).2 (hI 94 j) := r_full _
theorem iv_95 (j : Nat) : R (sp 95 j).1 (sp 95 j).2 (hI 95 j) := r_full _
theorem iv_96 (j : Nat) : R (sp 96 j).1 (sp 96 j).2 (hI 96 j) := r_full _
theorem iv_97 (j : Nat) : R (sp 97 j).1 (sp 97 j).2 (hI 97 j) := r_full _
theorem iv_98 (j : Nat) : R (sp 98 j).1 (sp 98 j).2 (hI 98 j) := r_full _
theorem iv_99 (j : Nat) : R (sp 99 j).1 (sp 99 j).2 (hI 99 j) := r_full _
theorem iv_100 (j : Nat) : R (sp 100 j).1 (sp 100 j).2 (hI 100 j) := r_full _
theorem iv_101 (j : Nat) : R (sp 101 j).1 (sp 101 j).2 (hI 101 j) := r_full _
theorem iv_102 (j : Nat) : R (sp 102 j).1 (sp 102 j).2 (hI 102 j) := r_full _
theorem iv_103 (j : Nat) : R (sp 103 j).1 (sp 103 j).2 (hI 103 j) := r_full _
theorem iv_104 (j : Nat) : R (sp 104 j).1 (sp 104 j).2 (hI 104 j) := zr_lz (f := spL [(3, 0, 6), (5, 0, 1), (6, 0, 12), (11, 0, 400), (12, 0, 400), (13, 0, 400), (33, 0, 16), (35, 0, 16), (37, 0, 16), (42, 0, 9), (45, 0, 8), (49, 0, 5), (51, 0, 8), (54, 0, 16), (57, 0, 6), (62, 0, 12), (66, 0, 8), (71, 0, 1), (72, 0, 1)]) [0, 0, 0, 0, 0, 0, 0, 0, 0, 0, 0, 0, 0, 0, 0, 0, 0, 0, 0, 0, 0, 0, 0, 0, 0, 0, 0, 0, 0, 0, 0, 0, (-1), 0, 0, 0, 0, 0, 0, 0, 0, 0, 0, 0, 0, 0, 0, 0, 0, 0, 0, 0, 0, 0, 0, 0, 0, 0, 0, 0, 0, 0, 0, 0, 0, 0, 0, 0, 0, 0, 0, 0, 0, 0, 0] 75 rfl (fun j _ => (zr_L _ (by decide)) j) (by decide) j
theorem iv_105 (j : Nat) : R (sp 105 j).1 (sp 105 j).2 (hI 105 j) := zr_z0 (f := spL [(2, 0, 150)]) (zr_L _ (by decide)) j
theorem iv_106 (j : Nat) : R (sp 106 j).1 (sp 106 j).2 (hI 106 j) := zr_z0 (f := spW) (zr_W) j
theorem iv_107 (j : Nat) : R (sp 107 j).1 (sp 107 j).2 (hI 107 j) := zr_z0 (f := spL [(2, 0, 150)]) (zr_L _ (by decide)) j
theorem iv_108 (j : Nat) : R (sp 108 j).1 (sp 108 j).2 (hI 108 j) := r_full _
theorem iv_109 (j : Nat) : R (sp 109 j).1 (sp 109 j).2 (hI 109 j) := r_full _
theorem iv_110 (j : Nat) : R (sp 110 j).1 (sp 110 j).2 (hI 110 j) := r_full _
theorem iv_111 (j : Nat) : R (sp 111 j).1 (sp 111 j).2 (hI 111 j) := r_full _
theorem wx_112 : ∀ j, j < 141 → (spX j).1 ≤ (wz_147 j).toInt ∧ (wz_147 j).toInt ≤ (spX j).2 := by decide +kernel
theorem iv_112 (j : Nat) : R (sp 112 j).1 (sp 112 j).2 (hI 112 j) := by
  by_cases h : j < 141
  · exact wx_112 j h
  · show R (spX j).1 (spX j).2 _
    unfold spX
    rw [if_neg h]
    exact r_full _
theorem iv_113 (j : Nat) : R (sp 113 j).1 (sp 113 j).2 (hI 113 j) := zr_z0 (f := spL [(0, 0, 16)]) (zr_L _ (by decide)) j
theorem iv_114 (j : Nat) : R (sp 114 j).1 (sp 114 j).2 (hI 114 j) := r_full _
theorem iv_115 (j : Nat) : R (sp 115 j).1 (sp 115 j).2 (hI 115 j) := r_full _
theorem iv_116 (j : Nat) : R (sp 116 j).1 (sp 116 j).2 (hI 116 j) := r_full _
theorem iv_117 (j : Nat) : R (sp 117 j).1 (sp 117 j).2 (hI 117 j) := r_full _
theorem iv_118 (j : Nat) : R (sp 118 j).1 (sp 118 j).2 (hI 118 j) := r_full _
theorem iv_119 (j : Nat) : R (sp 119 j).1 (sp 119 j).2 (hI 119 j) := r_full _
theorem iv_120 (j : Nat) : R (sp 120 j).1 (sp 120 j).2 (hI 120 j) := r_full _
theorem iv_121 (j : Nat) : R (sp 121 j).1 (sp 121 j).2 (hI 121 j) := r_full _
theorem iv_122 (j : Nat) : R (sp 122 j).1 (sp 122 j).2 (hI 122 j) := zr_z0 (f := spD) (zr_D) j
theorem iv_123 (j : Nat) : R (sp 123 j).1 (sp 123 j).2 (hI 123 j) := r_full _
theorem iv_124 (j : Nat) : R (sp 124 j).1 (sp 124 j).2 (hI 124 j) := r_full _
theorem iv_125 (j : Nat) : R (sp 125 j).1 (sp 125 j).2 (hI 125 j) := r_full _
theorem iv_126 (j : Nat) : R (sp 126 j).1 (sp 126 j).2 (hI 126 j) := r_full _
theorem iv_127 (j : Nat) : R (sp 127 j).1 (sp 127 j).2 (hI 127 j) := r_full _
theorem iv_128 (j : Nat) : R (sp 128 j).1 (sp 128 j).2 (hI 128 j) := r_full _
theorem iv_129 (j : Nat) : R (sp 129 j).1 (sp 129 j).2 (hI 129 j) := r_full _
theorem iv_130 (j : Nat) : R (sp 130 j).1 (sp 130 j).2 (hI 130 j) := r_full _
theorem iv_131 (j : Nat) : R (sp 131 j).1 (sp 131 j).2 (hI 131 j) := r_full _
theorem iv_132 (j : Nat) : R (sp 132 j).1 (sp 132 j).2 (hI 132 j) := r_full _
theorem iv_133 (j : Nat) : R (sp 133 j).1 (sp 133 j).2 (hI 133 j) := r_full _
theorem iv_134 (j : Nat) : R (sp 134 j).1 (sp 134 j).2 (hI 134 j) := r_full _
theorem iv_135 (j : Nat) : R (sp 135 j).1 (sp 135 j).2 (hI 135 j) := r_full _
theorem iv_136 (j : Nat) : R (sp 136 j).1 (sp 136 j).2 (hI 136 j) := r_full _
theorem iv_137 (j : Nat) : R (sp 137 j).1 (sp 137 j).2 (hI 137 j) := r_full _
theorem iv_138 (j : Nat) : R (sp 138 j).1 (sp 138 j).2 (hI 138 j) := r_full _
theorem iv_139 (j : Nat) : R (sp 139 j).1 (sp 139 j).2 (hI 139 j) := zr_z0 (f := spA 0 5) (zr_A (by decide)) j
theorem iv_140 (j : Nat) : R (sp 140 j).1 (sp 140 j).2 (hI 140 j) := zr_z0 (f := spA 0 5) (zr_A (by decide)) j
theorem iv_141 (j : Nat) : R (sp 141 j).1 (sp 141 j).2 (hI 141 j) := zr_z0 (f := spA 0 12) (zr_A (by decide)) j
theorem iv_142 (j : Nat) : R (sp 142 j).1 (sp 142 j).2 (hI 142 j) := r_full _
theorem iv_143 (j : Nat) : R (sp 143 j).1 (sp 143 j).2 (hI 143 j) := r_full _
theorem iv_144 (j : Nat) : R (sp 144 j).1 (sp 144 j).2 (hI 144 j) := r_full _
theorem iv_145 (j : Nat) : R (sp 145 j).1 (sp 145 j).2 (hI 145 j) := r_full _
theorem iv_146 (j : Nat) : R (sp 146 j).1 (sp 146 j).2 (hI 146 j) := r_full _
theorem iv_147 (j : Nat) : R (sp 147 j).1 (sp 147 j).2 (hI 147 j) := r_full _
theorem iv_148 (j : Nat) : R (sp 148 j).1 (sp 148 j).2 (hI 148 j) := zr_z0 (f := spI) (zr_I) j
set_option maxRecDepth 4000 in
theorem inv_first : Inv hI := fun c => match c with
  | 0 => iv_0
  | 1 => iv_1
  | 2 => iv_2
  | 3 => iv_3
  | 4 => iv_4
  | 5 => iv_5
  | 6 => iv_6
  | 7 => iv_7
  | 8 => iv_8
  | 9 => iv_9
  | 10 => iv_10
  | 11 => iv_11
  | 12 => iv_12
  | 13 => iv_13
  | 14 => iv_14
  | 15 => iv_15
  | 16 => iv_16
  | 17 => iv_17
  | 18 => iv_18
  | 19 => iv_19
  | 20 => iv_20
  | 21 => iv_21
  | 22 => iv_22
  | 23 => iv_23
  | 24 => iv_24
  | 25 => iv_25
  | 26 => iv_26
  | 27 => iv_27
  | 28 => iv_28
  | 29 => iv_29
  | 30 => iv_30
  | 31 => iv_31
  | 32 => iv_32
  | 33 => iv_33
  | 34 => iv_34
  | 35 => iv_35
  | 36 => iv_36
  | 37 => iv_37
  | 38 => iv_38
  | 39 => iv_39
  | 40 => iv_40
  | 41 => iv_41
  | 42 => iv_42
  | 43 => iv_43
  | 44 => iv_44
  | 45 => iv_45
  | 46 => iv_46
  | 47 => iv_47
  | 48 => iv_48
  | 49 => iv_49
  | 50 => iv_50
  | 51 => iv_51
  | 52 => iv_52
  | 53 => iv_53
  | 54 => iv_54
  | 55 => iv_55
  | 56 => iv_56
  | 57 => iv_57
  | 58 => iv_58
  | 59 => iv_59
  | 60 => iv_60
  | 61 => iv_61
  | 62 => iv_62
  | 63 => iv_63
  | 64 => iv_64
  | 65 => iv_65
  | 66 => iv_66
  | 67 => iv_67
  | 68 => iv_68
  | 69 => iv_69
  | 70 => iv_70
  | 71 => iv_71
  | 72 => iv_72
  | 73 => iv_73
  | 74 => iv_74
  | 75 => iv_75
  | 76 => iv_76
  | 77 => iv_77
  | 78 => iv_78
  | 79 => iv_79
  | 80 => iv_80
  | 81 => iv_81
  | 82 => iv_82
  | 83 => iv_83
  | 84 => iv_84
  | 85 => iv_85
  | 86 => iv_86
  | 87 => iv_87
  | 88 => iv_88
  | 89 => iv_89
  | 90 => iv_90
  | 91 => iv_91
  | 92 => iv_92
  | 93 => iv_93
  | 94 => iv_94
  | 95 => iv_95
  | 96 => iv_96
  | 97 => iv_97
  | 98 => iv_98
  | 99 => iv_99
  | 100 => iv_100
  | 101 => iv_101
  | 102 => iv_102
  | 103 => iv_103
  | 104 => iv_104
  | 105 => iv_105
  | 106 => iv_106
  | 107 => iv_107
  | 108 => iv_108
  | 109 => iv_109
  | 110 => iv_110
  | 111 => iv_111
  | 112 => iv_112
  | 113 => iv_113
  | 114 => iv_114
  | 115 => iv_115
  | 116 => iv_116
  | 117 => iv_117
  | 118 => iv_118
  | 119 => iv_119
  | 120 => iv_120
  | 121 => iv_121
  | 122 => iv_122
  | 123 => iv_123
  | 124 => iv_124
  | 125 => iv_125
  | 126 => iv_126
  | 127 => iv_127
  | 128 => iv_128
  | 129 => iv_129
  | 130 => iv_130
  | 131 => iv_131
  | 132 => iv_132
  | 133 => iv_133
  | 134 => iv_134
  | 135 => iv_135
  | 136 => iv_136
  | 137 => iv_137
  | 138 => iv_138
  | 139 => iv_139
  | 140 => iv_140
  | 141 => iv_141
  | 142 => iv_142
  | 143 => iv_143
  | 144 => iv_144
  | 145 => iv_145
  | 146 => iv_146
  | 147 => iv_147
  | 148 => iv_148
  | c + 149 => fun j => by
    show R (sp (c + 149) j).1 (sp (c + 149) j).2 (hI (c + 149) j)
    have e : sp (c + 149) j = rF := by
      unfold sp
      rw [List.getD_eq_getElem?_getD, List.getElem?_eq_none (by show spT.length ≤ c + 149; have : spT.length = 149 := rfl; omega)]
      rfl
    rw [e]
    exact r_full _
theorem im_first : IM hI := ⟨inv_first, fun l q => by
    have e : (hI 113 0).toInt = 0 := rfl
    omega, fun l q => by
    have e : (hI 148 985).toInt = 0 := rfl
    omega⟩
theorem gi_first : GI hI := Or.inl ⟨rfl, rfl⟩
/-- pans -/
theorem pa30 (p1 p2 : Int32) (h : PH) (i : IM h) (k0 : Option (Int32 × PH)) (hk : Sf k0 (fun r => R (-2147483648) 2147483647 r.1 ∧ IM r.2)) : ∀ (n : Nat) (v3 : Int32), 8 - v3.toInt < (n : Int) → R 0 8 v3 → Sf (mm_pans_L30 p1 p2 h k0 n v3) (fun r => R (-2147483648) 2147483647 r.1 ∧ IM r.2) := by
  intro n
  induction n with
  | zero => intro v3 hf f; have := f.2; omega
  | succ n ih =>
    intro v3 hf f
    rw [mm_pans_L30]
    have fm : R 0 8 (h 104 45) := inv_rng i.1 rfl
    refine s_if (fun _ => hk) (fun c => ?_)
    have f5 : R 0 7 v3 := lt_hi f fm (nle_lt c) (by decide)
    refine s_ck f5 (by decide) ?_
    refine s_if (fun _ => ?_) (fun _ => s_some ⟨r_full _, i⟩)
    exact ih (v3 + 1) (fu_su hf (i_inc f5 (k := 1) rfl (by decide)) (by decide)) (r_w (r_add f5 (show R 1 1 (1 : Int32) from ⟨by decide, by decide⟩) (e := 1) (f := 8) (by decide)) (by decide))
theorem sf_m_pans (p1 p2 : Int32) {h0 : PH} (i : IM h0) : Sf (mm_pans p1 p2 h0) (fun r => R (-2147483648) 2147483647 r.1 ∧ IM r.2) := by
  unfold mm_pans
  rw [lt_e]
  have i1 : IM (up h0 104 0 0) := im_put i (show sp 104 0 = (-2147483648, 2147483647) from rfl) (r_full _) (by decide)
  refine s_isin (fun r2 _ _ => ?_)
  refine s_if (fun _ => s_some ⟨r_full _, i1⟩) (fun _ => ?_)
  refine s_isin (fun r3 _ _ => ?_)
  refine s_if (fun _ => s_some ⟨r_full _, i1⟩) (fun _ => ?_)
  refine pa30 p1 p2 _ i1 _ ?_ FU 0 (fu_up (show R 0 0 (0 : Int32) from ⟨by decide, by decide⟩) (by decide)) ⟨by decide, by decide⟩
  refine s_if (fun _ => ?_) (fun _ => ?_)
  · exact s_bd2 (sf_m_fewestPans p1 i1) (fun r4 h5 q => s_some ⟨r_full _, q.2⟩)
  · exact s_bd2 (sf_m_firstPans p1 i1) (fun r4 h5 q => s_some ⟨r_full _, q.2⟩)
end
