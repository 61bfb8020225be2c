/-! SAFETY of the model's ovens: the orders go up, so they come to an end -/
def OI (h : PH) (m : Nat) : Prop := ∀ j, j < m → ∀ l, l < m → h 139 j = h 139 l → j = l
def cdO (h : PH) : Int := 7776 * (h 139 0).toInt + 1296 * (h 139 1).toInt + 216 * (h 139 2).toInt + 36 * (h 139 3).toInt + 6 * (h 139 4).toInt + (h 139 5).toInt
theorem rO {h : PH} (i : IM h) (j : Nat) : R 0 5 (h 139 j) := inv_rng i.1 rfl
theorem putO {h : PH} (i : IM h) (j : Nat) {v : Int32} (f : R 0 5 v) : IM (up h 139 j v) := im_put i (show sp 139 j = (0, 5) from rfl) f (by decide)
theorem cd_le {h : PH} (i : IM h) : 0 ≤ cdO h ∧ cdO h ≤ 46655 := by
  have a0 := rO i 0
  have a1 := rO i 1
  have a2 := rO i 2
  have a3 := rO i 3
  have a4 := rO i 4
  have a5 := rO i 5
  unfold R at a0 a1 a2 a3 a4 a5
  unfold cdO
  omega
theorem cd_up {h g : PH} (i : IM h) (ig : IM g) (q : Nat) (hq : q < 5) (hs : ∀ j, j < q → g 139 j = h 139 j) (hl : (h 139 q).toInt < (g 139 q).toInt) : cdO h < cdO g := by
  have a0 := rO i 0
  have a1 := rO i 1
  have a2 := rO i 2
  have a3 := rO i 3
  have a4 := rO i 4
  have a5 := rO i 5
  have b0 := rO ig 0
  have b1 := rO ig 1
  have b2 := rO ig 2
  have b3 := rO ig 3
  have b4 := rO ig 4
  have b5 := rO ig 5
  unfold R at a0 a1 a2 a3 a4 a5 b0 b1 b2 b3 b4 b5
  unfold cdO
  match q, hq, hs, hl with
  | 0, _, hs, hl => omega
  | 1, _, hs, hl => rw [hs 0 (by decide)]; omega
  | 2, _, hs, hl => rw [hs 0 (by decide), hs 1 (by decide)]; omega
  | 3, _, hs, hl => rw [hs 0 (by decide), hs 1 (by decide), hs 2 (by decide)]; omega
  | 4, _, hs, hl => rw [hs 0 (by decide), hs 1 (by decide), hs 2 (by decide), hs 3 (by decide)]; omega
  | q + 5, hq, _, _ => omega
theorem swO {h : PH} {m a b : Nat} (o : OI h m) (ha : a < m) (hb : b < m) : OI (up (up h 139 a (h 139 b)) 139 b (h 139 a)) m := by
  intro j hj l hl e
  simp only [up_at, if_true] at e
  by_cases j1 : j = b
  · by_cases l1 : l = b
    · rw [j1, l1]
    · by_cases l2 : l = a
      · simp only [j1, l1, l2, if_true, if_false] at e
        have := o a ha b hb (by
          by_cases q : a = b
          · rw [q]
          · simpa [q] using e)
        rw [j1, l2, this]
      · simp only [j1, l1, l2, if_true, if_false] at e
        exact absurd (o a ha l hl e).symm l2
  · by_cases j2 : j = a
    · by_cases l1 : l = b
      · have ab : ¬ a = b := fun q => j1 (by rw [j2, q])
        simp only [j2, ab, l1, if_true, if_false] at e
        exact absurd (o b hb a ha e).symm ab
      · by_cases l2 : l = a
        · rw [j2, l2]
        · have ab : ¬ a = b := fun q => j1 (by rw [j2, q])
          simp only [j2, ab, l1, l2, if_true, if_false] at e
          exact absurd (o b hb l hl e).symm l1
    · by_cases l1 : l = b
      · simp only [j1, j2, l1, if_true, if_false] at e
        exact absurd (o j hj a ha e) j2
      · by_cases l2 : l = a
        · have ab : ¬ a = b := fun q => l1 (by rw [l2, q])
          simp only [j1, j2, l2, ab, if_true, if_false] at e
          exact absurd (o j hj b hb e) j1
        · simp only [j1, j2, l1, l2, if_false] at e
          exact o j hj l hl e
theorem rev109 (m i : Nat) (hm : m ≤ 6) (o : PH) : ∀ (n a b : Nat) (h : PH), b + 1 < n + a → 1 ≤ n → b < m → i < a → a ≤ 7 → IM h → OI h m → (∀ j, j ≤ i → h 139 j = o 139 j) → h 104 57 = nI m → Sf (mm_goesToNextOrder_L109 n (nI b) (nI a) h) (fun r => r.1 = 1 ∧ IM r.2 ∧ OI r.2 m ∧ (∀ j, j ≤ i → r.2 139 j = o 139 j) ∧ r.2 104 57 = nI m) := by
  intro n
  induction n with
  | zero =>
    intro a b h h1 hn h2 h3 h3b ii oi fr e
    omega
  | succ n ih =>
    intro a b h h1 hn h2 h3 h3b ii oi fr e
    rw [mm_goesToNextOrder_L109]
    by_cases hab : b ≤ a
    · rw [if_pos (nI_le hab (by omega))]
      exact s_some ⟨rfl, ii, oi, fr, e⟩
    · rw [if_neg (nI_ge (by omega) (by omega)), ck_nI (by omega) (by omega), lt_e, ck_nI (by omega) (by omega), ck_nI (by omega) (by omega), lt_e, ck_nI (by omega) (by omega), lt_e, lt_e, show ix (nI a) = a from nI_clamp (by omega), show ix (nI b) = b from nI_clamp (by omega), nI_1]
      obtain ⟨c, rfl⟩ : ∃ c, b = c + 1 := ⟨b - 1, by omega⟩
      rw [nI_pred]
      refine ih (a + 1) c _ (by omega) (by omega) (by omega) (by omega) (by omega) (putO (putO ii a (rO ii _)) _ (rO ii a)) (swO oi (by omega) h2) (fun j hj => ?_) (by rw [up_oc (by decide), up_oc (by decide)]; exact e)
      have j1 : ¬ j = c + 1 := by omega
      have j2 : ¬ j = a := by omega
      rw [← fr j hj]
      simp [up_at, j1, j2]
theorem nx48 (m i : Nat) (him : i + 1 < m) (hm : m ≤ 6) (h : PH) (hle : (h 139 i).toInt ≤ (h 139 (i + 1)).toInt) (k0 : Int32 → Option (Int32 × PH)) {Q : Int32 × PH → Prop} (hk : ∀ k, i < k → k < m → (h 139 i).toInt ≤ (h 139 k).toInt → Sf (k0 (nI k)) Q) : ∀ (n k : Nat), k < n + i → i < k → k < m → Sf (mm_goesToNextOrder_L48 (nI i) h k0 n (nI k)) Q := by
  intro n
  induction n with
  | zero => intro k h1 h2; omega
  | succ n ih =>
    intro k h1 h2 h3
    rw [mm_goesToNextOrder_L48, ck_nI (by omega) (by omega), ck_nI (by omega) (by omega), show ix (nI i) = i from nI_clamp (by omega), show ix (nI k) = k from nI_clamp (by omega)]
    refine s_if (fun c => ?_) (fun c => ?_)
    · rw [Int32.le_iff_toInt_le] at c
      exact hk k h2 h3 c
    · rw [Int32.le_iff_toInt_le] at c
      have : ¬ k = i + 1 := fun q => by subst q; exact c hle
      obtain ⟨k', rfl⟩ : ∃ k', k = k' + 1 := ⟨k - 1, by omega⟩
      rw [lt_e, nI_pred]
      exact ih k' (by omega) (by omega) (by omega)
theorem nx7 (m : Nat) (hm : m ≤ 6) (h : PH) (k0 : Int32 → Option (Int32 × PH)) {Q : Int32 × PH → Prop} (hk0 : ∀ x : Int32, x < 0 → Sf (k0 x) Q) (hk : ∀ i, i + 1 < m → (h 139 i).toInt ≤ (h 139 (i + 1)).toInt → Sf (k0 (nI i)) Q) : ∀ (n i : Nat), i + 1 < n → i + 1 < m → Sf (mm_goesToNextOrder_L7 h k0 n (nI i)) Q := by
  intro n
  induction n with
  | zero =>
    intro i h1 h2
    omega
  | succ n ih =>
    intro i h1 h2
    rw [mm_goesToNextOrder_L7, if_neg (nI_pos (by omega)), ck_nI (by omega) (by omega), nI_1, ck_nI (by omega) (by omega), show ix (nI i) = i from nI_clamp (by omega), show ix (nI (i + 1)) = i + 1 from nI_clamp (by omega)]
    refine s_if (fun c => ?_) (fun c => ?_)
    · rw [Int32.le_iff_toInt_le] at c
      exact hk i h2 c
    · rw [lt_e]
      match i, h1, h2 with
      | 0, h1, _ =>
        obtain ⟨n', rfl⟩ : ∃ n', n = n' + 1 := ⟨n - 1, by omega⟩
        rw [mm_goesToNextOrder_L7, if_pos (show nI 0 - 1 < 0 by decide)]
        exact hk0 _ (by decide)
      | i + 1, h1, h2 =>
        rw [nI_pred]
        exact ih i (by omega) (by omega)
theorem sf_next (h : PH) (m : Nat) (hm : m ≤ 6) (i : IM h) (oi : OI h m) (e : h 104 57 = nI m) : Sf (mm_goesToNextOrder h) (fun r => IM r.2 ∧ (r.1 = 0 ∨ (r.1 = 1 ∧ OI r.2 m ∧ r.2 104 57 = nI m ∧ cdO h < cdO r.2))) := by
  unfold mm_goesToNextOrder
  rw [lt_e, e]
  have stop : ∀ x : Int32, x < 0 → Sf (if 0 ≤ x then
      lt (nI m - 1) fun x4 =>
      mm_goesToNextOrder_L48 x h (fun (x6 : Int32) =>
        ck x 6 <|
        lt (h 139 (ix x)) fun x7 =>
        ck x6 6 <|
        ck x 6 <|
        lt (up h 139 (ix x) (h 139 (ix x6))) fun h8 =>
        ck x6 6 <|
        lt (up h8 139 (ix x6) x7) fun h9 =>
        lt ((h9 104 57) - 1) fun x10 =>
        lt (x + 1) fun x11 =>
        mm_goesToNextOrder_L109 FU x10 x11 h9) FU x4
    else
      some (0, h)) (fun r => IM r.2 ∧ (r.1 = 0 ∨ (r.1 = 1 ∧ OI r.2 m ∧ r.2 104 57 = nI m ∧ cdO h < cdO r.2))) := fun x hx => by
    rw [if_neg (Int32.not_le.mpr hx)]
    exact s_some ⟨i, Or.inl rfl⟩
  match m, hm, oi, e, stop with
  | 0, _, _, _, stop =>
    rw [show FU = 99999 + 1 from rfl, mm_goesToNextOrder_L7, if_pos (show nI 0 - 2 < 0 by decide)]
    exact stop _ (by decide)
  | 1, _, _, _, stop =>
    rw [show FU = 99999 + 1 from rfl, mm_goesToNextOrder_L7, if_pos (show nI 1 - 2 < 0 by decide)]
    exact stop _ (by decide)
  | m + 2, hm, oi, e, stop =>
    rw [show nI (m + 2) - 2 = nI m from by rw [show (2 : Int32) = nI 2 from rfl, nI_sub (by omega)]; rfl]
    refine nx7 (m + 2) hm h _ stop (fun q hq hle => ?_) FU m (by unfold FU; omega) (by omega)
    rw [if_pos (nI_pos' (by omega)), lt_e, nI_pred]
    refine nx48 (m + 2) q hq hm h hle _ (fun k hk1 hk2 hk3 => ?_) FU (m + 1) (by unfold FU; omega) (by omega) (by omega)
    rw [ck_nI (by omega) (by omega), lt_e, ck_nI (by omega) (by omega), ck_nI (by omega) (by omega), lt_e, ck_nI (by omega) (by omega), lt_e, lt_e, lt_e, show ix (nI q) = q from nI_clamp (by omega), show ix (nI k) = k from nI_clamp (by omega), nI_1]
    have e9 : up (up h 139 q (h 139 k)) 139 k (h 139 q) 104 57 = nI (m + 2) := by rw [up_oc (by decide), up_oc (by decide)]; exact e
    rw [e9, nI_pred]
    have i9 : IM (up (up h 139 q (h 139 k)) 139 k (h 139 q)) := putO (putO i q (rO i k)) k (rO i q)
    refine s_w (rev109 (m + 2) q hm (up (up h 139 q (h 139 k)) 139 k (h 139 q)) FU (q + 1) (m + 1) _ (by unfold FU; omega) (by unfold FU; omega) (by omega) (by omega) (by omega) i9 (swO oi (by omega) hk2) (fun _ _ => rfl) e9) (fun r hr => ?_)
    obtain ⟨r1, r2, r3, r4, r5⟩ := hr
    refine ⟨r2, Or.inr ⟨r1, r3, r5, cd_up i r2 q (by omega) (fun j hj => ?_) ?_⟩⟩
    · rw [r4 j (by omega)]
      have j1 : ¬ j = k := by omega
      have j2 : ¬ j = q := by omega
      simp [up_at, j1, j2]
    · rw [r4 q (Nat.le_refl _)]
      have kq : ¬ q = k := by omega
      have e1 : up (up h 139 q (h 139 k)) 139 k (h 139 q) 139 q = h 139 k := by simp [up_at, kq]
      rw [e1]
      have ne : ¬ (h 139 q).toInt = (h 139 k).toInt := fun w => by
        have := oi q (by omega) k hk2 (Int32.toInt_inj.mp w)
        omega
      omega
