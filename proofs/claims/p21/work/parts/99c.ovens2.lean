/-! SAFETY of the model's ovens, the call -/
theorem dn6 (h : PH) (i : IM h) : ∀ (n : Nat) (v1 v2 v3 : Int32), 6 - v3.toInt < (n : Int) → R 0 6 v3 → Sf (mm_doneBy_L6 h n v1 v2 v3) (fun r => R (-2147483648) 2147483647 r) := by
  intro n
  induction n with
  | zero => intro v1 v2 v3 hf f; have := f.2; omega
  | succ n ih =>
    intro v1 v2 v3 hf f
    rw [mm_doneBy_L6]
    have fm : R 0 6 (h 104 57) := inv_rng i.1 rfl
    refine s_if (fun _ => s_some (r_full _)) (fun c => ?_)
    have f5 : R 0 5 v3 := lt_hi f fm (nle_lt c) (by decide)
    refine s_ck f5 (by decide) (s_ck (rO i _) (by decide) ?_)
    rw [lt_e]
    refine s_bd (sf_m_greater _ _ i) (fun r2 _ => ?_)
    refine s_ck f5 (by decide) (s_ck (rO i _) (by decide) ?_)
    rw [lt_e]
    exact ih _ _ (v3 + 1) (fu_su hf (i_inc f5 (k := 1) rfl (by decide)) (by decide)) (r_w (r_add f5 (show R 1 1 (1 : Int32) from ⟨by decide, by decide⟩) (e := 1) (f := 6) (by decide)) (by decide))
theorem sf_m_doneBy (h : PH) (i : IM h) : Sf (mm_doneBy h) (fun r => R (-2147483648) 2147483647 r) := dn6 h i FU 0 0 0 (fu_up (show R 0 0 (0 : Int32) from ⟨by decide, by decide⟩) (by decide)) ⟨by decide, by decide⟩
theorem ov70 (p1 p2 p4 : Int32) (o : PH) (k0 : PH → Option (Int32 × PH)) {Q : Int32 × PH → Prop} (hk : ∀ g, IM g → (∀ b, b ≠ 140 → g b = o b) → Sf (k0 g) Q) : ∀ (n : Nat) (v5 : Int32) (h : PH), 6 - v5.toInt < (n : Int) → R 0 6 v5 → IM h → (∀ b, b ≠ 140 → h b = o b) → Sf (mm_ovens_L70 p1 p2 p4 k0 n v5 h) Q := by
  intro n
  induction n with
  | zero => intro v5 h hf f; have := f.2; omega
  | succ n ih =>
    intro v5 h hf f i fr
    rw [mm_ovens_L70]
    have fm : R 0 6 (h 104 57) := inv_rng i.1 rfl
    refine s_if (fun _ => hk h i fr) (fun c => ?_)
    refine s_if (fun _ => hk h i fr) (fun _ => ?_)
    have f5 : R 0 5 v5 := lt_hi f fm (nle_lt c) (by decide)
    refine s_ck f5 (by decide) (s_ck f5 (by decide) ?_)
    rw [lt_e]
    exact ih (v5 + 1) _ (fu_su hf (i_inc f5 (k := 1) rfl (by decide)) (by decide)) (r_w (r_add f5 (show R 1 1 (1 : Int32) from ⟨by decide, by decide⟩) (e := 1) (f := 6) (by decide)) (by decide)) (im_put i (show sp 140 _ = (0, 5) from rfl) (rO i _) (by decide)) (fun b hb => by rw [← fr b hb]; funext j; simp [up_at, hb])
theorem cd_fr {h g : PH} (e : g 139 = h 139) : cdO g = cdO h := by unfold cdO; rw [e]
theorem oi_fr {h g : PH} {m : Nat} (e : g 139 = h 139) (o : OI h m) : OI g m := by unfold OI; rw [e]; exact o
theorem ov57 (p1 : Int32) (m : Nat) (hm : m ≤ 6) (k0 : Int32 → PH → Option (Int32 × PH)) {Q : Int32 × PH → Prop} (hk : ∀ x g, IM g → Sf (k0 x g) Q) : ∀ (n : Nat) (v2 v3 : Int32) (h : PH), 1 ≤ n → IM h → (v3 = 0 ∨ (v3 = 1 ∧ OI h m ∧ h 104 57 = nI m ∧ 46656 - cdO h < (n : Int))) → Sf (mm_ovens_L57 p1 k0 n v2 v3 h) Q := by
  intro n
  induction n with
  | zero => intro v2 v3 h h1; omega
  | succ n ih =>
    intro v2 v3 h h1 i st
    rw [mm_ovens_L57]
    refine s_if (fun _ => hk _ _ i) (fun c => ?_)
    rcases st with q | ⟨q, oi, e, hn⟩
    · exact absurd q c
    · have cl := cd_le i
      refine s_bd (sf_m_doneBy h i) (fun r5 _ => ?_)
      refine ov70 p1 v2 r5 h _ (fun h7 i7 f7 => ?_) FU 0 h (fu_up (show R 0 0 (0 : Int32) from ⟨by decide, by decide⟩) (by decide)) ⟨by decide, by decide⟩ i (fun _ _ => rfl)
      refine s_bd (sf_m_lesser v2 r5 i7) (fun r8 _ => ?_)
      have e139 := f7 139 (by decide)
      refine s_bd2 (sf_next h7 m hm i7 (oi_fr e139 oi) (by rw [f7 104 (by decide)]; exact e)) (fun r9 h10 hr => ?_)
      obtain ⟨i10, w⟩ := hr
      refine ih r8 r9 h10 (by omega) i10 ?_
      rcases w with w | ⟨w1, w2, w3, w4⟩
      · exact Or.inl w
      · refine Or.inr ⟨w1, w2, w3, ?_⟩
        have w4 : cdO h7 < cdO h10 := w4
        rw [cd_fr e139] at w4
        omega
theorem ov30 (p1 : Int32) (m : Nat) (hm : m ≤ 6) (k0 : PH → Option (Int32 × PH)) {Q : Int32 × PH → Prop} (hk : ∀ g, IM g → OI g m → g 104 57 = nI m → Sf (k0 g) Q) : ∀ (n k : Nat) (h : PH), m < n + k → k ≤ m → IM h → h 104 57 = nI m → (∀ j, j < k → h 139 j = nI j) → Sf (mm_ovens_L30 p1 k0 n (nI k) h) Q := by
  intro n
  induction n with
  | zero => intro k h h1 h2; omega
  | succ n ih =>
    intro k h h1 h2 i e fr
    rw [mm_ovens_L30, e]
    by_cases hkm : k = m
    · subst hkm
      rw [if_pos (nI_le (Nat.le_refl _) (by omega))]
      refine hk h i (fun j hj l hl q => ?_) e
      rw [fr j hj, fr l hl] at q
      exact (nI_eq (by omega) (by omega)).mp q
    · rw [if_neg (nI_ge (by omega) (by omega)), ck_nI (by omega) (by omega), lt_e, nI_1, show ix (nI k) = k from nI_clamp (by omega)]
      refine ih (k + 1) _ (by omega) (by omega) (putO i k ⟨by rw [nI_toInt (by omega)]; omega, by rw [nI_toInt (by omega)]; omega⟩) (by rw [up_oc (by decide)]; exact e) (fun j hj => ?_)
      by_cases jk : j = k
      · subst jk; exact up_same
      · rw [up_oj jk]; exact fr j (by omega)
theorem sf_m_ovens (p1 : Int32) {h0 : PH} (i : IM h0) : Sf (mm_ovens p1 h0) (fun r => R (-2147483648) 2147483647 r.1 ∧ IM r.2) := by
  unfold mm_ovens
  rw [lt_e, jn0_e]
  have i1 : IM (up h0 104 0 0) := im_put i (show sp 104 0 = (-2147483648, 2147483647) from rfl) (r_full _) (by decide)
  have fm : R 0 6 (up h0 104 0 0 104 57) := inv_rng i1.1 rfl
  obtain ⟨m, m1, m2, em⟩ := nat_of fm (by decide)
  have go : (p1 = 0 ∨ R 10 15 p1) → Sf (mm_ovens_L30 p1 (fun (h4 : PH) =>
      mm_ovens_L57 p1 (fun (x11 : Int32) (h12 : PH) =>
        if p1 = 0 then
          some (x11, h12)
        else
          ck (p1 - 10) 6 <|
          some (h12 140 (ix (p1 - 10)), h12)) FU 100000000 1 h4) FU 0 (up h0 104 0 0)) (fun r => R (-2147483648) 2147483647 r.1 ∧ IM r.2) := fun hp => by
    have := ov30 p1 m (by omega) (fun (h4 : PH) =>
      mm_ovens_L57 p1 (fun (x11 : Int32) (h12 : PH) =>
        if p1 = 0 then
          some (x11, h12)
        else
          ck (p1 - 10) 6 <|
          some (h12 140 (ix (p1 - 10)), h12)) FU 100000000 1 h4) (Q := fun r => R (-2147483648) 2147483647 r.1 ∧ IM r.2) (fun g ig og eg => ?_) FU 0 (up h0 104 0 0) (by unfold FU; omega) (by omega) i1 em (fun j hj => by omega)
    · rw [nI_0] at this
      exact this
    · refine ov57 p1 m (by omega) _ (fun x11 h12 i12 => ?_) FU _ 1 g (by unfold FU; omega) ig (Or.inr ⟨rfl, og, eg, by have := cd_le ig; have e : ((FU : Nat) : Int) = 100000 := rfl; omega⟩)
      refine s_if (fun _ => s_some ⟨r_full _, i12⟩) (fun c => ?_)
      rcases hp with q | q
      · exact absurd q c
      · exact s_ck (r_sub q (show R 10 10 (10 : Int32) from ⟨by decide, by decide⟩) (e := 0) (f := 5) (by decide)) (by decide) (s_some ⟨r_full _, i12⟩)
  refine s_if (fun c => go (Or.inl c)) (fun c => ?_)
  refine s_isin (fun r13 _ c13 => ?_)
  refine s_if (fun _ => s_some ⟨r_full _, i1⟩) (fun n13 => ?_)
  have q := c13 n13
  have f9 : R 9 15 (9 + up h0 104 0 0 104 57) := r_add (show R 9 9 (9 : Int32) from ⟨by decide, by decide⟩) fm (by decide)
  exact go (Or.inr (le_hi (le_lo (show R 10 10 (10 : Int32) from ⟨by decide, by decide⟩) (r_full p1) q.1) f9 q.2))
