/-! calls whose numbers aren't looked into -/
theorem has0 (x : Int32) : mB_has 1 x hI = some 0 := by
  unfold mB_has
  by_cases c : x < 0
  · rw [if_pos c]
  · rw [if_neg c, if_pos (show hI 1 1 ≤ x from Int32.not_lt.mp c)]
theorem ho0 {h : PH} (e : h 104 6 = 0) (x : Int32) : mm_isHouse x h = some 0 := by
  unfold mm_isHouse
  by_cases c : x < 0
  · rw [if_pos c]
  · rw [if_neg c, if_pos (show h 104 6 ≤ x by rw [e]; exact Int32.not_lt.mp c)]
theorem hu6 : up hI 104 0 0 104 6 = 0 := rfl
theorem ex_of (a b : Int32) : ∃ h2, pc_of a b hI = some h2 := by
  simp [pc_of, mX_of, mm_of, has0, ho0 hu6, bd, bd2, lt]
theorem ex_stands (a : Int32) : ∃ h2, pc_stands a hI = some h2 := by
  simp [pc_stands, mX_stands, mm_stands, has0, ho0 hu6, bd, bd2, lt]
theorem ex_heard (a b : Int32) : ∃ h2, pc_heard a b hI = some h2 := by
  simp [pc_heard, mX_heard, mm_heard, has0, ho0 hu6, bd, bd2, lt]
theorem ex_hears (a b : Int32) : ∃ h2, pc_hears a b hI = some h2 := by
  simp [pc_hears, mX_hears, mm_hears, mX_cheapestWay, mm_costOf, has0, ho0 hu6, bd, bd2, lt]
theorem ex_ants (a b : Int32) : ∃ h2, pc_ants a b hI = some h2 := by
  simp [pc_ants, mX_ants, mm_ants, mX_cheapestWay, mm_costOf, has0, ho0 hu6, bd, bd2, lt]
theorem ex_act (a b c : Int32) : ∃ h2, pc_act a b c hI = some h2 := by
  simp [pc_act, mX_act, mm_act, mS_mayAct, mm_canAct, show sT 68 = 1 from rfl, has0, ho0 hu6, bd, bd2, lt]
theorem ex_set (a b c : Int32) : ∃ h2, pc_set a b c hI = some h2 := by
  simp only [pc_set, mX_set, mm_set, mm_canSet, within_eq, isIn_eq, has0, ho0 hu6, bd, lt, jn1]
  by_cases c1 : a = 8
  · subst c1
    by_cases c2 : 0 ≤ c ∧ c ≤ 9
    · simp only [c2, and_self, if_true, show ¬ (1 : Int32) = 0 by decide, if_false]
      exact ⟨_, rfl⟩
    · simp only [c2, if_false, if_true]
      exact ⟨_, rfl⟩
  · simp only [c1, if_false]
    by_cases c2 : 0 ≤ a ∧ a ≤ 7
    · simp [c2, bd2, ho0 hu6]
    · simp [c2, bd2, ho0 hu6]
/-! a house -/
theorem wr_at {a0 i k n : Nat} {h : PH} (e : h a0 1 = nI n) (hi : i < n) (hn : n ≤ 12) (hk : k < 11) (v : Int32) : mB_write a0 (nI i) (nI k) v h = some (up h (a0 + 1) (11 * i + k) v) := by
  unfold mB_write
  have e1 : nI i * 11 + nI k = nI (11 * i + k) := by
    rw [show nI i * 11 = nI (i * 11) from (Int32.ofNat_mul i 11).symm, nI_add, Nat.mul_comm]
  rw [if_neg (nI_pos (by omega)), e, if_neg (nI_ge hi (by omega)), if_neg (nI_pos (by omega)), if_neg (show ¬ (11 : Int32) ≤ nI k from nI_ge (b := 11) hk (by omega)), e1, ck_nI (by omega) (by omega), show ix (nI (11 * i + k)) = 11 * i + k from nI_clamp (by omega)]
  rfl
theorem bu_19 (a0 n : Nat) (hn : n < 12) (p1 p2 p3 : Int32) (k0 : PH → Option (Int32 × PH)) : ∀ (f w : Nat) (h : PH), 4 < f + w → w ≤ 4 → h a0 1 = nI (n + 1) → ∃ h', mB_build_L19 a0 p1 p2 p3 (nI n) k0 f (nI w) h = k0 h' ∧ ∀ b, b ≠ a0 + 1 → h' b = h b := by
  intro f
  induction f with
  | zero => intro w h h1 h2; omega
  | succ f ih =>
    intro w h h1 h2 e
    rw [mB_build_L19]
    by_cases hw : w = 4
    · subst hw
      rw [if_pos (show (4 : Int32) ≤ nI 4 by decide)]
      exact ⟨h, rfl, fun _ _ => rfl⟩
    · rw [if_neg (show ¬ (4 : Int32) ≤ nI w from nI_ge (b := 4) (by omega) (by omega)), wr_at e (by omega) (by omega) (by omega)]
      simp only [bd]
      rw [nI_1]
      have ha : ¬ a0 = a0 + 1 := by omega
      obtain ⟨h', q1, q2⟩ := ih (w + 1) (up h (a0 + 1) (11 * n + w) p1) (by omega) (by omega) (by rw [up_at, if_neg ha]; exact e)
      refine ⟨h', q1, fun b hb => ?_⟩
      rw [q2 b hb]
      funext j
      simp [up_at, hb]
theorem bu_at (a0 n : Nat) (hn : n < 12) (p1 p2 p3 : Int32) (h : PH) (e : h a0 1 = nI n) : ∃ h', mB_build a0 p1 p2 p3 h = some (nI n, h') ∧ h' a0 1 = nI (n + 1) ∧ (∀ b, b ≠ a0 → b ≠ a0 + 1 → h' b = h b) ∧ ∀ j, j ≠ 1 → h' a0 j = h a0 j := by
  unfold mB_build
  simp only [lt]
  rw [e, nI_1]
  have ha : ¬ a0 = a0 + 1 := by omega
  have key : ∀ k0 : PH → Option (Int32 × PH), ∃ h', mB_build_L19 a0 p1 p2 p3 (nI n) k0 FU 0 (up h a0 1 (nI (n + 1))) = k0 h' ∧ ∀ b, b ≠ a0 + 1 → h' b = (up h a0 1 (nI (n + 1))) b := fun k0 => by
    have := bu_19 a0 n hn p1 p2 p3 k0 FU 0 (up h a0 1 (nI (n + 1))) (by unfold FU; omega) (by omega) (by simp [up_at])
    rw [nI_0] at this
    exact this
  have hw : ∀ (g : PH) (k : Nat) (v : Int32), g a0 1 = nI (n + 1) → k < 11 → ∃ g', mB_write a0 (nI n) (nI k) v g = some g' ∧ g' a0 1 = nI (n + 1) ∧ ∀ b, b ≠ a0 + 1 → g' b = g b := fun g k v eg hk => by
    refine ⟨_, wr_at eg (by omega) (by omega) hk v, by rw [up_at, if_neg ha]; exact eg, fun b hb => ?_⟩
    funext j
    simp [up_at, hb]
  have fin : ∀ g : PH, g a0 1 = nI (n + 1) → ∃ h', (bd (mB_write a0 (nI n) 4 p2 g) fun h5 => bd (mB_write a0 (nI n) 5 p3 h5) fun h6 => bd (mB_write a0 (nI n) 6 0 h6) fun h7 => bd (mB_write a0 (nI n) 7 1 h7) fun h8 => bd (mB_write a0 (nI n) 8 0 h8) fun h9 => bd (mB_write a0 (nI n) 9 0 h9) fun h10 => bd (mB_write a0 (nI n) 10 0 h10) fun h11 => some (nI n, h11)) = some (nI n, h') ∧ h' a0 1 = nI (n + 1) ∧ ∀ b, b ≠ a0 + 1 → h' b = g b := by
    intro g eg
    obtain ⟨g1, x1, y1, z1⟩ := hw g 4 p2 eg (by decide)
    obtain ⟨g2, x2, y2, z2⟩ := hw g1 5 p3 y1 (by decide)
    obtain ⟨g3, x3, y3, z3⟩ := hw g2 6 0 y2 (by decide)
    obtain ⟨g4, x4, y4, z4⟩ := hw g3 7 1 y3 (by decide)
    obtain ⟨g5, x5, y5, z5⟩ := hw g4 8 0 y4 (by decide)
    obtain ⟨g6, x6, y6, z6⟩ := hw g5 9 0 y5 (by decide)
    obtain ⟨g7, x7, y7, z7⟩ := hw g6 10 0 y6 (by decide)
    rw [show (4 : Int32) = nI 4 from rfl, show (5 : Int32) = nI 5 from rfl, show (6 : Int32) = nI 6 from rfl, show (7 : Int32) = nI 7 from rfl, show (8 : Int32) = nI 8 from rfl, show (9 : Int32) = nI 9 from rfl, show (10 : Int32) = nI 10 from rfl, x1]
    simp only [bd]
    rw [x2]; simp only
    rw [x3]; simp only
    rw [x4]; simp only
    rw [x5]; simp only
    rw [x6]; simp only
    rw [x7]
    exact ⟨g7, rfl, y7, fun b hb => by rw [z7 b hb, z6 b hb, z5 b hb, z4 b hb, z3 b hb, z2 b hb, z1 b hb]⟩
  obtain ⟨g, k1, k2⟩ := key (fun h4 => bd (mB_write a0 (nI n) 4 p2 h4) fun h5 => bd (mB_write a0 (nI n) 5 p3 h5) fun h6 => bd (mB_write a0 (nI n) 6 0 h6) fun h7 => bd (mB_write a0 (nI n) 7 1 h7) fun h8 => bd (mB_write a0 (nI n) 8 0 h8) fun h9 => bd (mB_write a0 (nI n) 9 0 h9) fun h10 => bd (mB_write a0 (nI n) 10 0 h10) fun h11 => some (nI n, h11))
  obtain ⟨h', f1, f2, f3⟩ := fin g (by rw [k2 a0 ha]; simp [up_at])
  refine ⟨h', k1.trans f1, f2, fun b b1 b2 => ?_, fun j hj => ?_⟩
  · rw [f3 b b2, k2 b b2]; funext j; simp [up_at, b1]
  · rw [f3 a0 ha, k2 a0 ha]; simp [up_at, hj]
theorem mh_52 (n : Nat) (hn : n < 12) (p1 p2 p3 : Int32) (k0 : PH → Option (Int32 × PH)) : ∀ (f w : Nat) (h : PH), 4 < f + w → w ≤ 4 → h 104 6 = nI n → ∃ h', mm_house_L52 p1 p2 p3 k0 f (nI w) h = k0 h' ∧ ∀ b, b ≠ 105 → h' b = h b := by
  intro f
  induction f with
  | zero => intro w h h1 h2; omega
  | succ f ih =>
    intro w h h1 h2 e
    rw [mm_house_L52]
    by_cases hw : w = 4
    · subst hw
      rw [if_pos (show (4 : Int32) ≤ nI 4 by decide)]
      exact ⟨h, rfl, fun _ _ => rfl⟩
    · have e1 : 7 + 4 * nI n + nI w = nI (7 + 4 * n + w) := by
        rw [show 4 * nI n = nI (4 * n) from (Int32.ofNat_mul 4 n).symm, show 7 + nI (4 * n) = nI (7 + 4 * n) from nI_add 7 (4 * n), nI_add]
      rw [if_neg (show ¬ (4 : Int32) ≤ nI w from nI_ge (b := 4) (by omega) (by omega)), e, e1, ck_nI (by omega) (by omega)]
      simp only [lt]
      rw [nI_1]
      obtain ⟨h', q1, q2⟩ := ih (w + 1) (up h 105 (ix (nI (7 + 4 * n + w))) p1) (by omega) (by omega) (by rw [up_at]; simpa using e)
      refine ⟨h', q1, fun b hb => ?_⟩
      rw [q2 b hb]
      funext j
      simp [up_at, hb]
theorem mh_at (n : Nat) (hn : n < 12) (p1 p2 p3 : Int32) (c1 : 0 ≤ p1 ∧ p1 ≤ 99) (c2 : 0 ≤ p2 ∧ p2 ≤ 9) (c3 : 0 ≤ p3 ∧ p3 ≤ 9) (h : PH) (e : h 104 6 = nI n) : ∃ h', mm_house p1 p2 p3 h = some (nI n, h') := by
  unfold mm_house
  have e0 : up h 104 0 0 104 6 = nI n := by rw [up_at]; simpa using e
  have n12 : ¬ nI n = 12 := fun q => by
    have := (nI_eq (by omega) (by omega)).mp (show nI n = nI 12 from q)
    omega
  simp only [isIn_eq, bd, lt, if_pos c1, if_pos c2, if_pos c3, show ¬ (1 : Int32) = 0 by decide, if_false, e0, n12]
  have key : ∀ k0 : PH → Option (Int32 × PH), (∀ g : PH, g 104 6 = nI n → ∃ h', k0 g = some (nI n, h')) → ∃ h', mm_house_L52 p1 p2 p3 k0 FU 0 (up h 104 0 0) = some (nI n, h') := fun k0 hk => by
    obtain ⟨g, q1, q2⟩ := mh_52 n hn p1 p2 p3 k0 FU 0 (up h 104 0 0) (by unfold FU; omega) (by omega) e0
    rw [nI_0] at q1
    rw [q1]
    exact hk g (by rw [q2 104 (by decide)]; exact e0)
  refine key _ (fun g eg => ?_)
  have c55 : ∀ {ρ : Type} (k : Option ρ), ck (55 + nI n) 115 k = k := fun k => by rw [show 55 + nI n = nI (55 + n) from nI_add 55 n]; exact ck_nI (by omega) (by omega)
  have c67 : ∀ {ρ : Type} (k : Option ρ), ck (67 + nI n) 115 k = k := fun k => by rw [show 67 + nI n = nI (67 + n) from nI_add 67 n]; exact ck_nI (by omega) (by omega)
  have c79 : ∀ {ρ : Type} (k : Option ρ), ck (79 + nI n) 115 k = k := fun k => by rw [show 79 + nI n = nI (79 + n) from nI_add 79 n]; exact ck_nI (by omega) (by omega)
  have c91 : ∀ {ρ : Type} (k : Option ρ), ck (91 + nI n) 115 k = k := fun k => by rw [show 91 + nI n = nI (91 + n) from nI_add 91 n]; exact ck_nI (by omega) (by omega)
  have c103 : ∀ {ρ : Type} (k : Option ρ), ck (103 + nI n) 115 k = k := fun k => by rw [show 103 + nI n = nI (103 + n) from nI_add 103 n]; exact ck_nI (by omega) (by omega)
  have c12 : ∀ {ρ : Type} (k : Option ρ), ck (nI n) 12 k = k := fun k => ck_nI hn (by omega)
  have u5 : ∀ (g : PH) (j : Nat) (v : Int32), up g 105 j v 104 6 = g 104 6 := fun g j v => by simp [up_at]
  have u8 : ∀ (g : PH) (j : Nat) (v : Int32), up g 108 j v 104 6 = g 104 6 := fun g j v => by simp [up_at]
  have u9 : ∀ (g : PH) (j : Nat) (v : Int32), up g 109 j v 104 6 = g 104 6 := fun g j v => by simp [up_at]
  simp only [eg, u5, u8, u9, c55, c67, c79, c91, c103, c12]
  refine ⟨_, congrArg some (Prod.ext ?_ rfl)⟩
  show up (up _ 104 6 (nI n + 1)) 104 3 0 104 6 - 1 = nI n
  rw [up_at, if_pos rfl, if_neg (by decide), up_at, if_pos rfl, if_pos rfl, nI_1, nI_pred]
theorem ex_house (a b c : Int32) : ∃ h2, pc_house a b c hI = some h2 := by
  by_cases c1 : 0 ≤ a ∧ a ≤ 99
  · by_cases c2 : 0 ≤ b ∧ b ≤ 9
    · by_cases c3 : 0 ≤ c ∧ c ≤ 9
      · obtain ⟨h1, p1, -, r1, -⟩ := bu_at 1 0 (by decide) a b c (up hI 70 3 0) rfl
        obtain ⟨h2, p2⟩ := mh_at 0 (by decide) a b c c1 c2 c3 h1 (by rw [r1 104 (by decide) (by decide)]; rfl)
        unfold pc_house mX_house
        simp only [within_eq, bd, jn1, if_pos c1, if_pos c2, if_pos c3, show ¬ (1 : Int32) = 0 by decide, if_false, show hI 1 1 < 12 from by decide, if_true, mP_forget, lt]
        rw [p1]
        simp only [bd2]
        rw [p2]
        exact ⟨h2, if_pos rfl⟩
      · simp [pc_house, mX_house, mm_house, within_eq, isIn_eq, bd, lt, jn1, c1, c2, c3, bd2]
    · simp [pc_house, mX_house, mm_house, within_eq, isIn_eq, bd, lt, jn1, c1, c2, bd2]
  · simp [pc_house, mX_house, mm_house, within_eq, isIn_eq, bd, lt, jn1, c1, bd2]
/-! twenty bytes -/
theorem tk_step {p v : Int32} {h : PH} {l n : Nat} (hv : ¬ v < 0) (e : h 85 4 = nI l) (hl : l < 400) : mA_take_L3 p (n + 1) v h = mA_take_L3 p n (v + (-8)) (up (up h 86 l (i2b (i2b (ushr p v)))) 85 4 (nI (l + 1))) := by
  rw [mA_take_L3, if_neg hv, e, if_neg (show ¬ (400 : Int32) ≤ nI l from nI_ge (b := 400) hl (by omega)), ck_nI hl (by omega), show ix (nI l) = l from nI_clamp (by omega)]
  simp only [lt]
  have e2 : up h 86 l (i2b (i2b (ushr p v))) 85 4 = nI l := by rw [up_at]; simpa using e
  rw [e2, nI_1]
theorem take4 (p : Int32) (h : PH) (l : Nat) (e : h 85 4 = nI l) (hl : l + 4 ≤ 400) : ∃ h', mA_take p h = some h' ∧ h' 85 4 = nI (l + 4) ∧ (∀ b, b ≠ 85 → b ≠ 86 → h' b = h b) ∧ ∀ j, j ≠ 4 → h' 85 j = h 85 j := by
  unfold mA_take
  rw [show FU = 99995 + 1 + 1 + 1 + 1 + 1 from rfl]
  rw [tk_step (by decide) e (by omega), tk_step (l := l + 1) (by decide) (by simp [up_at]) (by omega), tk_step (l := l + 1 + 1) (by decide) (by simp [up_at]) (by omega), tk_step (l := l + 1 + 1 + 1) (by decide) (by simp [up_at]) (by omega), mA_take_L3, if_pos (by decide)]
  refine ⟨_, rfl, by simp [up_at], fun b b1 b2 => ?_, fun j hj => ?_⟩
  · funext j; simp [up_at, b1, b2]
  · simp [up_at, hj]
theorem ty_step {p v : Int32} {h : PH} {l n : Nat} (hv : ¬ v < 0) (e : h 104 11 = nI l) (hl : l < 400) : mm_types_L3 p (n + 1) v h = mm_types_L3 p n (v + (-8)) (up (up h 111 l ((p >>> (v &&& 31)) &&& 255)) 104 11 (nI (l + 1))) := by
  rw [mm_types_L3, if_neg hv, e, ck_nI hl (by omega), show ix (nI l) = l from nI_clamp (by omega)]
  simp only [lt]
  have e2 : up h 111 l ((p >>> (v &&& 31)) &&& 255) 104 11 = nI l := by rw [up_at]; simpa using e
  rw [e2, nI_1]
theorem types4 (p : Int32) (h : PH) (l : Nat) (e : h 104 11 = nI l) (hl : l + 4 ≤ 400) : ∃ h', mm_types p h = some h' ∧ h' 104 11 = nI (l + 4) ∧ (∀ b, b ≠ 104 → b ≠ 111 → h' b = h b) ∧ ∀ j, j ≠ 11 → h' 104 j = h 104 j := by
  unfold mm_types
  rw [show FU = 99995 + 1 + 1 + 1 + 1 + 1 from rfl]
  rw [ty_step (by decide) e (by omega), ty_step (l := l + 1) (by decide) (by simp [up_at]) (by omega), ty_step (l := l + 1 + 1) (by decide) (by simp [up_at]) (by omega), ty_step (l := l + 1 + 1 + 1) (by decide) (by simp [up_at]) (by omega), mm_types_L3, if_pos (by decide)]
  refine ⟨_, rfl, by simp [up_at], fun b b1 b2 => ?_, fun j hj => ?_⟩
  · funext j; simp [up_at, b1, b2]
  · simp [up_at, hj]
theorem feed_class (a b c d e : Int32) (h : PH) (l : Nat) (el : h 85 4 = nI l) (hl : l + 20 ≤ 400) : ∃ h', mX_feed a b c d e h = some (nI (l + 20), h') ∧ h' 85 4 = nI (l + 20) ∧ (∀ x, x ≠ 85 → x ≠ 86 → h' x = h x) ∧ ∀ j, j ≠ 4 → h' 85 j = h 85 j := by
  unfold mX_feed
  rw [el, show nI l + 20 = nI (l + 20) from nI_add l 20, if_pos (show nI (l + 20) ≤ (400 : Int32) from nI_le (b := 400) hl (by omega))]
  obtain ⟨h1, p1, q1, r1, s1⟩ := take4 a h l el (by omega)
  obtain ⟨h2, p2, q2, r2, s2⟩ := take4 b h1 (l + 4) q1 (by omega)
  obtain ⟨h3, p3, q3, r3, s3⟩ := take4 c h2 (l + 4 + 4) q2 (by omega)
  obtain ⟨h4, p4, q4, r4, s4⟩ := take4 d h3 (l + 4 + 4 + 4) q3 (by omega)
  obtain ⟨h5, p5, q5, r5, s5⟩ := take4 e h4 (l + 4 + 4 + 4 + 4) q4 (by omega)
  rw [p1]; simp only [bd]
  rw [p2]; simp only
  rw [p3]; simp only
  rw [p4]; simp only
  rw [p5]; simp only
  rw [q5]
  refine ⟨h5, rfl, q5, fun x x1 x2 => ?_, fun j hj => ?_⟩
  · rw [r5 x x1 x2, r4 x x1 x2, r3 x x1 x2, r2 x x1 x2, r1 x x1 x2]
  · rw [s5 j hj, s4 j hj, s3 j hj, s2 j hj, s1 j hj]
theorem feed_model (a b c d e : Int32) (h : PH) (l : Nat) (el : h 104 11 = nI l) (hl : l + 20 ≤ 400) : ∃ h', mm_feed a b c d e h = some (nI (l + 20), h') ∧ h' 104 11 = nI (l + 20) ∧ (∀ x, x ≠ 104 → x ≠ 111 → h' x = h x) ∧ ∀ j, j ≠ 11 → j ≠ 0 → h' 104 j = h 104 j := by
  unfold mm_feed
  have e0 : up h 104 0 0 104 11 = nI l := by rw [up_at]; simpa using el
  simp only [lt]
  rw [e0, if_pos (show nI l ≤ (380 : Int32) from nI_le (b := 380) (by omega) (by omega))]
  obtain ⟨h1, p1, q1, r1, s1⟩ := types4 a (up h 104 0 0) l e0 (by omega)
  obtain ⟨h2, p2, q2, r2, s2⟩ := types4 b h1 (l + 4) q1 (by omega)
  obtain ⟨h3, p3, q3, r3, s3⟩ := types4 c h2 (l + 4 + 4) q2 (by omega)
  obtain ⟨h4, p4, q4, r4, s4⟩ := types4 d h3 (l + 4 + 4 + 4) q3 (by omega)
  obtain ⟨h5, p5, q5, r5, s5⟩ := types4 e h4 (l + 4 + 4 + 4 + 4) q4 (by omega)
  rw [p1]; simp only [bd]
  rw [p2]; simp only
  rw [p3]; simp only
  rw [p4]; simp only
  rw [p5]; simp only
  rw [q5]
  refine ⟨h5, rfl, q5, fun x x1 x2 => ?_, fun j hj h0 => ?_⟩
  · rw [r5 x x1 x2, r4 x x1 x2, r3 x x1 x2, r2 x x1 x2, r1 x x1 x2]; funext i; simp [up_at, x1]
  · rw [s5 j hj, s4 j hj, s3 j hj, s2 j hj, s1 j hj]; simp [up_at, h0]
theorem ex_feed (a b c d e : Int32) : ∃ h2, pc_feed a b c d e hI = some h2 := by
  obtain ⟨h1, p1, -, r1, -⟩ := feed_class a b c d e hI 0 rfl (by decide)
  obtain ⟨h2, p2, -⟩ := feed_model a b c d e h1 0 (by rw [r1 104 (by decide) (by decide)]; rfl) (by decide)
  unfold pc_feed
  rw [p1]
  simp only [bd2]
  rw [p2]
  exact ⟨h2, if_pos rfl⟩
theorem ex_book (a b : Int32) : ∃ h2, pc_book a b hI = some h2 := by
  simp only [pc_book, mX_book, mm_book, within_eq, isIn_eq, bd, bd2, lt]
  have c2 : ∀ {ρ : Type} (k : Option ρ), ck 2 115 k = k := fun _ => ck_nI (i := 2) (by decide) (by decide)
  have e1 : up hI 104 0 0 105 (ix 2) - 1 = -1 := rfl
  have e2 : hI 16 3 = 0 := rfl
  have n1 : ∀ x : Int32, ¬ (0 ≤ x ∧ x ≤ -1) := fun x h => by
    have := Int32.le_trans h.1 h.2
    exact absurd this (by decide)
  simp only [c2, e1, e2, n1, if_false]
  by_cases c1 : a < 0
  · simp [c1]
  · have : 0 ≤ a := Int32.not_lt.mp c1
    simp [c1, this]
theorem ex_plate (a b : Int32) : ∃ h2, pc_plate a b hI = some h2 := by
  have n1 : ∀ x : Int32, ¬ (1 ≤ x ∧ x ≤ 0) := fun x h => by
    have := Int32.le_trans h.1 h.2
    exact absurd this (by decide)
  have e1 : up hI 104 0 0 104 42 = 0 := rfl
  have e2 : hI 18 3 = 0 := rfl
  simp only [pc_plate, mX_plate, mm_plate, within_eq, isIn_eq, e1, e2, n1, bd, bd2, lt, if_false]
  simp
theorem ex_bite (a b : Int32) : ∃ h2, pc_bite a b hI = some h2 := by
  by_cases c0 : a = -1
  · subst c0
    exact ⟨_, rfl⟩
  · by_cases c1 : 0 ≤ a ∧ a ≤ 255
    · by_cases c2 : 0 ≤ b ∧ b ≤ 9
      · simp only [pc_bite, mX_bite, mm_bite, within_eq, isIn_eq, bd, lt, jn1, c0, c1, c2, and_self, if_true, show ¬ (1 : Int32) = 0 by decide, if_false]
        exact ⟨_, rfl⟩
      · simp [pc_bite, mX_bite, mm_bite, mX_tell, within_eq, isIn_eq, bd, bd2, lt, jn1, c0, c1, c2]
    · simp [pc_bite, mX_bite, mm_bite, mX_tell, within_eq, isIn_eq, bd, bd2, lt, jn1, c0, c1]
theorem ex_loaf (a b : Int32) : ∃ h2, pc_loaf a b hI = some h2 := by
  by_cases c0 : a = -1
  · subst c0
    exact ⟨_, rfl⟩
  · by_cases c1 : 1 ≤ a ∧ a ≤ 30
    · by_cases c2 : 1 ≤ b ∧ b ≤ 30
      · simp only [pc_loaf, mX_loaf, mm_loaf, within_eq, isIn_eq, bd, lt, jn1, c0, c1, c2, and_self, if_true, show ¬ (1 : Int32) = 0 by decide, if_false]
        exact ⟨_, rfl⟩
      · simp [pc_loaf, mX_loaf, mm_loaf, mX_tell, within_eq, isIn_eq, bd, bd2, lt, jn1, c0, c1, c2]
    · simp [pc_loaf, mX_loaf, mm_loaf, mX_tell, within_eq, isIn_eq, bd, bd2, lt, jn1, c0, c1]
theorem ex_member (a b : Int32) : ∃ h2, pc_member a b hI = some h2 := by
  by_cases c0 : a = -1
  · subst c0
    exact ⟨_, rfl⟩
  · by_cases c1 : 0 ≤ a ∧ a ≤ 4095
    · by_cases c2 : 1 ≤ b ∧ b ≤ 9
      · simp only [pc_member, mX_member, mm_member, within_eq, isIn_eq, bd, lt, jn1, c0, c1, c2, and_self, if_true, show ¬ (1 : Int32) = 0 by decide, if_false]
        exact ⟨_, rfl⟩
      · simp [pc_member, mX_member, mm_member, mX_tell, within_eq, isIn_eq, bd, bd2, lt, jn1, c0, c1, c2]
    · simp [pc_member, mX_member, mm_member, mX_tell, within_eq, isIn_eq, bd, bd2, lt, jn1, c0, c1]
theorem ex_whose (a b : Int32) : ∃ h2, pc_whose a b hI = some h2 := by
  by_cases c1 : 0 ≤ a ∧ a ≤ 255
  · by_cases c2 : 0 ≤ b ∧ b ≤ 9
    · simp only [pc_whose, mX_whose, mm_whose, within_eq, isIn_eq, bd, lt, c1, c2, and_self, if_true, show ¬ (1 : Int32) = 0 by decide, if_false]
      exact ⟨_, rfl⟩
    · simp [pc_whose, mX_whose, mm_whose, within_eq, isIn_eq, bd, bd2, lt, c1, c2]
  · simp [pc_whose, mX_whose, mm_whose, within_eq, isIn_eq, bd, bd2, lt, c1]
theorem ex_piece (a : Int32) : ∃ h2, pc_piece a hI = some h2 := by
  by_cases c0 : a = -1
  · subst c0
    exact ⟨_, rfl⟩
  · by_cases c1 : 0 ≤ a ∧ a ≤ 99
    · simp only [pc_piece, mX_piece, mm_piece, within_eq, isIn_eq, bd, lt, jn1, c0, c1, and_self, if_true, show ¬ (1 : Int32) = 0 by decide, if_false]
      exact ⟨_, rfl⟩
    · simp [pc_piece, mX_piece, mm_piece, mX_tell, within_eq, isIn_eq, bd, bd2, lt, jn1, c0, c1]
theorem ex_dough (a : Int32) : ∃ h2, pc_dough a hI = some h2 := by
  by_cases c0 : a = -1
  · subst c0
    exact ⟨_, rfl⟩
  · by_cases c1 : 1 ≤ a ∧ a ≤ 30
    · simp only [pc_dough, mX_dough, mm_dough, within_eq, isIn_eq, bd, lt, jn1, c0, c1, and_self, if_true, show ¬ (1 : Int32) = 0 by decide, if_false]
      exact ⟨_, rfl⟩
    · simp [pc_dough, mX_dough, mm_dough, mX_tell, within_eq, isIn_eq, bd, bd2, lt, jn1, c0, c1]
theorem ex_mark (a : Int32) : ∃ h2, pc_mark a hI = some h2 := by
  by_cases c0 : a = -1
  · subst c0
    exact ⟨_, rfl⟩
  · by_cases c1 : 1 ≤ a ∧ a ≤ 60
    · simp only [pc_mark, mX_mark, mm_mark, within_eq, isIn_eq, bd, lt, jn1, c0, c1, and_self, if_true, show ¬ (1 : Int32) = 0 by decide, if_false]
      exact ⟨_, rfl⟩
    · simp [pc_mark, mX_mark, mm_mark, mX_tell, within_eq, isIn_eq, bd, bd2, lt, jn1, c0, c1]
theorem ex_crumb (a : Int32) : ∃ h2, pc_crumb a hI = some h2 := by
  by_cases c0 : a = -1
  · subst c0
    exact ⟨_, rfl⟩
  · by_cases c1 : 0 ≤ a ∧ a ≤ 3
    · simp only [pc_crumb, mX_crumb, mm_crumb, within_eq, isIn_eq, bd, lt, jn1, c0, c1, and_self, if_true, show ¬ (1 : Int32) = 0 by decide, if_false]
      exact ⟨_, rfl⟩
    · simp [pc_crumb, mX_crumb, mm_crumb, mX_tell, within_eq, isIn_eq, bd, bd2, lt, jn1, c0, c1]
