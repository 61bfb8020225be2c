/-! A TEXT IS KEPT: both sides -/
theorem cp_d (a0 a1 r w : Nat) (n1 : a1 ≠ a0 + 1) (hl : r * w ≤ ln (a0 + 1)) (hl' : r * w ≤ ln (a1 + 1)) (big : ln (a0 + 1) < 100000) {h : PH} (hr : r < 100000) (e3 : h a1 3 = nI r) (e1 : h a1 1 = nI w) (e0 : h a0 1 = nI w) : ∃ g, mR_copyFrom a0 a1 h = some g ∧ CP a0 a1 w h g := by
  have ixx : ix (nI (r * w)) = r * w := nI_clamp (by omega)
  have hcc : ∀ {ρ : Type} (k : Option ρ), cc (ln (a1 + 1)) (ln (a0 + 1)) 0 0 (nI (r * w)) k = k := by
    intro ρ k
    unfold cc
    refine if_neg ?_
    have h00 : ix (0 : Int32) = 0 := rfl
    rintro (q | q | q | q | q)
    · exact absurd q (by decide)
    · exact absurd q (by decide)
    · exact absurd q (nI_pos (by omega))
    · rw [h00, ixx] at q; omega
    · rw [h00, ixx] at q; omega
  have n2 : ¬ Int32.ofNat (ln (a0 + 1)) < nI (r * w) := Int32.not_lt.mpr (nI_le hl (by omega))
  have cl : (nI r).toNatClampNeg = r := clm (by omega)
  unfold mR_copyFrom
  rw [lt_e, e3, e1, e0, nI_mul, if_pos rfl, if_neg n2, hcc, lt_e, lt_e, ixx, show ix (0 : Int32) = 0 from rfl]
  refine ⟨_, rfl, fun b hb hb1 => ?_, ?_, fun j hj => ?_, fun j hj => ?_⟩
  · funext j
    rw [up_oc hb, cpy_at, if_neg hb1]
  · rw [up_same, cpy_at, if_neg n1]
  · rw [up_oj hj, cpy_at, if_neg (by omega)]
  · rw [e3, cl] at hj
    rw [up_oc (by omega), cpy_at, if_pos rfl, if_pos hj]
/-- the model takes a law -/
theorem tl_2 {r : Nat} (hr : r ≤ 16) : ∀ (n x : Nat) (hm : PH), 16 < n + x → x ≤ r → hm 104 24 = 0 → ∃ g, (∀ k0, mm_takesLaw_L2 (nI r) k0 n (nI x) hm = k0 g) ∧ (∀ b, b < 114 ∨ 117 < b → g b = hm b) ∧ (∀ b j, 114 ≤ b → b ≤ 117 → x ≤ j → j < r → g b j = hm b (32 + j)) ∧ ∀ b j, 114 ≤ b → b ≤ 117 → (j < x ∨ r ≤ j) → g b j = hm b j := by
  intro n
  induction n with
  | zero => intro x hm h1 h2; omega
  | succ n ih =>
    intro x hm h1 h2 e24
    by_cases c : x = r
    · subst c
      exact ⟨hm, fun k0 => by rw [mm_takesLaw_L2, if_pos (nI_le (Nat.le_refl _) (by omega))], fun _ _ => rfl, fun b j _ _ j1 j2 => by omega, fun _ _ _ _ _ => rfl⟩
    · have hx : x < r := by omega
      have kK : ∀ b j, 114 ≤ b → b ≤ 117 → up (up (up (up hm 114 x (hm 114 (32 + x))) 115 x (hm 115 (32 + x))) 116 x (hm 116 (32 + x))) 117 x (hm 117 (32 + x)) b j = if j = x then hm b (32 + x) else hm b j := fun b j b1 b2 => by
        have hb : b = 114 ∨ b = 115 ∨ b = 116 ∨ b = 117 := by omega
        rcases hb with e | e | e | e <;> subst e <;> simp [up_at]
      have kO : ∀ b, b < 114 ∨ 117 < b → up (up (up (up hm 114 x (hm 114 (32 + x))) 115 x (hm 115 (32 + x))) 116 x (hm 116 (32 + x))) 117 x (hm 117 (32 + x)) b = hm b := fun b hb => by rw [up_cell (by omega), up_cell (by omega), up_cell (by omega), up_cell (by omega)]
      obtain ⟨g, a1, a2, a3, a4⟩ := ih (x + 1) _ (by omega) (by omega) (show up (up (up (up hm 114 x (hm 114 (32 + x))) 115 x (hm 115 (32 + x))) 116 x (hm 116 (32 + x))) 117 x (hm 117 (32 + x)) 104 24 = 0 by rw [kO 104 (by omega)]; exact e24)
      refine ⟨g, fun k0 => ?_, fun b hb => by rw [a2 b hb, kO b hb], fun b j b1 b2 j1 j2 => ?_, fun b j b1 b2 j1 => ?_⟩
      · have t32 : (32 : Int32) + nI x = nI (32 + x) := nI_add 32 x
        have t0 : (16 : Int32) * 0 + nI x = nI x := by rw [show (16 : Int32) * 0 = 0 from rfl, Int32.zero_add]
        have c32 : ∀ (z : Option PH), ck (nI (32 + x)) 48 z = z := fun z => ck_nI (by omega) (by decide)
        have c0 : ∀ (z : Option PH), ck (nI x) 48 z = z := fun z => ck_nI (by omega) (by decide)
        have x32 : ix (nI (32 + x)) = 32 + x := nI_clamp (by omega)
        have x0 : ix (nI x) = x := nI_clamp (by omega)
        have u : ∀ c j v (q : PH), c ≠ 104 → up q c j v 104 24 = q 104 24 := fun c j v q hc => up_oc (Ne.symm hc)
        rw [mm_takesLaw_L2, if_neg (nI_ge hx (by omega)), t32, e24, t0, c32, c0, lt_e, x32, x0, u _ _ _ _ (by decide), e24, t0, c32, c0, lt_e, x0, u _ _ _ _ (by decide), u _ _ _ _ (by decide), e24, t0, c32, c0, lt_e, x0, u _ _ _ _ (by decide), u _ _ _ _ (by decide), u _ _ _ _ (by decide), e24, t0, c32, c0, lt_e, x0, nI_1, ← a1 k0]
        simp only [up_oc (show (115 : Nat) ≠ 114 by decide), up_oc (show (116 : Nat) ≠ 114 by decide), up_oc (show (116 : Nat) ≠ 115 by decide), up_oc (show (117 : Nat) ≠ 114 by decide), up_oc (show (117 : Nat) ≠ 115 by decide), up_oc (show (117 : Nat) ≠ 116 by decide)]
      · by_cases z : j = x
        · rw [z, a4 b x b1 b2 (by omega), kK b x b1 b2, if_pos rfl]
        · rw [a3 b j b1 b2 (by omega) j2, kK b _ b1 b2, if_neg (by omega)]
      · rw [a4 b j b1 b2 (by omega), kK b j b1 b2, if_neg (by omega)]
theorem tl_107 {c : Nat} (hc : c ≤ 400) (p1 : Int32) : ∀ (n x : Nat) (hm : PH), 400 < n + x → x ≤ c → hm 104 24 = 0 → hm 104 25 = nI c → ∃ g, (∀ k0, mm_takesLaw_L107 p1 k0 n (nI x) hm = k0 g) ∧ (∀ b, b ≠ 118 → b ≠ 119 → g b = hm b) ∧ (∀ j, x ≤ j → j < c → g 118 j = hm 118 (800 + j) ∧ g 119 j = hm 119 (800 + j)) ∧ ∀ j, j < x ∨ c ≤ j → g 118 j = hm 118 j ∧ g 119 j = hm 119 j := by
  intro n
  induction n with
  | zero => intro x hm h1 h2; omega
  | succ n ih =>
    intro x hm h1 h2 e24 e25
    by_cases cc : x = c
    · subst cc
      exact ⟨hm, fun k0 => by rw [mm_takesLaw_L107, e25, if_pos (nI_le (Nat.le_refl _) (by omega))], fun _ _ _ => rfl, fun j j1 j2 => by omega, fun _ _ => ⟨rfl, rfl⟩⟩
    · have hx : x < c := by omega
      have o : ∀ b, b ≠ 118 → b ≠ 119 → up (up hm 118 x (hm 118 (800 + x))) 119 x (hm 119 (800 + x)) b = hm b := fun b b1 b2 => by rw [up_cell b2, up_cell b1]
      have k8 : ∀ j, up (up hm 118 x (hm 118 (800 + x))) 119 x (hm 119 (800 + x)) 118 j = if j = x then hm 118 (800 + x) else hm 118 j := fun j => by simp [up_at]
      have k9 : ∀ j, up (up hm 118 x (hm 118 (800 + x))) 119 x (hm 119 (800 + x)) 119 j = if j = x then hm 119 (800 + x) else hm 119 j := fun j => by simp [up_at]
      obtain ⟨g, a1, a2, a3, a4⟩ := ih (x + 1) (up (up hm 118 x (hm 118 (800 + x))) 119 x (hm 119 (800 + x))) (by omega) (by omega) (by rw [o 104 (by decide) (by decide)]; exact e24) (by rw [o 104 (by decide) (by decide)]; exact e25)
      refine ⟨g, fun k0 => ?_, fun b b1 b2 => by rw [a2 b b1 b2, o b b1 b2], fun j j1 j2 => ?_, fun j j1 => ?_⟩
      · have t8 : (800 : Int32) + nI x = nI (800 + x) := nI_add 800 x
        have t0 : (400 : Int32) * 0 + nI x = nI x := by rw [show (400 : Int32) * 0 = 0 from rfl, Int32.zero_add]
        have c8 : ∀ (z : Option PH), ck (nI (800 + x)) 1200 z = z := fun z => ck_nI (by omega) (by decide)
        have c0 : ∀ (z : Option PH), ck (nI x) 1200 z = z := fun z => ck_nI (by omega) (by decide)
        have x8 : ix (nI (800 + x)) = 800 + x := nI_clamp (by omega)
        have x0 : ix (nI x) = x := nI_clamp (by omega)
        rw [mm_takesLaw_L107, e25, if_neg (nI_ge hx (by omega)), t8, e24, t0, c8, c0, lt_e, x8, x0, up_oc (show (104 : Nat) ≠ 118 by decide), e24, t0, c8, c0, lt_e, x0, nI_1, up_oc (show (119 : Nat) ≠ 118 by decide), a1]
      · by_cases z : j = x
        · have := a4 x (by omega)
          rw [k8, k9, if_pos rfl, if_pos rfl] at this
          rw [z]
          exact this
        · have := a3 j (by omega) j2
          rw [k8, k9, if_neg (by omega), if_neg (by omega)] at this
          exact this
      · have := a4 j (by omega)
        rw [k8, k9, if_neg (by omega), if_neg (by omega)] at this
        exact this
theorem tl_at {r c : Nat} (hr : r ≤ 16) (hc : c ≤ 400) {hm : PH} (e24 : hm 104 24 = 0) (e25 : hm 104 25 = nI c) : ∃ g, mm_takesLaw (nI r) hm = some g ∧ (∀ b, b < 113 ∨ 119 < b → g b = hm b) ∧ g 113 0 = nI r ∧ (∀ b j, 114 ≤ b → b ≤ 117 → j < r → g b j = hm b (32 + j)) ∧ ∀ j, j < c → g 118 j = hm 118 (800 + j) ∧ g 119 j = hm 119 (800 + j) := by
  obtain ⟨g1, a1, a2, a3, a4⟩ := tl_2 hr FU 0 hm (by unfold FU; omega) (Nat.zero_le _) e24
  obtain ⟨g2, b1, b2, b3, b4⟩ := tl_107 hc (nI r) FU 0 g1 (by unfold FU; omega) (Nat.zero_le _) (by rw [a2 104 (by omega)]; exact e24) (by rw [a2 104 (by omega)]; exact e25)
  have e : g2 104 24 = 0 := by rw [b2 104 (by decide) (by decide), a2 104 (by omega)]; exact e24
  have c2 : ∀ (z : Option PH), ck 0 2 z = z := fun z => ck_nI (i := 0) (by decide) (by decide)
  rw [nI_0] at a1 b1
  refine ⟨up g2 113 0 (nI r), ?_, fun b hb => by rw [up_cell (by omega), b2 b (by omega) (by omega), a2 b (by omega)], up_same, fun b j h1 h2 hj => ?_, fun j hj => ?_⟩
  · unfold mm_takesLaw
    rw [a1, b1, e, c2, lt_e, show ix (0 : Int32) = 0 from rfl]
  · rw [up_oc (by omega), b2 b (by omega) (by omega), a3 b j h1 h2 (Nat.zero_le _) hj]
  · have := b3 j (Nat.zero_le _) hj
    rw [up_oc (by decide), up_oc (by decide), this.1, this.2, a2 118 (by omega), a2 119 (by omega)]
    exact ⟨rfl, rfl⟩
/-- the model takes another text -/
theorem to_47 {r : Nat} (hr : r ≤ 16) : ∀ (n x : Nat) (hm : PH), 48 < n + x → x ≤ 3 * r → ∃ g, (∀ k0, mm_takesOther_L47 (nI r) k0 n (nI x) hm = k0 g) ∧ (∀ b, b ≠ 121 → g b = hm b) ∧ (∀ j, x ≤ j → j < 3 * r → g 121 j = hm 121 (48 + j)) ∧ ∀ j, j < x ∨ 3 * r ≤ j → g 121 j = hm 121 j := by
  intro n
  induction n with
  | zero => intro x hm h1 h2; omega
  | succ n ih =>
    intro x hm h1 h2
    have t3 : (3 : Int32) * nI r = nI (3 * r) := nI_mul 3 r
    by_cases c : x = 3 * r
    · exact ⟨hm, fun k0 => by rw [mm_takesOther_L47, t3, if_pos (by rw [c]; exact nI_le (Nat.le_refl _) (by omega))], fun _ _ => rfl, fun j j1 j2 => by omega, fun _ _ => rfl⟩
    · have hx : x < 3 * r := by omega
      obtain ⟨g, a1, a2, a3, a4⟩ := ih (x + 1) (up hm 121 x (hm 121 (48 + x))) (by omega) (by omega)
      refine ⟨g, fun k0 => ?_, fun b hb => by rw [a2 b hb, up_cell hb], fun j j1 j2 => ?_, fun j j1 => by rw [a4 j (by omega), up_oj (by omega)]⟩
      · rw [mm_takesOther_L47, t3, if_neg (nI_ge hx (by omega)), show (48 : Int32) + nI x = nI (48 + x) from nI_add 48 x, ck_nI (show 48 + x < 96 by omega) (by decide), ck_nI (show x < 96 by omega) (by decide), lt_e, show ix (nI (48 + x)) = 48 + x from nI_clamp (by omega), show ix (nI x) = x from nI_clamp (by omega), nI_1, a1]
      · by_cases z : j = x
        · rw [z, a4 _ (by omega), up_same]
        · rw [a3 j (by omega) j2, up_oj (by omega)]
theorem to_85 {r : Nat} (hr : r ≤ 16) : ∀ (n x : Nat) (hm : PH), 80 < n + x → x ≤ 5 * r → ∃ g, (∀ k0, mm_takesOther_L85 (nI r) k0 n (nI x) hm = k0 g) ∧ (∀ b, b ≠ 122 → g b = hm b) ∧ (∀ j, x ≤ j → j < 5 * r → g 122 j = hm 122 (80 + j)) ∧ ∀ j, j < x ∨ 5 * r ≤ j → g 122 j = hm 122 j := by
  intro n
  induction n with
  | zero => intro x hm h1 h2; omega
  | succ n ih =>
    intro x hm h1 h2
    have t3 : (5 : Int32) * nI r = nI (5 * r) := nI_mul 5 r
    by_cases c : x = 5 * r
    · exact ⟨hm, fun k0 => by rw [mm_takesOther_L85, t3, if_pos (by rw [c]; exact nI_le (Nat.le_refl _) (by omega))], fun _ _ => rfl, fun j j1 j2 => by omega, fun _ _ => rfl⟩
    · have hx : x < 5 * r := by omega
      obtain ⟨g, a1, a2, a3, a4⟩ := ih (x + 1) (up hm 122 x (hm 122 (80 + x))) (by omega) (by omega)
      refine ⟨g, fun k0 => ?_, fun b hb => by rw [a2 b hb, up_cell hb], fun j j1 j2 => ?_, fun j j1 => by rw [a4 j (by omega), up_oj (by omega)]⟩
      · rw [mm_takesOther_L85, t3, if_neg (nI_ge hx (by omega)), show (80 : Int32) + nI x = nI (80 + x) from nI_add 80 x, ck_nI (show 80 + x < 160 by omega) (by decide), ck_nI (show x < 160 by omega) (by decide), lt_e, show ix (nI (80 + x)) = 80 + x from nI_clamp (by omega), show ix (nI x) = x from nI_clamp (by omega), nI_1, a1]
      · by_cases z : j = x
        · rw [z, a4 _ (by omega), up_same]
        · rw [a3 j (by omega) j2, up_oj (by omega)]
theorem to_7 (p2 : Int32) : ∀ (n x : Nat) (hm : PH), 12 < n + x → x ≤ 12 → ∃ g, (∀ k0, mm_takesOther_L7 p2 k0 n (nI x) hm = k0 g) ∧ (∀ b, b ≠ 123 → g b = hm b) ∧ (∀ j, x ≤ j → j < 12 → g 123 j = hm 123 (12 + j)) ∧ ∀ j, j < x ∨ 12 ≤ j → g 123 j = hm 123 j := by
  intro n
  induction n with
  | zero => intro x hm h1 h2; omega
  | succ n ih =>
    intro x hm h1 h2
    by_cases c : x = 12
    · exact ⟨hm, fun k0 => by rw [mm_takesOther_L7, if_pos (by rw [c]; decide)], fun _ _ => rfl, fun j j1 j2 => by omega, fun _ _ => rfl⟩
    · have hx : x < 12 := by omega
      obtain ⟨g, a1, a2, a3, a4⟩ := ih (x + 1) (up hm 123 x (hm 123 (12 + x))) (by omega) (by omega)
      refine ⟨g, fun k0 => ?_, fun b hb => by rw [a2 b hb, up_cell hb], fun j j1 j2 => ?_, fun j j1 => by rw [a4 j (by omega), up_oj (by omega)]⟩
      · rw [mm_takesOther_L7, if_neg (show ¬ (12 : Int32) ≤ nI x from nI_ge (b := 12) hx (by decide)), show (12 : Int32) + nI x = nI (12 + x) from nI_add 12 x, ck_nI (show 12 + x < 24 by omega) (by decide), ck_nI (show x < 24 by omega) (by decide), lt_e, show ix (nI (12 + x)) = 12 + x from nI_clamp (by omega), show ix (nI x) = x from nI_clamp (by omega), nI_1, a1]
      · by_cases z : j = x
        · rw [z, a4 _ (by omega), up_same]
        · rw [a3 j (by omega) j2, up_oj (by omega)]
theorem to_at1 {r : Nat} (hr : r ≤ 16) (hm : PH) : ∃ g, mm_takesOther 1 (nI r) hm = some g ∧ (∀ b, b ≠ 121 → b ≠ 104 → g b = hm b) ∧ (∀ j, j ≠ 33 → j ≠ 3 → g 104 j = hm 104 j) ∧ g 104 33 = nI r ∧ g 104 3 = 0 ∧ ∀ j, j < 3 * r → g 121 j = hm 121 (48 + j) := by
  obtain ⟨g, a1, a2, a3, a4⟩ := to_47 hr FU 0 hm (by unfold FU; omega) (Nat.zero_le _)
  rw [nI_0] at a1
  refine ⟨up (up g 104 33 (nI r)) 104 3 0, ?_, fun b b1 b2 => by rw [up_cell b2, up_cell b2, a2 b b1], fun j j1 j2 => by rw [up_oj j2, up_oj j1, a2 104 (by decide)], by rw [up_oj (by decide), up_same], up_same, fun j hj => by rw [up_oc (by decide), up_oc (by decide)]; exact a3 j (Nat.zero_le _) hj⟩
  unfold mm_takesOther
  rw [if_neg (by decide), jn1_e, if_pos rfl, a1, lt_e]
  rfl
theorem to_at2 {r : Nat} (hr : r ≤ 16) (hm : PH) : ∃ g, mm_takesOther 2 (nI r) hm = some g ∧ (∀ b, b ≠ 122 → b ≠ 104 → g b = hm b) ∧ (∀ j, j ≠ 35 → j ≠ 3 → g 104 j = hm 104 j) ∧ g 104 35 = nI r ∧ g 104 3 = 0 ∧ ∀ j, j < 5 * r → g 122 j = hm 122 (80 + j) := by
  obtain ⟨g, a1, a2, a3, a4⟩ := to_85 hr FU 0 hm (by unfold FU; omega) (Nat.zero_le _)
  rw [nI_0] at a1
  refine ⟨up (up g 104 35 (nI r)) 104 3 0, ?_, fun b b1 b2 => by rw [up_cell b2, up_cell b2, a2 b b1], fun j j1 j2 => by rw [up_oj j2, up_oj j1, a2 104 (by decide)], by rw [up_oj (by decide), up_same], up_same, fun j hj => by rw [up_oc (by decide), up_oc (by decide)]; exact a3 j (Nat.zero_le _) hj⟩
  unfold mm_takesOther
  rw [if_neg (by decide), jn1_e, if_neg (by decide), a1, lt_e]
  rfl
theorem to_at3 (r : Nat) (hm : PH) : ∃ g, mm_takesOther 3 (nI r) hm = some g ∧ (∀ b, b ≠ 123 → b ≠ 104 → g b = hm b) ∧ (∀ j, j ≠ 37 → g 104 j = hm 104 j) ∧ g 104 37 = nI r ∧ ∀ j, j < 12 → g 123 j = hm 123 (12 + j) := by
  obtain ⟨g, a1, a2, a3, a4⟩ := to_7 (nI r) FU 0 hm (by unfold FU; omega) (by decide)
  rw [nI_0] at a1
  refine ⟨up g 104 37 (nI r), ?_, fun b b1 b2 => by rw [up_cell b2, a2 b b1], fun j j1 => by rw [up_oj j1, a2 104 (by decide)], up_same, fun j hj => by rw [up_oc (by decide)]; exact a3 j (Nat.zero_le _) hj⟩
  unfold mm_takesOther
  rw [if_pos rfl, a1, lt_e]
/-- the class's rows tell who is next -/
theorem nt_rows {h : PH} {m : Nat} (hm : m ≤ 16) (e3 : h 14 3 = nI m) (e1 : h 14 1 = 5) (k : Nat) : mO_nextTo 5 (nI k) h = some (nxF (h 15) k m) := by
  have go : ∀ (n r : Nat), m < n + r → r ≤ m → mO_nextTo_L4 5 (nI k) h n (nxF (h 15) k r) (nI r) = some (nxF (h 15) k m) := by
    intro n
    induction n with
    | zero => intro r h1 h2; omega
    | succ n ih =>
      intro r h1 h2
      rw [mO_nextTo_L4, show h (5 + 9) 3 = nI m from e3]
      by_cases c : r = m
      · subst c
        rw [if_pos (nI_le (Nat.le_refl _) (by omega))]
      · have hr : r < m := by omega
        have b0 : mR_at (5 + 9) (nI r) 0 h = some (h 15 (5 * r)) := at_14 (c := 0) e1 e3 hm hr (by decide)
        have b1 : mR_at (5 + 9) (nI r) 1 h = some (h 15 (5 * r + 1)) := at_14 (c := 1) e1 e3 hm hr (by decide)
        have nx := ih (r + 1) (by omega) (by omega)
        rw [if_neg (nI_ge hr (by omega)), b0, bd_e, b1, bd_e, nI_1, jn1_e]
        rw [nxF] at nx
        unfold nxS at nx
        by_cases z : h 15 (5 * r) = nI k
        · rw [if_pos z, lt_e]
          dsimp only
          by_cases y : h 15 (5 * r + 1) = nI k
          · rw [if_pos y, if_pos z] at nx
            rw [if_pos y, lt_e]
            exact nx
          · rw [if_neg y, if_pos z] at nx
            rw [if_neg y]
            exact nx
        · rw [if_neg z]
          dsimp only
          by_cases y : h 15 (5 * r + 1) = nI k
          · rw [if_pos y, if_neg z] at nx
            rw [if_pos y, lt_e]
            exact nx
          · rw [if_neg y, if_neg z] at nx
            rw [if_neg y]
            exact nx
  have := go FU 0 (by unfold FU; omega) (Nat.zero_le _)
  rw [nI_0] at this
  exact this
