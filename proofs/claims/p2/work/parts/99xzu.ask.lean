/-! WHAT IS ASKED of the town: both sides answer alike -/
theorem ag_look (k : Nat) (a1 : Int32) (h : PH) (t : TWN k h) {rX rm : Int32} {h2 : PH} (e1 : mX_look a1 h = some rX) (e2 : mm_look a1 h = some (rm, h2)) : rX = rm := by
  obtain ⟨t1, t2, t3, ⟨H, N, M, u, s, Ls, t4, t5⟩, t6⟩ := id t
  have tt := tn_in (h1 := h) (fun _ _ => rfl) t4
  have pp := pkt_in (h1 := h) (fun _ _ => rfl) t5
  have fl := fun f f1 f2 => tt.1.1.2.2.2.1 f f1 f2
  have ckk : ∀ j, j < 115 → ∀ (z : Option (Int32 × PH)), ck (nI j) 115 z = z := fun j hj z => ck_nI hj (by decide)
  unfold mX_look at e1
  unfold mm_look at e2
  rw [lt_e] at e2
  by_cases c0 : a1 = 0
  · rw [if_pos c0] at e1 e2
    cases e1
    cases e2
    rw [t4.1.1.2.1]
    exact tt.1.1.2.2.1.symm
  rw [if_neg c0] at e1 e2
  by_cases c1 : a1 = 1
  · rw [if_pos c1] at e1 e2
    rw [show ck 3 115 _ = _ from ckk 3 (by decide) _, show ix (3 : Int32) = 3 from rfl] at e2
    cases e1
    cases e2
    exact fl 2 (by decide) (by decide)
  rw [if_neg c1] at e1 e2
  by_cases c2 : a1 = 2
  · rw [if_pos c2] at e1 e2
    rw [show ck 4 115 _ = _ from ckk 4 (by decide) _, show ix (4 : Int32) = 4 from rfl] at e2
    cases e1
    cases e2
    exact fl 3 (by decide) (by decide)
  rw [if_neg c2] at e1 e2
  by_cases c3 : a1 = 3
  · rw [if_pos c3] at e1 e2
    rw [show ck 5 115 _ = _ from ckk 5 (by decide) _, show ix (5 : Int32) = 5 from rfl] at e2
    cases e1
    cases e2
    exact fl 4 (by decide) (by decide)
  rw [if_neg c3] at e1 e2
  by_cases c4 : a1 = 4
  · rw [if_pos c4] at e1 e2
    rw [show ck 6 115 _ = _ from ckk 6 (by decide) _, show ix (6 : Int32) = 6 from rfl] at e2
    cases e1
    cases e2
    exact fl 5 (by decide) (by decide)
  rw [if_neg c4] at e1 e2
  by_cases c5 : a1 = 5
  · rw [if_pos c5] at e1 e2
    rw [show ck 0 115 _ = _ from ckk 0 (by decide) _, show ix (0 : Int32) = 0 from rfl] at e2
    cases e1
    cases e2
    exact fl 6 (by decide) (by decide)
  rw [if_neg c5] at e1 e2
  by_cases c6 : a1 = 6
  · rw [if_pos c6] at e1 e2
    obtain ⟨r, r1, r2⟩ := us_at tt.1.1
    rw [r1, bd_e] at e1
    rw [r2, bd_e] at e2
    cases e1
    cases e2
    rfl
  rw [if_neg c6] at e1 e2
  by_cases c7 : a1 = 7
  · rw [if_pos c7] at e1 e2
    rw [show ck 2 115 _ = _ from ckk 2 (by decide) _, show ix (2 : Int32) = 2 from rfl] at e2
    cases e1
    cases e2
    obtain ⟨n, n1, n2, n3, n4, n5, _⟩ := tt.1.2.2.1
    rw [n4, n5]
  rw [if_neg c7] at e1 e2
  by_cases c8 : a1 = 8
  · rw [if_pos c8] at e1 e2
    rw [show ck 1 115 _ = _ from ckk 1 (by decide) _, show ix (1 : Int32) = 1 from rfl] at e2
    cases e1
    cases e2
    exact fl 7 (by decide) (by decide)
  rw [if_neg c8] at e1 e2
  by_cases c9 : a1 = 9
  · rw [if_pos c9] at e1 e2
    rw [show ck 0 2 _ = _ from ck_nI (i := 0) (by decide) (by decide), show ix (0 : Int32) = 0 from rfl] at e2
    cases e1
    cases e2
    rw [tt.1.2.1.2.2.2.1.2.1]
    exact tt.1.2.1.2.2.2.2.1.symm
  rw [if_neg c9] at e1 e2
  by_cases c10 : a1 = 10
  · rw [if_pos c10] at e1 e2
    cases e1
    cases e2
    rw [tt.2.1.2.2.1]
    exact tt.2.1.2.2.2.1.symm
  rw [if_neg c10] at e1 e2
  by_cases c11 : a1 = 11
  · rw [if_pos c11] at e1 e2
    cases e1
    cases e2
    rw [tt.2.2.1.2.2.1]
    exact tt.2.2.1.2.2.2.1.symm
  rw [if_neg c11] at e1 e2
  by_cases c12 : a1 = 12
  · rw [if_pos c12] at e1 e2
    cases e1
    cases e2
    exact tt.2.2.2
  rw [if_neg c12] at e1 e2
  by_cases c13 : a1 = 13
  · rw [if_pos c13] at e1 e2
    cases e1
    cases e2
    rw [pp.2.2.2.1]
    exact pp.2.2.2.2.1.symm
  rw [if_neg c13] at e1 e2
  cases e1
  cases e2
  rfl
theorem at_16 {h : PH} {m r c : Nat} (c1 : h 16 1 = 4) (c3 : h 16 3 = nI m) (hm : m ≤ 150) (hr : r < m) (hc : c < 4) : mR_at 16 (nI r) (nI c) h = some (h 17 (4 * r + c)) := by
  unfold mR_at
  rw [if_neg (nI_pos (by omega)), c3, if_neg (nI_ge hr (by omega)), if_neg (nI_pos (by omega)), c1, if_pos (show nI c < (4 : Int32) from nI_lt (b := 4) hc (by decide)), show nI r * (4 : Int32) = nI (r * 4) from nI_mul r 4, nI_add, show ln (16 + 1) = 600 from rfl, ck_nI (by omega) (by decide), show ix (nI (r * 4 + c)) = r * 4 + c from nI_clamp (by omega), Nat.mul_comm r 4]
theorem ag_book (k : Nat) (a1 a2 : Int32) (h : PH) (t : TWN k h) {rX rm : Int32} {h2 : PH} (e1 : mX_book a1 a2 h = some rX) (e2 : mm_book a1 a2 h = some (rm, h2)) : rX = rm := by
  obtain ⟨t1, t2, t3, ⟨H, N, M, u, s, Ls, t4, t5⟩, t6⟩ := id t
  have tt := tn_in (h1 := h) (fun _ _ => rfl) t4
  obtain ⟨n, n1, n2, n3, n4, n5, n6, _⟩ := tt.1.2.2.1
  have z0 : (0 : Int32).toInt = 0 := rfl
  unfold mX_book at e1
  unfold mm_book at e2
  rw [lt_e, show ck 2 115 _ = _ from ck_nI (i := 2) (by decide) (by decide), show ix (2 : Int32) = 2 from rfl, n5] at e2
  rw [n4] at e1
  by_cases c : a1 < 0
  · rw [if_pos c] at e1
    rw [isIn_n (fun y => absurd c (Int32.not_lt.mpr y.1)), bd_e, if_pos rfl] at e2
    cases e1
    cases e2
    rfl
  · rw [if_neg c] at e1
    by_cases d : nI n ≤ a1
    · rw [if_pos d] at e1
      rw [isIn_n (fun y => ?_), bd_e, if_pos rfl] at e2
      · cases e1
        cases e2
        rfl
      · by_cases q : n = 0
        · rw [q] at y
          have := y.2
          rw [Int32.le_iff_toInt_le, show (nI 0 - 1 : Int32).toInt = -1 from rfl] at this
          rw [Int32.lt_iff_toInt_lt, z0] at c
          omega
        · have y2 := y.2
          rw [show nI n - 1 = nI (n - 1) by have := nI_pred (n - 1); rw [show n - 1 + 1 = n by omega] at this; exact this] at y2
          rw [Int32.le_iff_toInt_le, nI_toInt (by omega)] at y2 d
          omega
    · rw [if_neg d] at e1
      obtain ⟨r, r1, r2, er⟩ := nat_of (a := 0) (b := 150) (x := a1) ⟨by rw [Int32.lt_iff_toInt_lt, z0] at c; omega, by rw [Int32.le_iff_toInt_le, nI_toInt (show n < 2 ^ 31 by omega)] at d; omega⟩ (by decide)
      subst er
      have hr : r < n := by
        rw [Int32.le_iff_toInt_le, nI_toInt (by omega), nI_toInt (by omega)] at d
        omega
      rw [isIn_y (show (0 : Int32) ≤ nI r ∧ nI r ≤ nI n - 1 from ⟨nI_pos' (by omega), by
        rw [show nI n - 1 = nI (n - 1) by have := nI_pred (n - 1); rw [show n - 1 + 1 = n by omega] at this; exact this]
        exact nI_le (by omega) (by omega)⟩), bd_e, if_neg no10] at e2
      by_cases f : 0 ≤ a2 ∧ a2 ≤ 3
      · obtain ⟨c, cx, c2, ec⟩ := nat_of (rng_of (x := 0) (y := 3) rfl rfl f) (by decide)
        subst ec
        rw [within_y f, bd_e, if_neg no10, at_16 n3 n4 n1 hr (show c < 4 by omega), bd_e] at e1
        rw [isIn_y f, bd_e, if_neg no10, show (4 : Int32) * nI r = nI (4 * r) from nI_mul 4 r, nI_add, ck_nI (show 4 * r + c < 600 by omega) (by decide), show ix (nI (4 * r + c)) = 4 * r + c from nI_clamp (by omega)] at e2
        cases e1
        cases e2
        exact n6 _ (by omega)
      · rw [within_n f, bd_e, if_pos rfl] at e1
        rw [isIn_n f, bd_e, if_pos rfl] at e2
        cases e1
        cases e2
        rfl
theorem ag_of (k : Nat) (a1 a2 : Int32) (h : PH) (t : TWN k h) {rX rm : Int32} {h1 h2 : PH} (e1 : mX_of a1 a2 h = some (rX, h1)) (e2 : mm_of a1 a2 h1 = some (rm, h2)) (cs : CS h h1 h2) : rX = rm := by
  have xx := cs.2.2.2.1
  obtain ⟨t1, t2, t3, ⟨H, N, M, u, s, Ls, t4, t5⟩, t6⟩ := id t
  have tt := tn_in xx t4
  have h12 : H ≤ 12 := t4.1.1.1
  unfold mX_of at e1
  unfold mm_of at e2
  rw [lt_e, hs_m h (up h1 104 0 0) H t4.1.1.2.1 tt.1.1.2.2.1 a1] at e2
  rcases hs_c h H t4.1.1.2.1 h12 a1 with ⟨i, hi, ei, hh⟩ | ⟨_, hh⟩
  · rw [hh, bd_e, if_neg no10] at e1 e2
    subst ei
    have col := colM tt.1.1 hi
    by_cases f : 0 ≤ a2 ∧ a2 ≤ 10
    · obtain ⟨c, cx, c2, ec⟩ := nat_of (rng_of (x := 0) (y := 10) rfl rfl f) (by decide)
      subst ec
      rw [within_y f, bd_e, if_neg no10, rdB t4.1.1 hi (show c < 11 by omega), bd_e] at e1
      cases e1
      by_cases w4 : c < 4
      · rw [isIn_y (show (0 : Int32) ≤ nI c ∧ nI c ≤ 3 from ⟨nI_pos' (by omega), nI_le (b := 3) (by omega) (by decide)⟩), bd_e, if_neg no10, wlM tt.1.1 hi w4, bd_e] at e2
        cases e2
        rfl
      · rw [isIn_n (show ¬ ((0 : Int32) ≤ nI c ∧ nI c ≤ (3 : Int32)) from fun y => absurd ((nI_leI (b := 3) (by omega) (by decide)).mp y.2) (by omega)), bd_e, if_pos rfl, isIn_n (show ¬ ((20 : Int32) ≤ nI c ∧ nI c ≤ (23 : Int32)) from fun y => absurd ((nI_leI (a := 20) (by decide) (by omega)).mp y.1) (by omega)), bd_e, if_pos rfl, isIn_n (show ¬ ((30 : Int32) ≤ nI c ∧ nI c ≤ (33 : Int32)) from fun y => absurd ((nI_leI (a := 30) (by decide) (by omega)).mp y.1) (by omega)), bd_e, if_pos rfl] at e2
        have cc : c = 4 ∨ c = 5 ∨ c = 6 ∨ c = 7 ∨ c = 8 ∨ c = 9 ∨ c = 10 := by omega
        rcases cc with z | z | z | z | z | z | z <;> subst z
        · rw [if_pos (show nI 4 = (4 : Int32) from rfl), ck_nI (show i < 12 by omega) (by decide), show ix (nI i) = i from nI_clamp (by omega)] at e2
          cases e2
          exact col.1.symm
        · rw [if_neg (show ¬ nI 5 = (4 : Int32) by decide), if_pos (show nI 5 = (5 : Int32) from rfl), ck_nI (show i < 12 by omega) (by decide), show ix (nI i) = i from nI_clamp (by omega)] at e2
          cases e2
          exact col.2.1.symm
        · rw [if_neg (show ¬ nI 6 = (4 : Int32) by decide), if_neg (show ¬ nI 6 = (5 : Int32) by decide), if_pos (show nI 6 = (6 : Int32) from rfl), show (55 : Int32) + nI i = nI (55 + i) from nI_add 55 i, ck_nI (show 55 + i < 115 by omega) (by decide), show ix (nI (55 + i)) = 55 + i from nI_clamp (by omega)] at e2
          cases e2
          exact col.2.2.1.symm
        · rw [if_neg (show ¬ nI 7 = (4 : Int32) by decide), if_neg (show ¬ nI 7 = (5 : Int32) by decide), if_neg (show ¬ nI 7 = (6 : Int32) by decide), if_pos (show nI 7 = (7 : Int32) from rfl), show (79 : Int32) + nI i = nI (79 + i) from nI_add 79 i, ck_nI (show 79 + i < 115 by omega) (by decide), show ix (nI (79 + i)) = 79 + i from nI_clamp (by omega)] at e2
          cases e2
          exact col.2.2.2.1.symm
        · rw [if_neg (show ¬ nI 8 = (4 : Int32) by decide), if_neg (show ¬ nI 8 = (5 : Int32) by decide), if_neg (show ¬ nI 8 = (6 : Int32) by decide), if_neg (show ¬ nI 8 = (7 : Int32) by decide), if_pos (show nI 8 = (8 : Int32) from rfl), show (67 : Int32) + nI i = nI (67 + i) from nI_add 67 i, ck_nI (show 67 + i < 115 by omega) (by decide), show ix (nI (67 + i)) = 67 + i from nI_clamp (by omega)] at e2
          cases e2
          exact col.2.2.2.2.1.symm
        · rw [if_neg (show ¬ nI 9 = (4 : Int32) by decide), if_neg (show ¬ nI 9 = (5 : Int32) by decide), if_neg (show ¬ nI 9 = (6 : Int32) by decide), if_neg (show ¬ nI 9 = (7 : Int32) by decide), if_neg (show ¬ nI 9 = (8 : Int32) by decide), if_pos (show nI 9 = (9 : Int32) from rfl), show (91 : Int32) + nI i = nI (91 + i) from nI_add 91 i, ck_nI (show 91 + i < 115 by omega) (by decide), show ix (nI (91 + i)) = 91 + i from nI_clamp (by omega)] at e2
          cases e2
          exact col.2.2.2.2.2.1.symm
        · rw [if_neg (show ¬ nI 10 = (4 : Int32) by decide), if_neg (show ¬ nI 10 = (5 : Int32) by decide), if_neg (show ¬ nI 10 = (6 : Int32) by decide), if_neg (show ¬ nI 10 = (7 : Int32) by decide), if_neg (show ¬ nI 10 = (8 : Int32) by decide), if_neg (show ¬ nI 10 = (9 : Int32) by decide), if_pos (show nI 10 = (10 : Int32) from rfl), show (103 : Int32) + nI i = nI (103 + i) from nI_add 103 i, ck_nI (show 103 + i < 115 by omega) (by decide), show ix (nI (103 + i)) = 103 + i from nI_clamp (by omega)] at e2
          cases e2
          exact (col.2.2.2.2.2.2 trivial).symm
    · rw [within_n f, bd_e, if_pos rfl] at e1
      by_cases c11 : a2 = 11
      · subst c11
        obtain ⟨b1, b2, b3⟩ := th_at tt.1.1 hi
        obtain ⟨v, g1, g2, v1, v2, v3, v4, v5⟩ := te_rent tt.1.2.1 tt.1.1 hi b3 b2
        rw [if_pos rfl, b1, bd_e, v2, bd2_e] at e1
        rw [isIn_n (show ¬ ((0 : Int32) ≤ 11 ∧ (11 : Int32) ≤ 3) by decide), bd_e, if_pos rfl, isIn_n (show ¬ ((20 : Int32) ≤ 11 ∧ (11 : Int32) ≤ 23) by decide), bd_e, if_pos rfl, isIn_n (show ¬ ((30 : Int32) ≤ 11 ∧ (11 : Int32) ≤ 33) by decide), bd_e, if_pos rfl, if_neg (show ¬ (11 : Int32) = 4 by decide), if_neg (show ¬ (11 : Int32) = 5 by decide), if_neg (show ¬ (11 : Int32) = 6 by decide), if_neg (show ¬ (11 : Int32) = 7 by decide), if_neg (show ¬ (11 : Int32) = 8 by decide), if_neg (show ¬ (11 : Int32) = 9 by decide), if_neg (show ¬ (11 : Int32) = 10 by decide), if_pos rfl, v3, bd2_e] at e2
        cases e1
        cases e2
        rfl
      · rw [if_neg c11] at e1
        by_cases c12 : a2 = 12
        · subst c12
          rw [if_pos rfl, tt.1.2.2.2.1 i (by omega), bd_e] at e1
          rw [isIn_n (show ¬ ((0 : Int32) ≤ 12 ∧ (12 : Int32) ≤ 3) by decide), bd_e, if_pos rfl, isIn_n (show ¬ ((20 : Int32) ≤ 12 ∧ (12 : Int32) ≤ 23) by decide), bd_e, if_pos rfl, isIn_n (show ¬ ((30 : Int32) ≤ 12 ∧ (12 : Int32) ≤ 33) by decide), bd_e, if_pos rfl, if_neg (show ¬ (12 : Int32) = 4 by decide), if_neg (show ¬ (12 : Int32) = 5 by decide), if_neg (show ¬ (12 : Int32) = 6 by decide), if_neg (show ¬ (12 : Int32) = 7 by decide), if_neg (show ¬ (12 : Int32) = 8 by decide), if_neg (show ¬ (12 : Int32) = 9 by decide), if_neg (show ¬ (12 : Int32) = 10 by decide), if_neg (show ¬ (12 : Int32) = 11 by decide), if_pos rfl, ck_nI (show i < 24 by omega) (by decide), show ix (nI i) = i from nI_clamp (by omega)] at e2
          cases e1
          cases e2
          rfl
        · rw [if_neg c12] at e1
          have nf : ¬ (0 ≤ a2 ∧ a2 ≤ 3) := fun y => f ⟨y.1, Int32.le_trans y.2 (by decide)⟩
          rw [isIn_n nf, bd_e, if_pos rfl] at e2
          by_cases g : 20 ≤ a2 ∧ a2 ≤ 23
          · obtain ⟨v, vx, v2, ev⟩ := nat_of (rng_of (x := 20) (y := 23) rfl rfl g) (by decide)
            subst ev
            have v20 : 20 ≤ v := (nI_leI (a := 20) (by decide) (by omega)).mp g.1
            have sb : nI v - (20 : Int32) = nI (v - 20) := nI_sub (b := 20) v20
            obtain ⟨x, g1, g2, x1, x2, x3, _⟩ := te_gnaw tt.1.2.1 tt.1.1 hi (show v - 20 < 4 by omega)
            rw [within_y g, bd_e, if_neg no10, sb, x2, bd2_e] at e1
            rw [isIn_y g, bd_e, if_neg no10, sb, x3, bd2_e] at e2
            cases e1
            cases e2
            rfl
          · rw [within_n g, bd_e, if_pos rfl] at e1
            rw [isIn_n g, bd_e, if_pos rfl] at e2
            by_cases q : 30 ≤ a2 ∧ a2 ≤ 33
            · obtain ⟨v, vx, v2, ev⟩ := nat_of (rng_of (x := 30) (y := 33) rfl rfl q) (by decide)
              subst ev
              have v30 : 30 ≤ v := (nI_leI (a := 30) (by decide) (by omega)).mp q.1
              have sb : nI v - (30 : Int32) = nI (v - 30) := nI_sub (b := 30) v30
              obtain ⟨x, g1, g2, x1, x2, x3, _⟩ := te_melt tt.1.2.1 tt.1.1 hi (show v - 30 < 4 by omega)
              rw [within_y q, bd_e, if_neg no10, sb, x2, bd2_e] at e1
              rw [isIn_y q, bd_e, if_neg no10, sb, x3, bd2_e] at e2
              cases e1
              cases e2
              rfl
            · rw [within_n q, bd_e, if_pos rfl] at e1
              have nn : ∀ d, d ≤ 10 → 4 ≤ d → ¬ a2 = nI d := fun d hd _ y => f (by rw [y]; exact ⟨nI_pos' (by omega), nI_le (b := 10) (by omega) (by decide)⟩)
              rw [isIn_n q, bd_e, if_pos rfl, if_neg (show ¬ a2 = (4 : Int32) from nn 4 (by decide) (by decide)), if_neg (show ¬ a2 = (5 : Int32) from nn 5 (by decide) (by decide)), if_neg (show ¬ a2 = (6 : Int32) from nn 6 (by decide) (by decide)), if_neg (show ¬ a2 = (7 : Int32) from nn 7 (by decide) (by decide)), if_neg (show ¬ a2 = (8 : Int32) from nn 8 (by decide) (by decide)), if_neg (show ¬ a2 = (9 : Int32) from nn 9 (by decide) (by decide)), if_neg (show ¬ a2 = (10 : Int32) from nn 10 (by decide) (by decide)), if_neg c11, if_neg c12] at e2
              cases e1
              cases e2
              rfl
  · rw [hh, bd_e, if_pos rfl] at e1 e2
    cases e1
    cases e2
    rfl
