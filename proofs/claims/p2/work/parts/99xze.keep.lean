/-! THE TOWN IS KEPT: both sides -/
theorem bc_g {a0 a1 : Nat} (d : a0 + 1 < a1 ∨ a1 + 1 < a0) (h : PH) : ∃ g, mB_copyFrom a0 a1 h = some g ∧ (∀ c, c ≠ a0 → c ≠ a0 + 1 → g c = h c) ∧ (∀ j, 1 ≤ j → j ≤ 7 → g a0 j = h a1 j) ∧ ∀ j, j < 132 → g (a0 + 1) j = h (a1 + 1) j := by
  have n1 : a1 ≠ a0 := by omega
  have n2 : a1 ≠ a0 + 1 := by omega
  have n3 : a0 + 1 ≠ a0 := by omega
  have n4 : a1 + 1 ≠ a0 := by omega
  unfold mB_copyFrom
  have hcc : ∀ {ρ : Type} (k : Option ρ), cc 132 132 0 0 132 k = k := fun k => if_neg (by decide)
  rw [hcc, lt_e, lt_e, lt_e, lt_e, lt_e, lt_e, lt_e, lt_e, show ix (0 : Int32) = 0 from rfl, show ix (132 : Int32) = 132 from rfl]
  refine ⟨_, rfl, fun c h1 h2 => ?_, fun j h1 h2 => ?_, fun j hj => ?_⟩
  · funext j
    rw [up_oc h1, up_oc h1, up_oc h1, up_oc h1, up_oc h1, up_oc h1, up_oc h1, cpy_at, if_neg h2]
  · have h7 : j = 1 ∨ j = 2 ∨ j = 3 ∨ j = 4 ∨ j = 5 ∨ j = 6 ∨ j = 7 := by omega
    rcases h7 with rfl | rfl | rfl | rfl | rfl | rfl | rfl <;> simp [up_at, cpy_at, n1, n2]
  · rw [up_oc n3, up_oc n3, up_oc n3, up_oc n3, up_oc n3, up_oc n3, up_oc n3, cpy_at, if_pos rfl, if_pos hj]
theorem irm_6 : ∀ s, s < 7 → ∀ u, u < 7 → irm (nI s + nI u) 6 = nI ((s + u) % 6) := by decide +kernel
/-- the class keeps its town -/
theorem kp_c {u s : Nat} {hc : PH} (hu : u ≤ 6) (hs : s < 6) (e2 : hc 70 2 = nI s) (e3 : hc 70 3 = nI u) (p : Int32) : ∃ gc, mP_keep 1 p hc = some gc ∧ (∀ c, c ≠ 70 → c ≠ 72 → c ≠ 73 + 2 * ((s + u) % 6) → c ≠ 74 + 2 * ((s + u) % 6) → gc c = hc c) ∧ (∀ j, 1 ≤ j → j ≤ 7 → gc (73 + 2 * ((s + u) % 6)) j = hc 1 j) ∧ (∀ j, j < 132 → gc (74 + 2 * ((s + u) % 6)) j = hc 2 j) ∧ gc 72 ((s + u) % 6) = p ∧ (∀ j, j ≠ (s + u) % 6 → gc 72 j = hc 72 j) ∧ gc 70 2 = nI (if u = 6 then (s + 1) % 6 else s) ∧ gc 70 3 = nI (if u = 6 then 6 else u + 1) := by
  have m6 : (s + u) % 6 < 6 := Nat.mod_lt _ (by decide)
  have d6 : ∀ {ρ : Type} (q : Option ρ), dz 6 q = q := fun q => by unfold dz; rw [if_neg (by decide)]
  obtain ⟨g, g1, g2, g3, g4⟩ := bc_g (a0 := 73 + 2 * ((s + u) % 6)) (a1 := 1) (by omega) hc
  have c6 : ∀ (z : Option PH), ck (nI ((s + u) % 6)) 6 z = z := fun z => ck_nI m6 (by decide)
  have x6 : ix (nI ((s + u) % 6)) = (s + u) % 6 := nI_clamp (by omega)
  have f2 : up g 72 ((s + u) % 6) p 70 2 = nI s := by rw [up_oc (by decide), g2 70 (by omega) (by omega)]; exact e2
  have f3 : up g 72 ((s + u) % 6) p 70 3 = nI u := by rw [up_oc (by decide), g2 70 (by omega) (by omega)]; exact e3
  unfold mP_keep
  rw [d6, lt_e, e2, e3, irm_6 s (by omega) u (by omega), c6, x6, g1, bd_e, c6, lt_e, f3]
  by_cases c : u = 6
  · have i1 : irm (nI s + 1) 6 = nI ((s + 1) % 6) := irm_6 s (by omega) 1 (by decide)
    rw [if_pos (show (6 : Int32) ≤ nI u by rw [c]; decide), d6, lt_e, f2, i1, if_pos c, if_pos c]
    refine ⟨_, rfl, fun x x1 x2 x3 x4 => ?_, fun j j1 j2 => ?_, fun j hj => ?_, ?_, fun j hj => ?_, up_same, ?_⟩
    · rw [up_cell x1, up_cell x2, g2 x x3 (by omega)]
    · rw [up_oc (by omega), up_oc (by omega)]; exact g3 j j1 j2
    · rw [up_oc (by omega), up_oc (by omega), show 74 + 2 * ((s + u) % 6) = 73 + 2 * ((s + u) % 6) + 1 by omega]; exact g4 j hj
    · rw [up_oc (by decide), up_same]
    · rw [up_oc (by decide), up_oj hj, g2 72 (by omega) (by omega)]
    · rw [up_oj (by decide), f3, c]
  · rw [if_neg (show ¬ (6 : Int32) ≤ nI u from nI_ge (b := 6) (by omega) (by decide)), lt_e, nI_1, if_neg c, if_neg c]
    refine ⟨_, rfl, fun x x1 x2 x3 x4 => ?_, fun j j1 j2 => ?_, fun j hj => ?_, ?_, fun j hj => ?_, ?_, up_same⟩
    · rw [up_cell x1, up_cell x2, g2 x x3 (by omega)]
    · rw [up_oc (by omega), up_oc (by omega)]; exact g3 j j1 j2
    · rw [up_oc (by omega), up_oc (by omega), show 74 + 2 * ((s + u) % 6) = 73 + 2 * ((s + u) % 6) + 1 by omega]; exact g4 j hj
    · rw [up_oc (by decide), up_same]
    · rw [up_oc (by decide), up_oj hj, g2 72 (by omega) (by omega)]
    · rw [up_oj (by decide), f2]
/-- the model's now is laid into row u -/
theorem ka_55 {u : Nat} (hu : u < 6) : ∀ (n x : Nat) (gm : PH), 115 < n + x → x ≤ 115 → gm 104 3 = nI u → ∃ g, (∀ k0, mm_keepsAhead_L55 k0 n (nI x) gm = k0 g) ∧ (∀ b, b ≠ 106 → g b = gm b) ∧ (∀ y, x ≤ y → y < 115 → g 106 (115 * u + y) = gm 105 y) ∧ ∀ y, y < 115 * u + x → g 106 y = gm 106 y := by
  intro n
  induction n with
  | zero => intro x gm h1 h2; omega
  | succ n ih =>
    intro x gm h1 h2 e3
    by_cases c : x = 115
    · subst c
      exact ⟨gm, fun k0 => by rw [mm_keepsAhead_L55, if_pos (by decide)], fun _ _ => rfl, fun y y1 y2 => by omega, fun _ _ => rfl⟩
    · have hx : x < 115 := by omega
      obtain ⟨g, a1, a2, a3, a4⟩ := ih (x + 1) (up gm 106 (115 * u + x) (gm 105 x)) (by omega) (by omega) (by rw [up_oc (by decide)]; exact e3)
      refine ⟨g, fun k0 => ?_, fun b hb => by rw [a2 b hb, up_cell hb], fun y y1 y2 => ?_, fun y hy => by rw [a4 y (by omega), up_oj (by omega)]⟩
      · rw [mm_keepsAhead_L55, if_neg (show ¬ (115 : Int32) ≤ nI x from nI_ge (b := 115) hx (by decide)), ck_nI (show x < 115 by omega) (by decide), e3, show (115 : Int32) * nI u = nI (115 * u) from nI_mul 115 u, nI_add, ck_nI (show 115 * u + x < 690 by omega) (by decide), lt_e, show ix (nI (115 * u + x)) = 115 * u + x from nI_clamp (by omega), show ix (nI x) = x from nI_clamp (by omega), nI_1, a1]
      · by_cases z : y = x
        · rw [z, a4 _ (by omega), up_same]
        · rw [a3 y (by omega) y2, up_oc (by decide)]
theorem ka_21 : ∀ (n x : Nat) (gm : PH), 575 < n + x → x ≤ 575 → gm 104 3 = nI 5 → ∃ g, (∀ k0, mm_keepsAhead_L21 k0 n (nI x) gm = k0 g) ∧ (∀ b, b ≠ 106 → g b = gm b) ∧ (∀ y, x ≤ y → y < 575 → g 106 y = gm 106 (y + 115)) ∧ ∀ y, y < x → g 106 y = gm 106 y := by
  intro n
  induction n with
  | zero => intro x gm h1 h2; omega
  | succ n ih =>
    intro x gm h1 h2 e3
    have t5 : (115 : Int32) * nI 5 = nI 575 := nI_mul 115 5
    by_cases c : x = 575
    · subst c
      exact ⟨gm, fun k0 => by rw [mm_keepsAhead_L21, e3, t5, if_pos (nI_le (Nat.le_refl _) (by decide))], fun _ _ => rfl, fun y y1 y2 => by omega, fun _ _ => rfl⟩
    · have hx : x < 575 := by omega
      obtain ⟨g, a1, a2, a3, a4⟩ := ih (x + 1) (up gm 106 x (gm 106 (x + 115))) (by omega) (by omega) (by rw [up_oc (by decide)]; exact e3)
      refine ⟨g, fun k0 => ?_, fun b hb => by rw [a2 b hb, up_cell hb], fun y y1 y2 => ?_, fun y hy => by rw [a4 y (by omega), up_oj (by omega)]⟩
      · rw [mm_keepsAhead_L21, e3, t5, if_neg (nI_ge hx (by decide)), show nI x + (115 : Int32) = nI (x + 115) from nI_add x 115, ck_nI (show x + 115 < 690 by omega) (by decide), ck_nI (show x < 690 by omega) (by decide), lt_e, show ix (nI (x + 115)) = x + 115 from nI_clamp (by omega), show ix (nI x) = x from nI_clamp (by omega), nI_1, a1]
      · by_cases z : y = x
        · rw [z, a4 _ (by omega), up_same]
        · rw [a3 y (by omega) y2, up_oj (by omega)]
/-- the model keeps its town -/
theorem kp_m {u : Nat} {hm : PH} (hu : u ≤ 6) (e3 : hm 104 3 = nI u) : ∃ gm, mm_keepsAhead hm = some gm ∧ (∀ b, b ≠ 106 → b ≠ 104 → gm b = hm b) ∧ (∀ j, j ≠ 3 → gm 104 j = hm 104 j) ∧ gm 104 3 = nI (if u = 6 then 6 else u + 1) ∧ (∀ j x, j < (if u = 6 then 5 else u) → x < 115 → gm 106 (115 * j + x) = hm 106 (115 * (if u = 6 then j + 1 else j) + x)) ∧ ∀ x, x < 115 → gm 106 (115 * (if u = 6 then 5 else u) + x) = hm 105 x := by
  unfold mm_keepsAhead
  rw [jn1_e, e3]
  by_cases c : u = 6
  · subst c
    obtain ⟨g1, a1, a2, a3, a4⟩ := ka_21 FU 0 (up hm 104 3 (nI 5)) (by unfold FU; omega) (by decide) up_same
    obtain ⟨g2, b1, b2, b3, b4⟩ := ka_55 (u := 5) (by decide) FU 0 g1 (by unfold FU; omega) (by decide) (by rw [a2 104 (by decide)]; exact up_same)
    rw [nI_0] at a1 b1
    have f3 : g2 104 3 = nI 5 := by rw [b2 104 (by decide), a2 104 (by decide)]; exact up_same
    rw [if_pos (show nI 6 = (6 : Int32) from rfl), lt_e, show nI 6 - (1 : Int32) = nI 5 from rfl, a1]
    dsimp only
    rw [b1, lt_e, f3]
    refine ⟨_, rfl, fun b hb1 hb2 => ?_, fun j hj => ?_, ?_, fun j x hj hx => ?_, fun x hx => ?_⟩
    · rw [up_cell hb2, b2 b hb1, a2 b hb1, up_cell hb2]
    · rw [up_oj hj, b2 104 (by decide), a2 104 (by decide), up_oj hj]
    · rw [up_same]; rfl
    · rw [if_pos rfl] at hj ⊢
      rw [up_oc (by decide), b4 _ (by omega), a3 _ (by omega) (by omega), up_oc (by decide), show 115 * j + x + 115 = 115 * (j + 1) + x by omega]
    · rw [if_pos rfl, up_oc (by decide), b3 x (by omega) hx, a2 105 (by decide), up_oc (by decide)]
  · obtain ⟨g2, b1, b2, b3, b4⟩ := ka_55 (u := u) (by omega) FU 0 hm (by unfold FU; omega) (by decide) e3
    rw [nI_0] at b1
    rw [if_neg (show ¬ nI u = (6 : Int32) from fun z => c ((nI_eq (b := 6) (by omega) (by decide)).mp z))]
    dsimp only
    rw [b1, lt_e, b2 104 (by decide), e3, nI_1]
    refine ⟨_, rfl, fun b hb1 hb2 => ?_, fun j hj => ?_, ?_, fun j x hj hx => ?_, fun x hx => ?_⟩
    · rw [up_cell hb2, b2 b hb1]
    · rw [up_oj hj, b2 104 (by decide)]
    · rw [up_same, if_neg c]
    · rw [if_neg c] at hj ⊢
      rw [up_oc (by decide), b4 _ (by omega)]
    · rw [if_neg c, up_oc (by decide), b3 x (by omega) hx]
theorem rt_B0 {B : BKT} {A : Nat → Prop} {H b : Nat} {Ls : LNS} {hc hm : PH} (r : RTT A H b Ls B hc hm) : RTT A H b Ls B0 hc hm := by
  obtain ⟨q1, q2, ⟨n, n1, n2, n3, n4, n5, n6, n7⟩, q4, q5, q6, q7⟩ := r
  exact ⟨q1, q2, ⟨n, n1, n2, n3, n4, n5, n6, Nat.zero_le n, fun j hj => absurd hj (Nat.not_lt_zero j)⟩, q4, q5, q6, q7⟩
/-- both sides keep the town: what was kept stays kept but the oldest of six -/
theorem kp_sim {B : BKT} {H b u s : Nat} {Ls : LNS} {hc hm : PH} (r : RTT AA H b Ls B hc hm) (pk : PK H b Ls u s hc hm) : ∃ gc gm u' s', mP_keep 1 (hc 16 3) hc = some gc ∧ mm_keepsAhead hm = some gm ∧ RTT AA H b Ls B gc gm ∧ PK H b Ls u' s' gc gm ∧ (∀ x, x < 70 → gc x = hc x) ∧ (∀ x, 84 < x → gc x = hc x) ∧ (∀ x, x ≠ 106 → x ≠ 104 → gm x = hm x) ∧ ∀ j, j ≠ 3 → gm 104 j = hm 104 j := by
  obtain ⟨p1, p2, p3, p4, p5, p6, p7⟩ := pk
  obtain ⟨gc, a1, a2, a3, a4, a5, a6, a7, a8⟩ := kp_c p1 p2 p3 p4 (hc 16 3)
  obtain ⟨gm, b1, b2, b3, b4, b5, b6⟩ := kp_m p1 p5
  have m6 : (s + u) % 6 < 6 := Nat.mod_lt _ (by decide)
  have fc : ∀ x, x < 70 → gc x = hc x := fun x hx => a2 x (by omega) (by omega) (by omega) (by omega)
  have now : RTT AA H b Ls B gc gm := rt_cg r (fun j _ _ => by rw [fc 1 (by decide)]) (fun j _ => by rw [fc 2 (by decide)]) (fun x x1 x2 => fc x (by omega)) (fc 14 (by decide)) (fc 15 (by decide)) (by rw [fc 16 (by decide)]) (by rw [fc 16 (by decide)]) (by rw [fc 16 (by decide)]) (fun j _ => by rw [fc 17 (by decide)]) (by rw [fc 68 (by decide)]) (b3 5 (by decide)) (b3 6 (by decide)) (fun j _ => by rw [b2 105 (by decide) (by decide)]) (fun j _ => by rw [b2 108 (by decide) (by decide)]) (fun j _ => by rw [b2 109 (by decide) (by decide)]) (fun j _ => by rw [b2 110 (by decide) (by decide)]) (fun x x1 x2 => b2 x (by omega) (by omega)) (b2 123 (by decide) (by decide))
  have new : RTT AA H b Ls B0 (pC ((s + u) % 6) gc) (pM (if u = 6 then 5 else u) gm) ∧ gc 72 ((s + u) % 6) ≤ gc 16 3 := by
    refine ⟨rt_cg (rt_B0 r) (fun j j1 j2 => a3 j j1 j2) (fun j hj => a4 j hj) (fun x x1 x2 => ?_) ?_ ?_ ?_ ?_ ?_ (fun j _ => ?_) ?_ ?_ ?_ (fun x hx => b6 x hx) (fun j _ => ?_) (fun j _ => ?_) (fun j _ => ?_) (fun x x1 x2 => ?_) ?_, ?_⟩
    · rw [pC_o _ gc (by omega) (by omega) (by omega)]; exact fc x (by omega)
    · rw [pC_o _ gc (by decide) (by decide) (by decide)]; exact fc 14 (by decide)
    · rw [pC_o _ gc (by decide) (by decide) (by decide)]; exact fc 15 (by decide)
    · rw [pC_6 _ gc (by decide), fc 16 (by decide)]
    · rw [pC_6 _ gc (by decide), fc 16 (by decide)]
    · rw [pC_3]; exact a5
    · rw [pC_o _ gc (by decide) (by decide) (by decide), fc 17 (by decide)]
    · rw [pC_o _ gc (by decide) (by decide) (by decide), fc 68 (by decide)]
    · rw [pM_o _ gm (by decide)]; exact b3 5 (by decide)
    · rw [pM_o _ gm (by decide)]; exact b3 6 (by decide)
    · rw [pM_o _ gm (by decide), b2 108 (by decide) (by decide)]
    · rw [pM_o _ gm (by decide), b2 109 (by decide) (by decide)]
    · rw [pM_o _ gm (by decide), b2 110 (by decide) (by decide)]
    · rw [pM_o _ gm (by omega)]; exact b2 x (by omega) (by omega)
    · rw [pM_o _ gm (by decide)]; exact b2 123 (by decide) (by decide)
    · rw [a5, fc 16 (by decide)]; exact Int32.le_refl _
  have old : ∀ j k e, e = (s + j) % 6 → j < u → e ≠ (s + u) % 6 → (∀ x, x < 115 → gm 106 (115 * k + x) = hm 106 (115 * j + x)) → RTT AA H b Ls B0 (pC e gc) (pM k gm) ∧ gc 72 e ≤ gc 16 3 := fun j k e ee hj ne hk => by
    have me : e < 6 := by rw [ee]; exact Nat.mod_lt _ (by decide)
    have pj := p6 j hj
    rw [← ee] at pj
    refine ⟨rt_kept pj.1 (fun x _ _ => by rw [a2 _ (by omega) (by omega) (by omega) (by omega)]) (fun x _ => by rw [a2 _ (by omega) (by omega) (by omega) (by omega)]) (a6 e ne) (fun x x1 x2 => fc x (by omega)) (fc 14 (by decide)) (fc 15 (by decide)) (by rw [fc 16 (by decide)]) (by rw [fc 16 (by decide)]) (fun x _ => by rw [fc 17 (by decide)]) (by rw [fc 68 (by decide)]) (b3 5 (by decide)) (b3 6 (by decide)) hk (fun x _ => by rw [b2 108 (by decide) (by decide)]) (fun x _ => by rw [b2 109 (by decide) (by decide)]) (fun x _ => by rw [b2 110 (by decide) (by decide)]) (fun x x1 x2 => b2 x (by omega) (by omega)) (b2 123 (by decide) (by decide)), ?_⟩
    rw [a6 e ne, fc 16 (by decide)]
    exact pj.2
  refine ⟨gc, gm, (if u = 6 then 6 else u + 1), (if u = 6 then (s + 1) % 6 else s), a1, b1, now, ⟨?_, ?_, a7, a8, b4, fun j hj => ?_, fun i j hij hj => ?_⟩, fc, fun x hx => a2 x (by omega) (by omega) (by omega) (by omega), b2, b3⟩
  · split <;> omega
  · split <;> omega
  · by_cases c : u = 6
    · rw [if_pos c] at hj
      rw [if_pos c]
      by_cases z : j = 5
      · have e : ((s + 1) % 6 + j) % 6 = (s + u) % 6 := by omega
        rw [if_pos c] at new
        rw [e, z]
        exact new
      · exact old (j + 1) j _ (by omega) (by omega) (by omega) (fun x hx => by
          have := b5 j x (by rw [if_pos c]; omega) hx
          rw [if_pos c] at this
          exact this)
    · rw [if_neg c] at hj
      rw [if_neg c]
      by_cases z : j = u
      · rw [if_neg c] at new
        rw [z]
        exact new
      · exact old j j _ rfl (by omega) (by omega) (fun x hx => by
          have := b5 j x (by rw [if_neg c]; omega) hx
          rw [if_neg c] at this
          exact this)
  · by_cases c : u = 6
    · rw [if_pos c] at hj
      rw [if_pos c, show ((s + 1) % 6 + i) % 6 = (s + (i + 1)) % 6 by omega]
      by_cases z : j = 5
      · have e : ((s + 1) % 6 + j) % 6 = (s + u) % 6 := by omega
        rw [e, a5, a6 ((s + (i + 1)) % 6) (by omega)]
        exact (p6 (i + 1) (by omega)).2
      · rw [show ((s + 1) % 6 + j) % 6 = (s + (j + 1)) % 6 by omega, a6 ((s + (i + 1)) % 6) (by omega), a6 ((s + (j + 1)) % 6) (by omega)]
        exact p7 (i + 1) (j + 1) (by omega) (by omega)
    · rw [if_neg c] at hj
      rw [if_neg c]
      by_cases z : j = u
      · rw [z, a5, a6 ((s + i) % 6) (by omega)]
        exact (p6 i (by omega)).2
      · rw [a6 ((s + i) % 6) (by omega), a6 ((s + j) % 6) (by omega)]
        exact p7 i j hij (by omega)
