/-! UNDO: both sides -/
theorem un_26 {u : Nat} (hu : u < 6) : ∀ (n x : Nat) (gm : PH), 115 < n + x → x ≤ 115 → gm 104 3 = nI u → ∃ g, mm_undo_L26 n (nI x) gm = some (1, g) ∧ (∀ b, b ≠ 105 → g b = gm b) ∧ (∀ y, x ≤ y → y < 115 → g 105 y = gm 106 (115 * u + y)) ∧ ∀ y, y < x → g 105 y = gm 105 y := by
  intro n
  induction n with
  | zero => intro x gm h1 h2; omega
  | succ n ih =>
    intro x gm h1 h2 e3
    by_cases c : x = 115
    · subst c
      exact ⟨gm, by rw [mm_undo_L26, if_pos (by decide)], fun _ _ => rfl, fun y y1 y2 => by omega, fun _ _ => rfl⟩
    · have hx : x < 115 := by omega
      obtain ⟨g, a1, a2, a3, a4⟩ := ih (x + 1) (up gm 105 x (gm 106 (115 * u + x))) (by omega) (by omega) (by rw [up_oc (by decide)]; exact e3)
      refine ⟨g, ?_, fun b hb => by rw [a2 b hb, up_cell hb], fun y y1 y2 => ?_, fun y hy => by rw [a4 y (by omega), up_oj (by omega)]⟩
      · rw [mm_undo_L26, if_neg (show ¬ (115 : Int32) ≤ nI x from nI_ge (b := 115) hx (by decide)), e3, show (115 : Int32) * nI u = nI (115 * u) from nI_mul 115 u, nI_add, ck_nI (show 115 * u + x < 690 by omega) (by decide), ck_nI (show x < 115 by omega) (by decide), lt_e, show ix (nI (115 * u + x)) = 115 * u + x from nI_clamp (by omega), show ix (nI x) = x from nI_clamp (by omega), nI_1, a1]
      · by_cases z : y = x
        · rw [z, a4 _ (by omega), up_same]
        · rw [a3 y (by omega) y2, up_oc (by decide)]
/-- what was done is undone on both sides -/
theorem un_sim {H b u s : Nat} {Ls : LNS} {hc hm : PH} (r : RTT AA H b Ls B0 hc hm) (pk : PK H b Ls u s hc hm) : ∃ x gc gm u', mX_undo hc = some (x, gc) ∧ mm_undo hm = some (x, gm) ∧ RTT AA H b Ls B0 gc gm ∧ PK H b Ls u' s gc gm ∧ DC2 hc gc ∧ (∀ x, x ≠ 104 → x ≠ 105 → gm x = hm x) ∧ (∀ j, j ≠ 0 → j ≠ 3 → gm 104 j = hm 104 j) ∧ (QA hc → QA gc) := by
  obtain ⟨p1, p2, p3, p4, p5, p6, p7⟩ := pk
  unfold mX_undo mm_undo
  rw [lt_e, p4, show up hm 104 0 0 104 3 = nI u by rw [up_oj (by decide)]; exact p5]
  by_cases c : u = 0
  · subst c
    rw [if_pos nI_0, if_pos nI_0]
    refine ⟨0, hc, up hm 104 0 0, 0, rfl, rfl, ?_, ⟨p1, p2, p3, p4, by rw [up_oj (by decide)]; exact p5, fun j hj => absurd hj (Nat.not_lt_zero j), fun i j _ hj => absurd hj (Nat.not_lt_zero j)⟩, fun _ _ _ _ _ _ _ => rfl, fun x x1 _ => up_cell x1, fun j j0 _ => up_oj j0, fun q => q⟩
    exact rt_cg r (fun _ _ _ => rfl) (fun _ _ => rfl) (fun _ _ _ => rfl) rfl rfl rfl rfl rfl (fun _ _ => rfl) rfl (up_oj (by decide)) (up_oj (by decide)) (fun j _ => up_oc (by decide)) (fun j _ => up_oc (by decide)) (fun j _ => up_oc (by decide)) (fun j _ => up_oc (by decide)) (fun x x1 x2 => up_cell (by omega)) (up_cell (by decide))
  · obtain ⟨k, hk⟩ : ∃ k, u = k + 1 := ⟨u - 1, by omega⟩
    subst hk
    have me : (s + k) % 6 < 6 := Nat.mod_lt _ (by decide)
    have pr : nI (k + 1) - 1 = nI k := nI_pred k
    have im : imax 0 (nI k) = nI k := by
      unfold imax
      by_cases z : k = 0
      · rw [z]; rfl
      · rw [if_pos (show (0 : Int32) < nI k from nI_lt (a := 0) (by omega) (by omega))]
    have d6 : ∀ {ρ : Type} (q : Option ρ), dz 6 q = q := fun q => by unfold dz; rw [if_neg (by decide)]
    have c6 : ∀ (z : Option (Int32 × PH)), ck (nI ((s + k) % 6)) 6 z = z := fun z => ck_nI me (by decide)
    have x6 : ix (nI ((s + k) % 6)) = (s + k) % 6 := nI_clamp (by omega)
    obtain ⟨g, g1, g2, g3, g4⟩ := bc_g (a0 := 1) (a1 := 73 + 2 * ((s + k) % 6)) (by omega) (up hc 70 3 (nI k))
    have gb : mP_goBack 1 hc = some (g 72 ((s + k) % 6), g) := by
      unfold mP_goBack
      rw [p4, pr, im, lt_e, d6, lt_e, up_same, up_oj (by decide), p3, irm_6 s (by omega) k (by omega), c6, x6, g1, bd_e, c6]
    obtain ⟨m, m1, m2, m3, m4⟩ := un_26 (u := k) (by omega) FU 0 (up (up hm 104 0 0) 104 3 (nI k)) (by unfold FU; omega) (by decide) up_same
    rw [nI_0] at m1
    have fc : ∀ x, x ≠ 1 → x ≠ 2 → x ≠ 70 → g x = hc x := fun x x1 x2 x3 => by rw [g2 x x1 x2, up_cell x3]
    have e72 : g 72 ((s + k) % 6) = hc 72 ((s + k) % 6) := by rw [fc 72 (by decide) (by decide) (by decide)]
    have fm : ∀ x, x ≠ 104 → x ≠ 105 → m x = hm x := fun x x1 x2 => by rw [m2 x x2, up_cell x1, up_cell x1]
    have f104 : ∀ j, j ≠ 0 → j ≠ 3 → m 104 j = hm 104 j := fun j j0 j3 => by rw [m2 104 (by decide), up_oj j3, up_oj j0]
    have m105 : ∀ x, x < 115 → m 105 x = hm 106 (115 * k + x) := fun x hx => by rw [m3 x (by omega) hx, up_oc (by decide), up_oc (by decide)]
    rw [if_neg (nI_ne0 (by omega) (by omega)), if_neg (nI_ne0 (by omega) (by omega)), gb, bd2_e, lt_e, pr, lt_e, m1, e72]
    have hk := (p6 k (by omega)).1
    refine ⟨1, up g 16 3 (hc 72 ((s + k) % 6)), m, k, rfl, rfl, ?_, ⟨by omega, p2, ?_, ?_, ?_, fun j hj => ?_, fun i j hij hj => ?_⟩, fun x x1 x2 x3 x4 x5 x6 => ?_, fm, f104, fun q c hc' => ?_⟩
    · refine rt_cg hk (fun j j1 j2 => ?_) (fun j hj => ?_) (fun x x1 x2 => ?_) ?_ ?_ ?_ ?_ ?_ (fun j _ => ?_) ?_ ?_ ?_ (fun x hx => m105 x hx) (fun j _ => ?_) (fun j _ => ?_) (fun j _ => ?_) (fun x x1 x2 => ?_) ?_
      · rw [up_oc (by decide), g3 j j1 j2, pC_1, up_cell (by omega)]
      · rw [up_oc (by decide), g4 j hj, pC_2, up_cell (by omega), show 73 + 2 * ((s + k) % 6) + 1 = 74 + 2 * ((s + k) % 6) by omega]
      · rw [up_cell (by omega), fc x (by omega) (by omega) (by omega), pC_o _ hc (by omega) (by omega) (by omega)]
      · rw [up_cell (by decide), fc 14 (by decide) (by decide) (by decide), pC_o _ hc (by decide) (by decide) (by decide)]
      · rw [up_cell (by decide), fc 15 (by decide) (by decide) (by decide), pC_o _ hc (by decide) (by decide) (by decide)]
      · rw [up_oj (by decide), fc 16 (by decide) (by decide) (by decide), pC_6 _ hc (by decide)]
      · rw [up_oj (by decide), fc 16 (by decide) (by decide) (by decide), pC_6 _ hc (by decide)]
      · rw [up_same, pC_3]
      · rw [up_oc (by decide), fc 17 (by decide) (by decide) (by decide), pC_o _ hc (by decide) (by decide) (by decide)]
      · rw [up_oc (by decide), fc 68 (by decide) (by decide) (by decide), pC_o _ hc (by decide) (by decide) (by decide)]
      · rw [f104 5 (by decide) (by decide), pM_o _ hm (by decide)]
      · rw [f104 6 (by decide) (by decide), pM_o _ hm (by decide)]
      · rw [fm 108 (by decide) (by decide), pM_o _ hm (by decide)]
      · rw [fm 109 (by decide) (by decide), pM_o _ hm (by decide)]
      · rw [fm 110 (by decide) (by decide), pM_o _ hm (by decide)]
      · rw [fm x (by omega) (by omega), pM_o _ hm (by omega)]
      · rw [fm 123 (by decide) (by decide), pM_o _ hm (by decide)]
    · rw [up_oc (by decide), g2 70 (by decide) (by decide), up_oj (by decide)]; exact p3
    · rw [up_oc (by decide), g2 70 (by decide) (by decide), up_same]
    · rw [m2 104 (by decide), up_same]
    · have mj : (s + j) % 6 < 6 := Nat.mod_lt _ (by decide)
      refine ⟨rt_kept (p6 j (by omega)).1 (fun x _ _ => ?_) (fun x _ => ?_) ?_ (fun x x1 x2 => ?_) ?_ ?_ ?_ ?_ (fun x _ => ?_) ?_ (f104 5 (by decide) (by decide)) (f104 6 (by decide) (by decide)) (fun x _ => by rw [fm 106 (by decide) (by decide)]) (fun x _ => by rw [fm 108 (by decide) (by decide)]) (fun x _ => by rw [fm 109 (by decide) (by decide)]) (fun x _ => by rw [fm 110 (by decide) (by decide)]) (fun x x1 x2 => fm x (by omega) (by omega)) (fm 123 (by decide) (by decide)), ?_⟩
      · rw [up_oc (by omega), fc _ (by omega) (by omega) (by omega)]
      · rw [up_oc (by omega), fc _ (by omega) (by omega) (by omega)]
      · rw [up_oc (by decide), fc 72 (by decide) (by decide) (by decide)]
      · rw [up_cell (by omega), fc x (by omega) (by omega) (by omega)]
      · rw [up_cell (by decide), fc 14 (by decide) (by decide) (by decide)]
      · rw [up_cell (by decide), fc 15 (by decide) (by decide) (by decide)]
      · rw [up_oj (by decide), fc 16 (by decide) (by decide) (by decide)]
      · rw [up_oj (by decide), fc 16 (by decide) (by decide) (by decide)]
      · rw [up_oc (by decide), fc 17 (by decide) (by decide) (by decide)]
      · rw [up_oc (by decide), fc 68 (by decide) (by decide) (by decide)]
      · rw [up_oc (by decide), up_same, fc 72 (by decide) (by decide) (by decide)]
        exact p7 j k hj (by omega)
    · rw [up_oc (by decide), fc 72 (by decide) (by decide) (by decide), up_oc (by decide), fc 72 (by decide) (by decide) (by decide)]
      exact p7 i j hij (by omega)
    · rw [up_cell x3, fc x x1 x2 (by omega)]
    · rcases hc' with z | z | ⟨e, z1, z2⟩
      · subst z
        rw [up_oc (by decide), g3 6 (by decide) (by decide), up_oc (by omega)]
        exact q _ (Or.inr (Or.inr ⟨_, me, rfl⟩))
      · subst z
        rw [up_oc (by decide), fc 37 (by decide) (by decide) (by decide)]
        exact q 37 (Or.inr (Or.inl rfl))
      · subst z2
        rw [up_oc (by omega), fc _ (by omega) (by omega) (by omega)]
        exact q _ (Or.inr (Or.inr ⟨e, z1, rfl⟩))
