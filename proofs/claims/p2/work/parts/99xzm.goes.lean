/-! IN THOUGHT: goes and stands leave the town as it was, on both sides -/
theorem gl_c (p1 p2 : Int32) (k0 : PH → Option (Int32 × PH)) (hk : ∀ g r, k0 g = some r → r.2 = g) : ∀ (n : Nat) (v : Int32) (hv : PH) (r : Int32 × PH), mX_goes_L34 p1 p2 k0 n v hv = some r → Fdt r.2 hv := by
  intro n
  induction n with
  | zero => intro v hv r hm; cases hm
  | succ n ih =>
    intro v hv r hm
    unfold mX_goes_L34 at hm
    rcases ite_or hm with ⟨hc, hm⟩ | ⟨hc, hm⟩
    · rw [hk _ _ hm]; exact fd_r _
    · obtain ⟨r4, h5, he, hm⟩ := bd2_s hm
      exact fd_tr (fdS_pass 69 _ rfl he) (ih _ _ _ hm)
theorem go_c (p1 p2 : Int32) (h : PH) (e : h 69 3 = 0) {r : Int32} {g : PH} (hm : mX_goes p1 p2 h = some (r, g)) : CCt h g := by
  have f := fpX_goes p1 p2 h hm
  have fd : g 16 = h 16 ∧ g 17 = h 17 := by
    unfold mX_goes at hm
    obtain ⟨r1, -, hm⟩ := bd_s hm
    rcases ite_or hm with ⟨hc, hm⟩ | ⟨hc, hm⟩
    · cases hm; exact ⟨rfl, rfl⟩
    · obtain ⟨r2, -, hm⟩ := bd_s hm
      rcases ite_or hm with ⟨hc, hm⟩ | ⟨hc, hm⟩
      · cases hm; exact ⟨rfl, rfl⟩
      · obtain ⟨h3, he, hm⟩ := bd_s hm
        have f3 := fd_fr (fd_r h) (fpB_copyFrom _ _ _ he) (by unfold FPdB_copyFrom; decide)
        have f4 := gl_c p1 p2 _ (fun q r hq => by
          rcases ite_or hq with ⟨_, hq⟩ | ⟨_, hq⟩
          · cases hq; rfl
          · rcases ite_or hq with ⟨_, hq⟩ | ⟨_, hq⟩
            · obtain ⟨_, -, hq⟩ := bd_s hq
              cases hq; rfl
            · rcases ite_or hq with ⟨_, hq⟩ | ⟨_, hq⟩
              · obtain ⟨_, -, hq⟩ := bd_s hq
                cases hq; rfl
              · obtain ⟨_, -, hq⟩ := bd_s hq
                cases hq; rfl) _ _ _ _ hm
        exact (fd_tr f3 f4).2 e
  intro x hx
  by_cases z : x = 16
  · rw [z]; exact fd.1
  · by_cases z2 : x = 17
    · rw [z2]; exact fd.2
    · refine f x ?_
      rw [show FPdX_goes p1 p2 = [4, 3, 3, 4, 17, 16, 34, 36, 35] from rfl]
      simp only [List.mem_cons, List.not_mem_nil, or_false]
      omega
theorem sl_c (p1 : Int32) : ∀ (n : Nat) (v : Int32) (hv : PH) (r : Int32 × PH), mX_stands_L40 p1 n v hv = some r → Fdt r.2 hv := by
  intro n
  induction n with
  | zero => intro v hv r hm; cases hm
  | succ n ih =>
    intro v hv r hm
    unfold mX_stands_L40 at hm
    rcases ite_or hm with ⟨hc, hm⟩ | ⟨hc, hm⟩
    · cases hm; exact fd_r _
    · obtain ⟨r4, h5, he, hm⟩ := bd2_s hm
      have f := fdS_pass 69 _ rfl he
      obtain ⟨r6, -, hm⟩ := bd_s hm
      rcases ite_or hm with ⟨hc, hm⟩ | ⟨hc, hm⟩
      · cases hm; exact f
      · exact fd_tr f (ih _ _ _ hm)
theorem so_c (p1 : Int32) (h : PH) (e : h 69 3 = 0) {r : Int32} {g : PH} (hm : mX_stands p1 h = some (r, g)) : CCt h g := by
  have f := fpX_stands p1 h hm
  have fd : g 16 = h 16 ∧ g 17 = h 17 := by
    unfold mX_stands at hm
    obtain ⟨r1, -, hm⟩ := bd_s hm
    rcases ite_or hm with ⟨hc, hm⟩ | ⟨hc, hm⟩
    · cases hm; exact ⟨rfl, rfl⟩
    · obtain ⟨r2, -, hm⟩ := bd_s hm
      rcases ite_or hm with ⟨hc, hm⟩ | ⟨hc, hm⟩
      · cases hm; exact ⟨rfl, rfl⟩
      · obtain ⟨h3, he, hm⟩ := bd_s hm
        have f3 := fd_fr (fd_r h) (fpB_copyFrom _ _ _ he) (by unfold FPdB_copyFrom; decide)
        exact (fd_tr f3 (sl_c p1 _ _ _ _ hm)).2 e
  intro x hx
  by_cases z : x = 16
  · rw [z]; exact fd.1
  · by_cases z2 : x = 17
    · rw [z2]; exact fd.2
    · refine f x ?_
      rw [show FPdX_stands p1 = [4, 3, 3, 4, 17, 16, 34, 36, 35] from rfl]
      simp only [List.mem_cons, List.not_mem_nil, or_false]
      omega
/-- the model thinks: now is laid aside, and back -/
theorem th_2 : ∀ (n x : Nat) (gm : PH), 115 < n + x → x ≤ 115 → ∃ g, (∀ k0, mm_thinks_L2 k0 n (nI x) gm = k0 g) ∧ (∀ b, b ≠ 107 → g b = gm b) ∧ (∀ y, x ≤ y → y < 115 → g 107 y = gm 105 y) ∧ ∀ y, y < x → g 107 y = gm 107 y := by
  intro n
  induction n with
  | zero => intro x gm h1 h2; omega
  | succ n ih =>
    intro x gm h1 h2
    by_cases c : x = 115
    · subst c
      exact ⟨gm, fun k0 => by rw [mm_thinks_L2, if_pos (by decide)], fun _ _ => rfl, fun y y1 y2 => by omega, fun _ _ => rfl⟩
    · have hx : x < 115 := by omega
      obtain ⟨g, a1, a2, a3, a4⟩ := ih (x + 1) (up gm 107 x (gm 105 x)) (by omega) (by omega)
      refine ⟨g, fun k0 => ?_, fun b hb => by rw [a2 b hb, up_cell hb], fun y y1 y2 => ?_, fun y hy => by rw [a4 y (by omega), up_oj (by omega)]⟩
      · rw [mm_thinks_L2, if_neg (show ¬ (115 : Int32) ≤ nI x from nI_ge (b := 115) hx (by decide)), ck_nI hx (by decide), ck_nI hx (by decide), lt_e, show ix (nI x) = x from nI_clamp (by omega), nI_1, a1]
      · by_cases z : y = x
        · rw [z, a4 _ (by omega), up_same]
        · rw [a3 y (by omega) y2, up_oc (by decide)]
theorem en_2 : ∀ (n x : Nat) (gm : PH), 115 < n + x → x ≤ 115 → ∃ g, (∀ k0, mm_endsThought_L2 k0 n (nI x) gm = k0 g) ∧ (∀ b, b ≠ 105 → g b = gm b) ∧ (∀ y, x ≤ y → y < 115 → g 105 y = gm 107 y) ∧ ∀ y, y < x → g 105 y = gm 105 y := by
  intro n
  induction n with
  | zero => intro x gm h1 h2; omega
  | succ n ih =>
    intro x gm h1 h2
    by_cases c : x = 115
    · subst c
      exact ⟨gm, fun k0 => by rw [mm_endsThought_L2, if_pos (by decide)], fun _ _ => rfl, fun y y1 y2 => by omega, fun _ _ => rfl⟩
    · have hx : x < 115 := by omega
      obtain ⟨g, a1, a2, a3, a4⟩ := ih (x + 1) (up gm 105 x (gm 107 x)) (by omega) (by omega)
      refine ⟨g, fun k0 => ?_, fun b hb => by rw [a2 b hb, up_cell hb], fun y y1 y2 => ?_, fun y hy => by rw [a4 y (by omega), up_oj (by omega)]⟩
      · rw [mm_endsThought_L2, if_neg (show ¬ (115 : Int32) ≤ nI x from nI_ge (b := 115) hx (by decide)), ck_nI hx (by decide), ck_nI hx (by decide), lt_e, show ix (nI x) = x from nI_clamp (by omega), nI_1, a1]
      · by_cases z : y = x
        · rw [z, a4 _ (by omega), up_same]
        · rw [a3 y (by omega) y2, up_oc (by decide)]
theorem th_m (h : PH) : ∃ g, mm_thinks h = some g ∧ (∀ b, b ≠ 107 → b ≠ 104 → g b = h b) ∧ (∀ j, j ≠ 5 → g 104 j = h 104 j) ∧ g 104 5 = 1 ∧ ∀ y, y < 115 → g 107 y = h 105 y := by
  obtain ⟨g, a1, a2, a3, _⟩ := th_2 FU 0 h (by unfold FU; omega) (by decide)
  rw [nI_0] at a1
  unfold mm_thinks
  rw [a1, lt_e]
  exact ⟨_, rfl, fun b b1 b2 => by rw [up_cell b2, a2 b b1], fun j hj => by rw [up_oj hj, a2 104 (by decide)], up_same, fun y hy => by rw [up_oc (by decide), a3 y (Nat.zero_le _) hy]⟩
theorem en_m (h : PH) : ∃ g, mm_endsThought h = some g ∧ (∀ b, b ≠ 105 → b ≠ 104 → g b = h b) ∧ (∀ j, j ≠ 5 → g 104 j = h 104 j) ∧ g 104 5 = 0 ∧ ∀ y, y < 115 → g 105 y = h 107 y := by
  obtain ⟨g, a1, a2, a3, _⟩ := en_2 FU 0 h (by unfold FU; omega) (by decide)
  rw [nI_0] at a1
  unfold mm_endsThought
  rw [a1, lt_e]
  exact ⟨_, rfl, fun b b1 b2 => by rw [up_cell b2, a2 b b1], fun j hj => by rw [up_oj hj, a2 104 (by decide)], up_same, fun y hy => by rw [up_oc (by decide), a3 y (Nat.zero_le _) hy]⟩
/-- what is thought between is forgotten -/
def TKt (h g : PH) : Prop := Fqt g h ∧ g 107 = h 107
theorem tk_gb {h : PH} {r : Int32} {g : PH} (e : mm_goesBy h = some (r, g)) : TKt h g := ⟨fqm_goesBy h trivial e, funext fun j => fkm_goesBy h e 107 j (show kk 107 j ∉ FKdm_goesBy from (by decide : 107 ∉ FKdm_goesBy))⟩
theorem tk_t {h g f : PH} (a : TKt h g) (b : TKt g f) : TKt h f := ⟨fq_tr a.1 b.1, b.2.trans a.2⟩
theorem tk_r (h : PH) : TKt h h := ⟨fq_r h, rfl⟩
/-- from thinking to the end of thought -/
theorem tk_cm {h g1 g2 g3 : PH} {T : List Nat} (e1 : mm_thinks h = some g1) (k : TKt g1 g2) (e3 : mm_endsThought g2 = some g3) (z : h 104 5 = 0) (f : Fk T g3 h) (hT : T = [1000, 1005, 107, 105, 110, 124, 125]) : CM h g3 := by
  obtain ⟨a, a1, a2, a3, a4, a5⟩ := th_m h
  obtain ⟨b, b1, b2, b3, b4, b5⟩ := en_m g2
  rw [a1] at e1
  cases e1
  rw [b1] at e3
  cases e3
  subst hT
  refine ⟨fun j hj => ?_, fun j hj => ?_, fun x hx => ?_⟩
  · by_cases j5 : j = 5
    · rw [j5, b4, z]
    · exact f 104 j (by
        rw [show kk 104 j = 1000 + j from rfl]
        simp only [List.mem_cons, List.not_mem_nil, or_false]
        omega)
  · rw [b5 j hj, k.2, a5 j hj]
  · by_cases x10 : x = 110
    · subst x10
      rw [b2 110 (by decide) (by decide), k.1.2 (by rw [a4]; decide), a2 110 (by decide) (by decide)]
    · funext j
      exact f x j (by
        unfold kk
        rw [if_neg (by omega)]
        simp only [List.mem_cons, List.not_mem_nil, or_false]
        omega)
theorem gl_m (p1 p2 : Int32) (k0 : PH → Option (Int32 × PH)) : ∀ (n : Nat) (v : Int32) (hv : PH) (r : Int32 × PH), mm_goes_L34 p1 p2 k0 n v hv = some r → ∃ g, TKt hv g ∧ k0 g = some r := by
  intro n
  induction n with
  | zero => intro v hv r hm; cases hm
  | succ n ih =>
    intro v hv r hm
    unfold mm_goes_L34 at hm
    rcases ite_or hm with ⟨hc, hm⟩ | ⟨hc, hm⟩
    · exact ⟨hv, tk_r hv, hm⟩
    · obtain ⟨r5, h6, he, hm⟩ := bd2_s hm
      obtain ⟨g, g1, g2⟩ := ih _ _ _ hm
      exact ⟨g, tk_t (tk_gb he) g1, g2⟩
theorem sl_m (p1 : Int32) (k0 : Int32 → PH → Option (Int32 × PH)) : ∀ (n : Nat) (v : Int32) (hv : PH) (r : Int32 × PH), mm_stands_L22 p1 k0 n v hv = some r → ∃ x g, TKt hv g ∧ k0 x g = some r := by
  intro n
  induction n with
  | zero => intro v hv r hm; cases hm
  | succ n ih =>
    intro v hv r hm
    unfold mm_stands_L22 at hm
    obtain ⟨r4, -, hm⟩ := bd_s hm
    rcases ite_or hm with ⟨hc, hm⟩ | ⟨hc, hm⟩
    · exact ⟨v, hv, tk_r hv, hm⟩
    · rcases ite_or hm with ⟨hc, hm⟩ | ⟨hc, hm⟩
      · exact ⟨v, hv, tk_r hv, hm⟩
      · obtain ⟨r5, h6, he, hm⟩ := bd2_s hm
        obtain ⟨x7, -, hm⟩ := lt_some hm
        obtain ⟨x, g, g1, g2⟩ := ih _ _ _ hm
        exact ⟨x, g, tk_t (tk_gb he) g1, g2⟩
theorem cm_0 {h g : PH} (m : CM (up h 104 0 0) g) : CM h g := ⟨fun j hj => by rw [m.1 j hj, up_oj (by omega)], fun j hj => by rw [m.2.1 j hj, up_oc (by decide)], fun x hx => by rw [m.2.2 x hx, up_cell (by omega)]⟩
theorem fk_up {T : List Nat} {g h : PH} (f : Fk T g h) (hT : 1000 ∈ T) : Fk T g (up h 104 0 0) := fun b j hb => by
  rw [f b j hb]
  by_cases z1 : b = 104
  · subst z1
    rw [up_oj (fun y => hb (by rw [y]; exact hT))]
  · rw [up_oc z1]
theorem go_m (p1 p2 : Int32) (h : PH) (z : h 104 5 = 0) {r : Int32} {g : PH} (hm : mm_goes p1 p2 h = some (r, g)) : CM h g := by
  have f := fk_up (fkm_goes p1 p2 h hm) (by decide : 1000 ∈ FKdm_goes 0 0)
  have z' : up h 104 0 0 104 5 = 0 := by rw [up_oj (by decide)]; exact z
  have id' : CM h (up h 104 0 0) := ⟨fun j hj => up_oj (by omega), fun j _ => up_oc (by decide), fun x hx => up_cell (by omega)⟩
  unfold mm_goes at hm
  rw [lt_e] at hm
  obtain ⟨r2, -, hm⟩ := bd_s hm
  rcases ite_or hm with ⟨hc, hm⟩ | ⟨hc, hm⟩
  · cases hm; exact id'
  · obtain ⟨r3, -, hm⟩ := bd_s hm
    rcases ite_or hm with ⟨hc, hm⟩ | ⟨hc, hm⟩
    · cases hm; exact id'
    · obtain ⟨h4, he, hm⟩ := bd_s hm
      obtain ⟨h7, k7, hm⟩ := gl_m p1 p2 _ _ _ _ _ hm
      have fin : ∀ x : Int32, (bd (mm_endsThought h7) fun h10 => some (x, h10)) = some (r, g) → CM h g := fun x hx => by
        obtain ⟨h10, he10, hx⟩ := bd_s hx
        cases hx
        exact cm_0 (tk_cm he k7 he10 z' f rfl)
      rw [jn1_e] at hm
      rcases ite_or hm with ⟨hc, hm⟩ | ⟨hc, hm⟩
      · obtain ⟨-, hm⟩ := ck_s hm
        exact fin _ hm
      · rcases ite_or hm with ⟨hc, hm⟩ | ⟨hc, hm⟩
        · obtain ⟨r11, -, hm⟩ := bd_s hm
          obtain ⟨r12, -, hm⟩ := bd_s hm
          exact fin _ hm
        · rw [jn1_e] at hm
          rcases ite_or hm with ⟨hc, hm⟩ | ⟨hc, hm⟩
          · obtain ⟨r15, -, hm⟩ := bd_s hm
            exact fin _ hm
          · obtain ⟨r15, -, hm⟩ := bd_s hm
            exact fin _ hm
theorem so_m (p1 : Int32) (h : PH) (z : h 104 5 = 0) {r : Int32} {g : PH} (hm : mm_stands p1 h = some (r, g)) : CM h g := by
  have f := fk_up (fkm_stands p1 h hm) (by decide : 1000 ∈ FKdm_stands 0)
  have z' : up h 104 0 0 104 5 = 0 := by rw [up_oj (by decide)]; exact z
  have id' : CM h (up h 104 0 0) := ⟨fun j hj => up_oj (by omega), fun j _ => up_oc (by decide), fun x hx => up_cell (by omega)⟩
  unfold mm_stands at hm
  rw [lt_e] at hm
  obtain ⟨r2, -, hm⟩ := bd_s hm
  rcases ite_or hm with ⟨hc, hm⟩ | ⟨hc, hm⟩
  · cases hm; exact id'
  · obtain ⟨h3, he, hm⟩ := bd_s hm
    obtain ⟨x, h9, k9, hm⟩ := sl_m p1 _ _ _ _ _ hm
    obtain ⟨h10, he10, hm⟩ := bd_s hm
    rcases ite_or hm with ⟨hc, hm⟩ | ⟨hc, hm⟩
    · cases hm; exact cm_0 (tk_cm he k9 he10 z' f rfl)
    · cases hm; exact cm_0 (tk_cm he k9 he10 z' f rfl)
theorem cm_x {h h1 h2 : PH} (x : ∀ b, 104 ≤ b → h1 b = h b) (m : CM h1 h2) : CM h h2 := ⟨fun j hj => by rw [m.1 j hj, x 104 (by decide)], fun j hj => by rw [m.2.1 j hj, x 105 (by decide)], fun b hb => by rw [m.2.2 b hb, x b (by omega)]⟩
theorem cc_x {h h1 h2 : PH} (x : ∀ b, b < 104 → h2 b = h1 b) (c : CCt h h1) : CCt h h2 := fun b hb => by rw [x b (by omega)]; exact c b hb
theorem tw_goes (k : Nat) (a1 a2 : Int32) (h : PH) (t : TWN k h) (hk : k < 512) {rX rm : Int32} {h1 h2 : PH} (e1 : mX_goes a1 a2 h = some (rX, h1)) (e2 : mm_goes a1 a2 h1 = some (rm, h2)) (cs : CS h h1 h2) : TWN (k + 1) h2 := by
  obtain ⟨t1, t2, t3, ⟨H, N, M, u, s, Ls, t4, t5⟩, t6⟩ := id t
  exact twn_fr (Nat.le_succ k) hk (cc_x cs.2.2.2.2 (go_c a1 a2 h t3 e1)) (cm_x cs.2.2.2.1 (go_m a1 a2 h1 (by rw [cs.2.2.2.1 104 (by decide)]; exact t4.1.2.2.2.2.2.1) e2)) t
theorem tw_stands (k : Nat) (a1 : Int32) (h : PH) (t : TWN k h) (hk : k < 512) {rX rm : Int32} {h1 h2 : PH} (e1 : mX_stands a1 h = some (rX, h1)) (e2 : mm_stands a1 h1 = some (rm, h2)) (cs : CS h h1 h2) : TWN (k + 1) h2 := by
  obtain ⟨t1, t2, t3, ⟨H, N, M, u, s, Ls, t4, t5⟩, t6⟩ := id t
  exact twn_fr (Nat.le_succ k) hk (cc_x cs.2.2.2.2 (so_c a1 h t3 e1)) (cm_x cs.2.2.2.1 (so_m a1 h1 (by rw [cs.2.2.2.1 104 (by decide)]; exact t4.1.2.2.2.2.2.1) e2)) t
