section
/-! IN THOUGHT the book stays as it was. Printed by wip/gen/fth.py -/
def Fdt (h g : PH) : Prop := h 69 3 = g 69 3 ∧ (g 69 3 = 0 → h 16 = g 16 ∧ h 17 = g 17)
theorem fd_r (h : PH) : Fdt h h := ⟨rfl, fun _ => ⟨rfl, rfl⟩⟩
theorem fd_tr {h k g : PH} (f : Fdt h g) (e : Fdt k h) : Fdt k g := ⟨e.1.trans f.1, fun z => by
  obtain ⟨a, b⟩ := f.2 z
  obtain ⟨c, d⟩ := e.2 (by rw [f.1]; exact z)
  exact ⟨c.trans a, d.trans b⟩⟩
theorem fd_fr {T : List Nat} {h k g : PH} (f : Fdt h g) (e : Fr T k h) (n : 69 ∉ T ∧ 16 ∉ T ∧ 17 ∉ T) : Fdt k g := fd_tr f ⟨by rw [e 69 n.1], fun _ => ⟨e 16 n.2.1, e 17 n.2.2⟩⟩
theorem up_fd {h g : PH} {a j : Nat} {x : Int32} (f : Fdt h g) (n : a ≠ 69 ∧ a ≠ 16 ∧ a ≠ 17) : Fdt (up h a j x) g := fd_tr f ⟨up_oc (Ne.symm n.1), fun _ => ⟨up_cell (Ne.symm n.2.1), up_cell (Ne.symm n.2.2)⟩⟩
theorem fdS_note (a0 : Nat) (p1 : Int32) (p2 : Int32) (p3 : Int32) (h0 : PH) {r : PH} (hS : a0 = 69) (hm : mS_note a0 p1 p2 p3 h0 = some r) : Fdt r h0 := by
  subst hS
  have f := fpS_note 69 p1 p2 p3 h0 hm
  refine ⟨by rw [f 69 (by unfold FPdS_note; decide)], fun z => ?_⟩
  unfold mS_note at hm
  rw [if_pos z] at hm
  cases hm
  exact ⟨rfl, rfl⟩
theorem fdS_moveLodgers (a0 : Nat) (p1 : Int32) (p2 : Int32) (h0 : PH) {r : PH} (hS : a0 = 69) (hm : mS_moveLodgers a0 p1 p2 h0 = some r) : Fdt r h0 := by
  generalize hge : h0 = g at ⊢
  have f : Fdt h0 g := by rw [hge]; exact fd_r _
  unfold mS_moveLodgers at hm
  obtain ⟨r1, -, hm⟩ := bd_s hm
  obtain ⟨h2, he, hm⟩ := bd_s hm
  replace f := fd_fr f (fpB_write _ _ _ _ _ he) (by subst hS; unfold FPdB_write; decide)
  refine v_j1 (fun (h4 : PH) => Fdt h4 g → Fdt r g) hm (fun h4 hm f => ?_) (fun j3 kj3 hm => ?_)
  · obtain ⟨h5, he, hm⟩ := bd_s hm
    replace f := fd_tr f (fdS_note _ _ _ _ _ hS he)
    cases hm
    exact f
  · rcases ite_or hm with ⟨hc, hm⟩ | ⟨hc, hm⟩
    · exact kj3 _ hm f
    · obtain ⟨r6, -, hm⟩ := bd_s hm
      obtain ⟨h7, he, hm⟩ := bd_s hm
      replace f := fd_fr f (fpB_write _ _ _ _ _ he) (by subst hS; unfold FPdB_write; decide)
      exact kj3 _ hm f
theorem fdS_leaveIfFallen (a0 : Nat) (p1 : Int32) (h0 : PH) {r : PH} (hS : a0 = 69) (hm : mS_leaveIfFallen a0 p1 h0 = some r) : Fdt r h0 := by
  generalize hge : h0 = g at ⊢
  have f : Fdt h0 g := by rw [hge]; exact fd_r _
  unfold mS_leaveIfFallen at hm
  obtain ⟨r1, -, hm⟩ := bd_s hm
  rcases ite_or hm with ⟨hc, hm⟩ | ⟨hc, hm⟩
  · obtain ⟨r2, -, hm⟩ := bd_s hm
    rcases ite_or hm with ⟨hc, hm⟩ | ⟨hc, hm⟩
    · obtain ⟨r3, -, hm⟩ := bd_s hm
      obtain ⟨h4, he, hm⟩ := bd_s hm
      replace f := fd_tr f (fdS_moveLodgers _ _ _ _ hS he)
      cases hm
      exact f
    · cases hm
      exact f
  · cases hm
    exact f
theorem fdS_wed (a0 : Nat) (p1 : Int32) (h0 : PH) {r : PH} (hS : a0 = 69) (hm : mS_wed a0 p1 h0 = some r) : Fdt r h0 := by
  generalize hge : h0 = g at ⊢
  have f : Fdt h0 g := by rw [hge]; exact fd_r _
  unfold mS_wed at hm
  obtain ⟨h1, he, hm⟩ := bd_s hm
  replace f := fd_fr f (fpB_write _ _ _ _ _ he) (by subst hS; unfold FPdB_write; decide)
  obtain ⟨r2, -, hm⟩ := bd_s hm
  obtain ⟨r3, h4, he, hm⟩ := bd2_s hm
  replace f := fd_fr f (fpB_thin _ _ _ _ _ he) (by subst hS; unfold FPdB_thin; decide)
  obtain ⟨r5, -, hm⟩ := bd_s hm
  obtain ⟨x6, -, hm⟩ := lt_some hm
  obtain ⟨h7, he, hm⟩ := bd_s hm
  replace f := fd_fr f (fpB_write _ _ _ _ _ he) (by subst hS; unfold FPdB_write; decide)
  obtain ⟨h8, he, hm⟩ := bd_s hm
  replace f := fd_tr f (fdS_note _ _ _ _ _ hS he)
  obtain ⟨h9, he, hm⟩ := bd_s hm
  replace f := fd_tr f (fdS_leaveIfFallen _ _ _ hS he)
  cases hm
  exact f
theorem wd_S_raze_L2 (a0 : Nat) (p1 : Int32) (k0 : PH → Option (PH)) (g : PH) (r : PH) (hS : a0 = 69) (kk0 : ∀ (y0 : PH), k0 y0 = some r → Fdt y0 g → Fdt r g) : ∀ (n : Nat) (v2 : Int32) (hv : PH), mS_raze_L2 a0 p1 k0 n v2 hv = some r → Fdt hv g → Fdt r g := by
  intro n
  induction n with
  | zero => intro v2 hv hm; cases hm
  | succ n ih =>
    intro v2 hv hm f
    unfold mS_raze_L2 at hm
    rcases ite_or hm with ⟨hc, hm⟩ | ⟨hc, hm⟩
    · exact kk0 _ hm f
    · obtain ⟨h1, he, hm⟩ := bd_s hm
      replace f := fd_fr f (fpB_write _ _ _ _ _ he) (by subst hS; unfold FPdB_write; decide)
      exact ih _ _ hm f
theorem fdS_raze (a0 : Nat) (p1 : Int32) (h0 : PH) {r : PH} (hS : a0 = 69) (hm : mS_raze a0 p1 h0 = some r) : Fdt r h0 := by
  generalize hge : h0 = g at ⊢
  have f : Fdt h0 g := by rw [hge]; exact fd_r _
  unfold mS_raze at hm
  refine wd_S_raze_L2 _ _ _ g _ hS (fun h2 hm f => ?_) _ _ _ hm f
  · obtain ⟨h3, he, hm⟩ := bd_s hm
    replace f := fd_tr f (fdS_leaveIfFallen _ _ _ hS he)
    cases hm
    exact f
theorem fdS_officeLine (a0 : Nat) (a1 : Nat) (p2 : Int32) (h0 : PH) {r : PH} (hS : a0 = 69) (hm : mS_officeLine a0 a1 p2 h0 = some r) : Fdt r h0 := by
  generalize hge : h0 = g at ⊢
  have f : Fdt h0 g := by rw [hge]; exact fd_r _
  unfold mS_officeLine at hm
  obtain ⟨r1, -, hm⟩ := bd_s hm
  obtain ⟨r2, -, hm⟩ := bd_s hm
  obtain ⟨r3, -, hm⟩ := bd_s hm
  rcases ite_or hm with ⟨hc, hm⟩ | ⟨hc, hm⟩
  · obtain ⟨r4, -, hm⟩ := bd_s hm
    obtain ⟨h5, he, hm⟩ := bd_s hm
    replace f := fd_fr f (fpB_write _ _ _ _ _ he) (by subst hS; unfold FPdB_write; decide)
    cases hm
    exact f
  · rcases ite_or hm with ⟨hc, hm⟩ | ⟨hc, hm⟩
    · obtain ⟨r6, -, hm⟩ := bd_s hm
      obtain ⟨h7, he, hm⟩ := bd_s hm
      replace f := fd_fr f (fpB_thicken _ _ _ _ _ he) (by subst hS; unfold FPdB_thicken; decide)
      cases hm
      exact f
    · rcases ite_or hm with ⟨hc, hm⟩ | ⟨hc, hm⟩
      · obtain ⟨r8, -, hm⟩ := bd_s hm
        rcases ite_or hm with ⟨hc, hm⟩ | ⟨hc, hm⟩
        · cases hm
          exact f
        · obtain ⟨h9, he, hm⟩ := bd_s hm
          replace f := fd_tr f (fdS_wed _ _ _ hS he)
          cases hm
          exact f
      · obtain ⟨r10, -, hm⟩ := bd_s hm
        rcases ite_or hm with ⟨hc, hm⟩ | ⟨hc, hm⟩
        · cases hm
          exact f
        · obtain ⟨h11, he, hm⟩ := bd_s hm
          replace f := fd_tr f (fdS_raze _ _ _ hS he)
          cases hm
          exact f
theorem fdS_noteIfAny (a0 : Nat) (p1 : Int32) (p2 : Int32) (p3 : Int32) (h0 : PH) {r : PH} (hS : a0 = 69) (hm : mS_noteIfAny a0 p1 p2 p3 h0 = some r) : Fdt r h0 := by
  generalize hge : h0 = g at ⊢
  have f : Fdt h0 g := by rw [hge]; exact fd_r _
  unfold mS_noteIfAny at hm
  rcases ite_or hm with ⟨hc, hm⟩ | ⟨hc, hm⟩
  · cases hm
    exact f
  · obtain ⟨h1, he, hm⟩ := bd_s hm
    replace f := fd_tr f (fdS_note _ _ _ _ _ hS he)
    cases hm
    exact f
theorem wd_S_payRent_L27 (a0 : Nat) (p1 : Int32) (p2 : Int32) (k0 : Int32 → PH → Option (PH)) (g : PH) (r : PH) (hS : a0 = 69) (kk0 : ∀ (y0 : Int32) (y1 : PH), k0 y0 y1 = some r → Fdt y1 g → Fdt r g) : ∀ (n : Nat) (v3 : Int32) (v4 : Int32) (hv : PH), mS_payRent_L27 a0 p1 p2 k0 n v3 v4 hv = some r → Fdt hv g → Fdt r g := by
  intro n
  induction n with
  | zero => intro v3 v4 hv hm; cases hm
  | succ n ih =>
    intro v3 v4 hv hm f
    unfold mS_payRent_L27 at hm
    rcases ite_or hm with ⟨hc, hm⟩ | ⟨hc, hm⟩
    · exact kk0 _ _ hm f
    · obtain ⟨r4, -, hm⟩ := bd_s hm
      rcases ite_or hm with ⟨hc, hm⟩ | ⟨hc, hm⟩
      · exact kk0 _ _ hm f
      · obtain ⟨r5, -, hm⟩ := bd_s hm
        obtain ⟨r6, h7, he, hm⟩ := bd2_s hm
        replace f := fd_fr f (fpB_thin _ _ _ _ _ he) (by subst hS; unfold FPdB_thin; decide)
        obtain ⟨x8, -, hm⟩ := lt_some hm
        exact ih _ _ _ hm f
theorem fdS_payRent (a0 : Nat) (p1 : Int32) (h0 : PH) {r : PH} (hS : a0 = 69) (hm : mS_payRent a0 p1 h0 = some r) : Fdt r h0 := by
  generalize hge : h0 = g at ⊢
  have f : Fdt h0 g := by rw [hge]; exact fd_r _
  unfold mS_payRent at hm
  obtain ⟨r1, -, hm⟩ := bd_s hm
  obtain ⟨r2, h3, he, hm⟩ := bd2_s hm
  replace f := fd_fr f (fpW_tells _ _ _ _ _ he) (by subst hS; unfold FPdW_tells; decide)
  refine wd_S_payRent_L27 _ _ _ _ g _ hS (fun x9 h10 hm f => ?_) _ _ _ _ hm f
  · obtain ⟨h11, e1, hm⟩ := lt_some hm
    replace f : Fdt h11 g := by rw [e1]; exact up_fd f (by subst hS; decide)
    obtain ⟨h12, he, hm⟩ := bd_s hm
    replace f := fd_tr f (fdS_noteIfAny _ _ _ _ _ hS he)
    obtain ⟨x13, -, hm⟩ := lt_some hm
    obtain ⟨r14, -, hm⟩ := bd_s hm
    obtain ⟨h15, he, hm⟩ := bd_s hm
    replace f := fd_fr f (fpB_write _ _ _ _ _ he) (by subst hS; unfold FPdB_write; decide)
    obtain ⟨h16, he, hm⟩ := bd_s hm
    replace f := fd_tr f (fdS_noteIfAny _ _ _ _ _ hS he)
    obtain ⟨h17, he, hm⟩ := bd_s hm
    replace f := fd_tr f (fdS_leaveIfFallen _ _ _ hS he)
    cases hm
    exact f
theorem wd_S_gnaw_L4 (a0 : Nat) (p1 : Int32) (k0 : Int32 → PH → Option (PH)) (g : PH) (r : PH) (hS : a0 = 69) (kk0 : ∀ (y0 : Int32) (y1 : PH), k0 y0 y1 = some r → Fdt y1 g → Fdt r g) : ∀ (n : Nat) (v2 : Int32) (v3 : Int32) (hv : PH), mS_gnaw_L4 a0 p1 k0 n v2 v3 hv = some r → Fdt hv g → Fdt r g := by
  intro n
  induction n with
  | zero => intro v2 v3 hv hm; cases hm
  | succ n ih =>
    intro v2 v3 hv hm f
    unfold mS_gnaw_L4 at hm
    rcases ite_or hm with ⟨hc, hm⟩ | ⟨hc, hm⟩
    · exact kk0 _ _ hm f
    · obtain ⟨r1, -, hm⟩ := bd_s hm
      rcases ite_or hm with ⟨hc, hm⟩ | ⟨hc, hm⟩
      · exact ih _ _ _ hm f
      · obtain ⟨r2, h3, he, hm⟩ := bd2_s hm
        replace f := fd_fr f (fpW_tells _ _ _ _ _ he) (by subst hS; unfold FPdW_tells; decide)
        obtain ⟨r4, h5, he, hm⟩ := bd2_s hm
        replace f := fd_fr f (fpS_ratsGnaw _ _ _ he) (by subst hS; unfold FPdS_ratsGnaw; decide)
        rcases ite_or hm with ⟨hc, hm⟩ | ⟨hc, hm⟩
        · exact ih _ _ _ hm f
        · obtain ⟨r6, h7, he, hm⟩ := bd2_s hm
          replace f := fd_fr f (fpB_thin _ _ _ _ _ he) (by subst hS; unfold FPdB_thin; decide)
          obtain ⟨x8, -, hm⟩ := lt_some hm
          exact ih _ _ _ hm f
theorem fdS_gnaw (a0 : Nat) (p1 : Int32) (h0 : PH) {r : PH} (hS : a0 = 69) (hm : mS_gnaw a0 p1 h0 = some r) : Fdt r h0 := by
  generalize hge : h0 = g at ⊢
  have f : Fdt h0 g := by rw [hge]; exact fd_r _
  unfold mS_gnaw at hm
  refine wd_S_gnaw_L4 _ _ _ g _ hS (fun x9 h10 hm f => ?_) _ _ _ _ hm f
  · obtain ⟨h11, e1, hm⟩ := lt_some hm
    replace f : Fdt h11 g := by rw [e1]; exact up_fd f (by subst hS; decide)
    obtain ⟨h12, he, hm⟩ := bd_s hm
    replace f := fd_tr f (fdS_noteIfAny _ _ _ _ _ hS he)
    cases hm
    exact f
theorem wd_S_melt_L15 (a0 : Nat) (p1 : Int32) (k0 : Int32 → PH → Option (PH)) (g : PH) (r : PH) (hS : a0 = 69) (kk0 : ∀ (y0 : Int32) (y1 : PH), k0 y0 y1 = some r → Fdt y1 g → Fdt r g) : ∀ (n : Nat) (v2 : Int32) (v3 : Int32) (hv : PH), mS_melt_L15 a0 p1 k0 n v2 v3 hv = some r → Fdt hv g → Fdt r g := by
  intro n
  induction n with
  | zero => intro v2 v3 hv hm; cases hm
  | succ n ih =>
    intro v2 v3 hv hm f
    unfold mS_melt_L15 at hm
    rcases ite_or hm with ⟨hc, hm⟩ | ⟨hc, hm⟩
    · exact kk0 _ _ hm f
    · obtain ⟨r1, -, hm⟩ := bd_s hm
      rcases ite_or hm with ⟨hc, hm⟩ | ⟨hc, hm⟩
      · exact ih _ _ _ hm f
      · obtain ⟨r2, h3, he, hm⟩ := bd2_s hm
        replace f := fd_fr f (fpW_tells _ _ _ _ _ he) (by subst hS; unfold FPdW_tells; decide)
        obtain ⟨r4, h5, he, hm⟩ := bd2_s hm
        replace f := fd_fr f (fpB_thin _ _ _ _ _ he) (by subst hS; unfold FPdB_thin; decide)
        obtain ⟨x6, -, hm⟩ := lt_some hm
        exact ih _ _ _ hm f
theorem fdS_melt (a0 : Nat) (p1 : Int32) (h0 : PH) {r : PH} (hS : a0 = 69) (hm : mS_melt a0 p1 h0 = some r) : Fdt r h0 := by
  generalize hge : h0 = g at ⊢
  have f : Fdt h0 g := by rw [hge]; exact fd_r _
  unfold mS_melt at hm
  rcases ite_or hm with ⟨hc, hm⟩ | ⟨hc, hm⟩
  · refine wd_S_melt_L15 _ _ _ g _ hS (fun x7 h8 hm f => ?_) _ _ _ _ hm f
    · obtain ⟨h9, he, hm⟩ := bd_s hm
      replace f := fd_tr f (fdS_noteIfAny _ _ _ _ _ hS he)
      cases hm
      exact f
  · cases hm
    exact f
theorem wd_S_pass_L6 (a0 : Nat) (k0 : PH → Option (Int32 × PH)) (g : PH) (r : Int32 × PH) (hS : a0 = 69) (kk0 : ∀ (y0 : PH), k0 y0 = some r → Fdt y0 g → Fdt r.2 g) : ∀ (n : Nat) (v1 : Int32) (hv : PH), mS_pass_L6 a0 k0 n v1 hv = some r → Fdt hv g → Fdt r.2 g := by
  intro n
  induction n with
  | zero => intro v1 hv hm; cases hm
  | succ n ih =>
    intro v1 hv hm f
    unfold mS_pass_L6 at hm
    rcases ite_or hm with ⟨hc, hm⟩ | ⟨hc, hm⟩
    · exact kk0 _ hm f
    · obtain ⟨r2, -, hm⟩ := bd_s hm
      rcases ite_or hm with ⟨hc, hm⟩ | ⟨hc, hm⟩
      · obtain ⟨h3, he, hm⟩ := bd_s hm
        replace f := fd_tr f (fdS_officeLine _ _ _ _ hS he)
        exact ih _ _ hm f
      · exact ih _ _ hm f
theorem wd_S_pass_L70 (a0 : Nat) (p1 : Int32) (k0 : PH → Option (Int32 × PH)) (g : PH) (r : Int32 × PH) (hS : a0 = 69) (kk0 : ∀ (y0 : PH), k0 y0 = some r → Fdt y0 g → Fdt r.2 g) : ∀ (n : Nat) (v2 : Int32) (hv : PH), mS_pass_L70 a0 p1 k0 n v2 hv = some r → Fdt hv g → Fdt r.2 g := by
  intro n
  induction n with
  | zero => intro v2 hv hm; cases hm
  | succ n ih =>
    intro v2 hv hm f
    unfold mS_pass_L70 at hm
    rcases ite_or hm with ⟨hc, hm⟩ | ⟨hc, hm⟩
    · exact kk0 _ hm f
    · obtain ⟨r6, -, hm⟩ := bd_s hm
      rcases ite_or hm with ⟨hc, hm⟩ | ⟨hc, hm⟩
      · exact ih _ _ hm f
      · obtain ⟨r7, -, hm⟩ := bd_s hm
        rcases ite_or hm with ⟨hc, hm⟩ | ⟨hc, hm⟩
        · exact ih _ _ hm f
        · obtain ⟨h8, he, hm⟩ := bd_s hm
          replace f := fd_tr f (fdS_payRent _ _ _ hS he)
          exact ih _ _ hm f
theorem wd_S_pass_L118 (a0 : Nat) (p1 : Int32) (k0 : PH → Option (Int32 × PH)) (g : PH) (r : Int32 × PH) (hS : a0 = 69) (kk0 : ∀ (y0 : PH), k0 y0 = some r → Fdt y0 g → Fdt r.2 g) : ∀ (n : Nat) (v2 : Int32) (hv : PH), mS_pass_L118 a0 p1 k0 n v2 hv = some r → Fdt hv g → Fdt r.2 g := by
  intro n
  induction n with
  | zero => intro v2 hv hm; cases hm
  | succ n ih =>
    intro v2 hv hm f
    unfold mS_pass_L118 at hm
    rcases ite_or hm with ⟨hc, hm⟩ | ⟨hc, hm⟩
    · exact kk0 _ hm f
    · obtain ⟨h10, he, hm⟩ := bd_s hm
      replace f := fd_tr f (fdS_gnaw _ _ _ hS he)
      exact ih _ _ hm f
theorem wd_S_pass_L142 (a0 : Nat) (p1 : Int32) (k0 : PH → Option (Int32 × PH)) (g : PH) (r : Int32 × PH) (hS : a0 = 69) (kk0 : ∀ (y0 : PH), k0 y0 = some r → Fdt y0 g → Fdt r.2 g) : ∀ (n : Nat) (v2 : Int32) (hv : PH), mS_pass_L142 a0 p1 k0 n v2 hv = some r → Fdt hv g → Fdt r.2 g := by
  intro n
  induction n with
  | zero => intro v2 hv hm; cases hm
  | succ n ih =>
    intro v2 hv hm f
    unfold mS_pass_L142 at hm
    rcases ite_or hm with ⟨hc, hm⟩ | ⟨hc, hm⟩
    · exact kk0 _ hm f
    · obtain ⟨h12, he, hm⟩ := bd_s hm
      replace f := fd_tr f (fdS_melt _ _ _ hS he)
      exact ih _ _ hm f
theorem wd_S_pass_L180 (a0 : Nat) (p2 : Int32) (k0 : PH → Option (Int32 × PH)) (g : PH) (r : Int32 × PH) (hS : a0 = 69) (kk0 : ∀ (y0 : PH), k0 y0 = some r → Fdt y0 g → Fdt r.2 g) : ∀ (n : Nat) (v3 : Int32) (hv : PH), mS_pass_L180 a0 p2 k0 n v3 hv = some r → Fdt hv g → Fdt r.2 g := by
  intro n
  induction n with
  | zero => intro v3 hv hm; cases hm
  | succ n ih =>
    intro v3 hv hm f
    unfold mS_pass_L180 at hm
    rcases ite_or hm with ⟨hc, hm⟩ | ⟨hc, hm⟩
    · exact kk0 _ hm f
    · obtain ⟨h17, he, hm⟩ := bd_s hm
      replace f := fd_tr f (fdS_leaveIfFallen _ _ _ hS he)
      exact ih _ _ hm f
theorem fdS_pass (a0 : Nat) (h0 : PH) {r : Int32 × PH} (hS : a0 = 69) (hm : mS_pass a0 h0 = some r) : Fdt r.2 h0 := by
  generalize hge : h0 = g at ⊢
  have f : Fdt h0 g := by rw [hge]; exact fd_r _
  unfold mS_pass at hm
  obtain ⟨h1, he, hm⟩ := bd_s hm
  replace f := fd_fr f (fpS_weather _ _ he) (by subst hS; unfold FPdS_weather; decide)
  refine wd_S_pass_L6 _ _ g _ hS (fun h4 hm f => ?_) _ _ _ hm f
  · obtain ⟨r5, -, hm⟩ := bd_s hm
    refine wd_S_pass_L70 _ _ _ g _ hS (fun h9 hm f => ?_) _ _ _ hm f
    · refine wd_S_pass_L118 _ _ _ g _ hS (fun h11 hm f => ?_) _ _ _ hm f
      · refine wd_S_pass_L142 _ _ _ g _ hS (fun h13 hm f => ?_) _ _ _ hm f
        · obtain ⟨r14, -, hm⟩ := bd_s hm
          obtain ⟨x15, -, hm⟩ := lt_some hm
          obtain ⟨h16, he, hm⟩ := bd_s hm
          replace f := fd_fr f (fpS_harden _ _ he) (by subst hS; unfold FPdS_harden; decide)
          refine wd_S_pass_L180 _ _ _ g _ hS (fun h18 hm f => ?_) _ _ _ hm f
          · obtain ⟨h19, he, hm⟩ := bd_s hm
            replace f := fd_fr f (fpS_grow _ _ he) (by subst hS; unfold FPdS_grow; decide)
            cases hm
            exact f
def Fqt (h g : PH) : Prop := h 104 5 = g 104 5 ∧ (¬ g 104 5 = 0 → h 110 = g 110)
theorem fq_r (h : PH) : Fqt h h := ⟨rfl, fun _ => rfl⟩
theorem fq_tr {h k g : PH} (f : Fqt h g) (e : Fqt k h) : Fqt k g := ⟨e.1.trans f.1, fun z => (e.2 (by rw [f.1]; exact z)).trans (f.2 z)⟩
theorem fq_fr {T : List Nat} {h k g : PH} (f : Fqt h g) (e : Fk T k h) (n : 1005 ∉ T ∧ 110 ∉ T) : Fqt k g := fq_tr f ⟨e 104 5 n.1, fun _ => funext fun j => e 110 j n.2⟩
theorem up_fq {h g : PH} {a j : Nat} {x : Int32} (f : Fqt h g) (n : a ≠ 104 ∧ a ≠ 110) : Fqt (up h a j x) g := fq_tr f ⟨up_oc (Ne.symm n.1), fun _ => up_cell (Ne.symm n.2)⟩
theorem fqm_notes (p1 : Int32) (p2 : Int32) (p3 : Int32) (h0 : PH) {r : PH} (hS : True) (hm : mm_notes p1 p2 p3 h0 = some r) : Fqt r h0 := by
  have f := fkm_notes p1 p2 p3 h0 hm
  refine ⟨f 104 5 (by unfold FKdm_notes kk; decide), fun z => ?_⟩
  unfold mm_notes at hm
  rw [if_neg z] at hm
  cases hm
  rfl
theorem fqm_lodgersGo (p1 : Int32) (p2 : Int32) (h0 : PH) {r : PH} (hS : True) (hm : mm_lodgersGo p1 p2 h0 = some r) : Fqt r h0 := by
  generalize hge : h0 = g at ⊢
  have f : Fqt h0 g := by rw [hge]; exact fq_r _
  unfold mm_lodgersGo at hm
  obtain ⟨h1, he, hm⟩ := bd_s hm
  replace f := fq_tr f (fqm_notes _ _ _ _ hS he)
  obtain ⟨-, hm⟩ := ck_s hm
  obtain ⟨x2, -, hm⟩ := lt_some hm
  obtain ⟨-, hm⟩ := ck_s hm
  obtain ⟨h3, e1, hm⟩ := lt_some hm
  replace f : Fqt h3 g := by rw [e1]; exact up_fq f (by decide)
  rcases ite_or hm with ⟨hc, hm⟩ | ⟨hc, hm⟩
  · cases hm
    exact f
  · obtain ⟨-, hm⟩ := ck_s hm
    obtain ⟨-, hm⟩ := ck_s hm
    obtain ⟨h4, e1, hm⟩ := lt_some hm
    replace f : Fqt h4 g := by rw [e1]; exact up_fq f (by decide)
    cases hm
    exact f
theorem wq_m_areOut_L30 (p1 : Int32) (h0 : PH) (k0 : Int32 → Option (PH)) (g : PH) (r : PH) (hS : True) (f : Fqt h0 g) (kk0 : ∀ (y0 : Int32), k0 y0 = some r → Fqt r g) : ∀ (n : Nat) (v2 : Int32) (v3 : Int32), mm_areOut_L30 p1 h0 k0 n v2 v3 = some r → Fqt r g := by
  intro n
  induction n with
  | zero => intro v2 v3 hm; cases hm
  | succ n ih =>
    intro v2 v3 hm
    unfold mm_areOut_L30 at hm
    rcases ite_or hm with ⟨hc, hm⟩ | ⟨hc, hm⟩
    · exact kk0 _ hm
    · obtain ⟨-, hm⟩ := ck_s hm
      obtain ⟨r3, -, hm⟩ := bd_s hm
      rcases ite_or hm with ⟨hc, hm⟩ | ⟨hc, hm⟩
      · exact ih _ _ hm
      · obtain ⟨r4, -, hm⟩ := bd_s hm
        rcases ite_or hm with ⟨hc, hm⟩ | ⟨hc, hm⟩
        · exact ih _ _ hm
        · exact ih _ _ hm
theorem fqm_areOut (p1 : Int32) (h0 : PH) {r : PH} (hS : True) (hm : mm_areOut p1 h0 = some r) : Fqt r h0 := by
  generalize hge : h0 = g at ⊢
  have f : Fqt h0 g := by rw [hge]; exact fq_r _
  unfold mm_areOut at hm
  obtain ⟨r1, -, hm⟩ := bd_s hm
  rcases ite_or hm with ⟨hc, hm⟩ | ⟨hc, hm⟩
  · obtain ⟨-, hm⟩ := ck_s hm
    rcases ite_or hm with ⟨hc, hm⟩ | ⟨hc, hm⟩
    · cases hm
      exact f
    · obtain ⟨x2, -, hm⟩ := lt_some hm
      refine wq_m_areOut_L30 _ _ _ g _ hS f (fun x5 hm => ?_) _ _ _ hm
      · obtain ⟨h6, he, hm⟩ := bd_s hm
        replace f := fq_tr f (fqm_lodgersGo _ _ _ hS he)
        cases hm
        exact f
  · cases hm
    exact f
theorem fqm_isWed (p1 : Int32) (h0 : PH) {r : PH} (hS : True) (hm : mm_isWed p1 h0 = some r) : Fqt r h0 := by
  generalize hge : h0 = g at ⊢
  have f : Fqt h0 g := by rw [hge]; exact fq_r _
  unfold mm_isWed at hm
  obtain ⟨r1, -, hm⟩ := bd_s hm
  obtain ⟨-, hm⟩ := ck_s hm
  obtain ⟨h2, e1, hm⟩ := lt_some hm
  replace f : Fqt h2 g := by rw [e1]; exact up_fq f (by decide)
  obtain ⟨r3, -, hm⟩ := bd_s hm
  obtain ⟨h4, he, hm⟩ := bd_s hm
  replace f := fq_fr f (fkm_hasWall _ _ _ _ he) (by unfold FKdm_hasWall; decide)
  obtain ⟨-, hm⟩ := ck_s hm
  obtain ⟨-, hm⟩ := ck_s hm
  obtain ⟨h5, e1, hm⟩ := lt_some hm
  replace f : Fqt h5 g := by rw [e1]; exact up_fq f (by decide)
  obtain ⟨-, hm⟩ := ck_s hm
  obtain ⟨h6, he, hm⟩ := bd_s hm
  replace f := fq_tr f (fqm_notes _ _ _ _ hS he)
  obtain ⟨h7, he, hm⟩ := bd_s hm
  replace f := fq_tr f (fqm_areOut _ _ hS he)
  cases hm
  exact f
theorem wq_m_isRazed_L2 (p1 : Int32) (k0 : PH → Option (PH)) (g : PH) (r : PH) (hS : True) (kk0 : ∀ (y0 : PH), k0 y0 = some r → Fqt y0 g → Fqt r g) : ∀ (n : Nat) (v2 : Int32) (hv : PH), mm_isRazed_L2 p1 k0 n v2 hv = some r → Fqt hv g → Fqt r g := by
  intro n
  induction n with
  | zero => intro v2 hv hm; cases hm
  | succ n ih =>
    intro v2 hv hm f
    unfold mm_isRazed_L2 at hm
    rcases ite_or hm with ⟨hc, hm⟩ | ⟨hc, hm⟩
    · exact kk0 _ hm f
    · obtain ⟨h1, he, hm⟩ := bd_s hm
      replace f := fq_fr f (fkm_hasWall _ _ _ _ he) (by unfold FKdm_hasWall; decide)
      exact ih _ _ hm f
theorem fqm_isRazed (p1 : Int32) (h0 : PH) {r : PH} (hS : True) (hm : mm_isRazed p1 h0 = some r) : Fqt r h0 := by
  generalize hge : h0 = g at ⊢
  have f : Fqt h0 g := by rw [hge]; exact fq_r _
  unfold mm_isRazed at hm
  refine wq_m_isRazed_L2 _ _ g _ hS (fun h2 hm f => ?_) _ _ _ hm f
  · obtain ⟨h3, he, hm⟩ := bd_s hm
    replace f := fq_tr f (fqm_areOut _ _ hS he)
    cases hm
    exact f
theorem fqm_does (p1 : Int32) (h0 : PH) {r : PH} (hS : True) (hm : mm_does p1 h0 = some r) : Fqt r h0 := by
  generalize hge : h0 = g at ⊢
  have f : Fqt h0 g := by rw [hge]; exact fq_r _
  unfold mm_does at hm
  obtain ⟨-, hm⟩ := ck_s hm
  obtain ⟨x1, -, hm⟩ := lt_some hm
  obtain ⟨-, hm⟩ := ck_s hm
  obtain ⟨x2, -, hm⟩ := lt_some hm
  obtain ⟨-, hm⟩ := ck_s hm
  obtain ⟨x3, -, hm⟩ := lt_some hm
  refine v_j1 (fun (h5 : PH) => Fqt h5 g → Fqt r g) hm (fun h5 hm f => ?_) (fun j4 kj4 hm => ?_)
  · refine v_j1 (fun (h7 : PH) => Fqt h7 g → Fqt r g) hm (fun h7 hm f => ?_) (fun j6 kj6 hm => ?_)
    · refine v_j1 (fun (h9 : PH) => Fqt h9 g → Fqt r g) hm (fun h9 hm f => ?_) (fun j8 kj8 hm => ?_)
      · rcases ite_or hm with ⟨hc, hm⟩ | ⟨hc, hm⟩
        · obtain ⟨r10, -, hm⟩ := bd_s hm
          rcases ite_or hm with ⟨hc, hm⟩ | ⟨hc, hm⟩
          · cases hm
            exact f
          · obtain ⟨h11, he, hm⟩ := bd_s hm
            replace f := fq_tr f (fqm_isRazed _ _ hS he)
            cases hm
            exact f
        · cases hm
          exact f
      · rcases ite_or hm with ⟨hc, hm⟩ | ⟨hc, hm⟩
        · obtain ⟨r12, -, hm⟩ := bd_s hm
          rcases ite_or hm with ⟨hc, hm⟩ | ⟨hc, hm⟩
          · exact kj8 _ hm f
          · obtain ⟨h13, he, hm⟩ := bd_s hm
            replace f := fq_tr f (fqm_isWed _ _ hS he)
            exact kj8 _ hm f
        · exact kj8 _ hm f
    · rcases ite_or hm with ⟨hc, hm⟩ | ⟨hc, hm⟩
      · obtain ⟨-, hm⟩ := ck_s hm
        obtain ⟨-, hm⟩ := ck_s hm
        obtain ⟨r14, -, hm⟩ := bd_s hm
        obtain ⟨h15, he, hm⟩ := bd_s hm
        replace f := fq_fr f (fkm_hasWall _ _ _ _ he) (by unfold FKdm_hasWall; decide)
        exact kj6 _ hm f
      · exact kj6 _ hm f
  · rcases ite_or hm with ⟨hc, hm⟩ | ⟨hc, hm⟩
    · obtain ⟨-, hm⟩ := ck_s hm
      obtain ⟨r16, -, hm⟩ := bd_s hm
      obtain ⟨-, hm⟩ := ck_s hm
      obtain ⟨h17, e1, hm⟩ := lt_some hm
      replace f : Fqt h17 g := by rw [e1]; exact up_fq f (by decide)
      exact kj4 _ hm f
    · exact kj4 _ hm f
theorem wq_m_paysRent_L8 (p1 : Int32) (p2 : Int32) (k0 : Int32 → PH → Option (PH)) (g : PH) (r : PH) (hS : True) (kk0 : ∀ (y0 : Int32) (y1 : PH), k0 y0 y1 = some r → Fqt y1 g → Fqt r g) : ∀ (n : Nat) (v3 : Int32) (hv : PH), mm_paysRent_L8 p1 p2 k0 n v3 hv = some r → Fqt hv g → Fqt r g := by
  intro n
  induction n with
  | zero => intro v3 hv hm; cases hm
  | succ n ih =>
    intro v3 hv hm f
    unfold mm_paysRent_L8 at hm
    rcases ite_or hm with ⟨hc, hm⟩ | ⟨hc, hm⟩
    · exact kk0 _ _ hm f
    · obtain ⟨r3, -, hm⟩ := bd_s hm
      rcases ite_or hm with ⟨hc, hm⟩ | ⟨hc, hm⟩
      · exact kk0 _ _ hm f
      · obtain ⟨r4, -, hm⟩ := bd_s hm
        obtain ⟨r5, -, hm⟩ := bd_s hm
        obtain ⟨h6, he, hm⟩ := bd_s hm
        replace f := fq_fr f (fkm_hasWall _ _ _ _ he) (by unfold FKdm_hasWall; decide)
        obtain ⟨x7, -, hm⟩ := lt_some hm
        exact ih _ _ hm f
theorem fqm_paysRent (p1 : Int32) (h0 : PH) {r : PH} (hS : True) (hm : mm_paysRent p1 h0 = some r) : Fqt r h0 := by
  generalize hge : h0 = g at ⊢
  have f : Fqt h0 g := by rw [hge]; exact fq_r _
  unfold mm_paysRent at hm
  obtain ⟨r1, h2, he, hm⟩ := bd2_s hm
  replace f := fq_fr f (fkm_rentOf _ _ he) (by unfold FKdm_rentOf; decide)
  refine wq_m_paysRent_L8 _ _ _ g _ hS (fun x8 h9 hm f => ?_) _ _ _ hm f
  · obtain ⟨-, hm⟩ := ck_s hm
    obtain ⟨-, hm⟩ := ck_s hm
    obtain ⟨h10, e1, hm⟩ := lt_some hm
    replace f : Fqt h10 g := by rw [e1]; exact up_fq f (by decide)
    refine v_j1 (fun (h12 : PH) => Fqt h12 g → Fqt r g) hm (fun h12 hm f => ?_) (fun j11 kj11 hm => ?_)
    · obtain ⟨-, hm⟩ := ck_s hm
      obtain ⟨-, hm⟩ := ck_s hm
      obtain ⟨h13, e1, hm⟩ := lt_some hm
      replace f : Fqt h13 g := by rw [e1]; exact up_fq f (by decide)
      refine v_j1 (fun (h15 : PH) => Fqt h15 g → Fqt r g) hm (fun h15 hm f => ?_) (fun j14 kj14 hm => ?_)
      · obtain ⟨h16, he, hm⟩ := bd_s hm
        replace f := fq_tr f (fqm_areOut _ _ hS he)
        cases hm
        exact f
      · rcases ite_or hm with ⟨hc, hm⟩ | ⟨hc, hm⟩
        · exact kj14 _ hm f
        · obtain ⟨h17, he, hm⟩ := bd_s hm
          replace f := fq_tr f (fqm_notes _ _ _ _ hS he)
          exact kj14 _ hm f
    · rcases ite_or hm with ⟨hc, hm⟩ | ⟨hc, hm⟩
      · exact kj11 _ hm f
      · obtain ⟨h18, he, hm⟩ := bd_s hm
        replace f := fq_tr f (fqm_notes _ _ _ _ hS he)
        exact kj11 _ hm f
theorem wq_m_isGnawed_L4 (p1 : Int32) (k0 : Int32 → PH → Option (PH)) (g : PH) (r : PH) (hS : True) (kk0 : ∀ (y0 : Int32) (y1 : PH), k0 y0 y1 = some r → Fqt y1 g → Fqt r g) : ∀ (n : Nat) (v2 : Int32) (v3 : Int32) (hv : PH), mm_isGnawed_L4 p1 k0 n v2 v3 hv = some r → Fqt hv g → Fqt r g := by
  intro n
  induction n with
  | zero => intro v2 v3 hv hm; cases hm
  | succ n ih =>
    intro v2 v3 hv hm f
    unfold mm_isGnawed_L4 at hm
    rcases ite_or hm with ⟨hc, hm⟩ | ⟨hc, hm⟩
    · exact kk0 _ _ hm f
    · obtain ⟨r1, -, hm⟩ := bd_s hm
      rcases ite_or hm with ⟨hc, hm⟩ | ⟨hc, hm⟩
      · exact ih _ _ _ hm f
      · obtain ⟨r2, h3, he, hm⟩ := bd2_s hm
        replace f := fq_fr f (fkm_gnawsOf _ _ _ he) (by unfold FKdm_gnawsOf; decide)
        refine v_j2 (fun (x5 : Int32) (h6 : PH) => Fqt h6 g → Fqt r g) hm (fun x5 h6 hm f => ?_) (fun j4 kj4 hm => ?_)
        · rcases ite_or hm with ⟨hc, hm⟩ | ⟨hc, hm⟩
          · exact ih _ _ _ hm f
          · obtain ⟨r7, -, hm⟩ := bd_s hm
            obtain ⟨h8, he, hm⟩ := bd_s hm
            replace f := fq_fr f (fkm_hasWall _ _ _ _ he) (by unfold FKdm_hasWall; decide)
            obtain ⟨x9, -, hm⟩ := lt_some hm
            exact ih _ _ _ hm f
        · rcases ite_or hm with ⟨hc, hm⟩ | ⟨hc, hm⟩
          · rcases ite_or hm with ⟨hc, hm⟩ | ⟨hc, hm⟩
            · exact kj4 _ _ hm f
            · obtain ⟨r10, h11, he, hm⟩ := bd2_s hm
              replace f := fq_fr f (fkm_draw _ _ he) (by unfold FKdm_draw; decide)
              rcases ite_or hm with ⟨hc, hm⟩ | ⟨hc, hm⟩
              · exact kj4 _ _ hm f
              · exact kj4 _ _ hm f
          · rcases ite_or hm with ⟨hc, hm⟩ | ⟨hc, hm⟩
            · exact kj4 _ _ hm f
            · exact kj4 _ _ hm f
theorem fqm_isGnawed (p1 : Int32) (h0 : PH) {r : PH} (hS : True) (hm : mm_isGnawed p1 h0 = some r) : Fqt r h0 := by
  generalize hge : h0 = g at ⊢
  have f : Fqt h0 g := by rw [hge]; exact fq_r _
  unfold mm_isGnawed at hm
  refine wq_m_isGnawed_L4 _ _ g _ hS (fun x12 h13 hm f => ?_) _ _ _ _ hm f
  · obtain ⟨-, hm⟩ := ck_s hm
    obtain ⟨-, hm⟩ := ck_s hm
    obtain ⟨h14, e1, hm⟩ := lt_some hm
    replace f : Fqt h14 g := by rw [e1]; exact up_fq f (by decide)
    rcases ite_or hm with ⟨hc, hm⟩ | ⟨hc, hm⟩
    · cases hm
      exact f
    · obtain ⟨h15, he, hm⟩ := bd_s hm
      replace f := fq_tr f (fqm_notes _ _ _ _ hS he)
      cases hm
      exact f
theorem wq_m_doesMelt_L4 (p1 : Int32) (k0 : Int32 → PH → Option (PH)) (g : PH) (r : PH) (hS : True) (kk0 : ∀ (y0 : Int32) (y1 : PH), k0 y0 y1 = some r → Fqt y1 g → Fqt r g) : ∀ (n : Nat) (v2 : Int32) (v3 : Int32) (hv : PH), mm_doesMelt_L4 p1 k0 n v2 v3 hv = some r → Fqt hv g → Fqt r g := by
  intro n
  induction n with
  | zero => intro v2 v3 hv hm; cases hm
  | succ n ih =>
    intro v2 v3 hv hm f
    unfold mm_doesMelt_L4 at hm
    rcases ite_or hm with ⟨hc, hm⟩ | ⟨hc, hm⟩
    · exact kk0 _ _ hm f
    · obtain ⟨-, hm⟩ := ck_s hm
      rcases ite_or hm with ⟨hc, hm⟩ | ⟨hc, hm⟩
      · obtain ⟨r1, -, hm⟩ := bd_s hm
        refine v_j2 (fun (x3 : Int32) (h4 : PH) => Fqt h4 g → Fqt r g) hm (fun x3 h4 hm f => ?_) (fun j2 kj2 hm => ?_)
        · obtain ⟨r5, -, hm⟩ := bd_s hm
          obtain ⟨h6, he, hm⟩ := bd_s hm
          replace f := fq_fr f (fkm_hasWall _ _ _ _ he) (by unfold FKdm_hasWall; decide)
          obtain ⟨x7, -, hm⟩ := lt_some hm
          exact ih _ _ _ hm f
        · rcases ite_or hm with ⟨hc, hm⟩ | ⟨hc, hm⟩
          · exact kj2 _ _ hm f
          · obtain ⟨r8, -, hm⟩ := bd_s hm
            obtain ⟨r9, h10, he, hm⟩ := bd2_s hm
            replace f := fq_fr f (fkm_meltsOf _ _ _ he) (by unfold FKdm_meltsOf; decide)
            obtain ⟨r11, -, hm⟩ := bd_s hm
            exact kj2 _ _ hm f
      · exact kk0 _ _ hm f
theorem fqm_doesMelt (p1 : Int32) (h0 : PH) {r : PH} (hS : True) (hm : mm_doesMelt p1 h0 = some r) : Fqt r h0 := by
  generalize hge : h0 = g at ⊢
  have f : Fqt h0 g := by rw [hge]; exact fq_r _
  unfold mm_doesMelt at hm
  refine wq_m_doesMelt_L4 _ _ g _ hS (fun x12 h13 hm f => ?_) _ _ _ _ hm f
  · rcases ite_or hm with ⟨hc, hm⟩ | ⟨hc, hm⟩
    · cases hm
      exact f
    · obtain ⟨h14, he, hm⟩ := bd_s hm
      replace f := fq_tr f (fqm_notes _ _ _ _ hS he)
      cases hm
      exact f
theorem wq_m_goesBy_L6 (k0 : PH → Option (Int32 × PH)) (g : PH) (r : Int32 × PH) (hS : True) (kk0 : ∀ (y0 : PH), k0 y0 = some r → Fqt y0 g → Fqt r.2 g) : ∀ (n : Nat) (v1 : Int32) (hv : PH), mm_goesBy_L6 k0 n v1 hv = some r → Fqt hv g → Fqt r.2 g := by
  intro n
  induction n with
  | zero => intro v1 hv hm; cases hm
  | succ n ih =>
    intro v1 hv hm f
    unfold mm_goesBy_L6 at hm
    rcases ite_or hm with ⟨hc, hm⟩ | ⟨hc, hm⟩
    · exact kk0 _ hm f
    · obtain ⟨-, hm⟩ := ck_s hm
      obtain ⟨-, hm⟩ := ck_s hm
      rcases ite_or hm with ⟨hc, hm⟩ | ⟨hc, hm⟩
      · obtain ⟨h2, he, hm⟩ := bd_s hm
        replace f := fq_tr f (fqm_does _ _ hS he)
        obtain ⟨x3, -, hm⟩ := lt_some hm
        exact ih _ _ hm f
      · obtain ⟨x4, -, hm⟩ := lt_some hm
        exact ih _ _ hm f
theorem wq_m_goesBy_L50 (p1 : Int32) (k0 : PH → Option (Int32 × PH)) (g : PH) (r : Int32 × PH) (hS : True) (kk0 : ∀ (y0 : PH), k0 y0 = some r → Fqt y0 g → Fqt r.2 g) : ∀ (n : Nat) (v2 : Int32) (hv : PH), mm_goesBy_L50 p1 k0 n v2 hv = some r → Fqt hv g → Fqt r.2 g := by
  intro n
  induction n with
  | zero => intro v2 hv hm; cases hm
  | succ n ih =>
    intro v2 hv hm f
    unfold mm_goesBy_L50 at hm
    rcases ite_or hm with ⟨hc, hm⟩ | ⟨hc, hm⟩
    · exact kk0 _ hm f
    · obtain ⟨r7, -, hm⟩ := bd_s hm
      rcases ite_or hm with ⟨hc, hm⟩ | ⟨hc, hm⟩
      · exact ih _ _ hm f
      · obtain ⟨-, hm⟩ := ck_s hm
        rcases ite_or hm with ⟨hc, hm⟩ | ⟨hc, hm⟩
        · exact ih _ _ hm f
        · obtain ⟨h8, he, hm⟩ := bd_s hm
          replace f := fq_tr f (fqm_paysRent _ _ hS he)
          exact ih _ _ hm f
theorem wq_m_goesBy_L91 (p1 : Int32) (k0 : PH → Option (Int32 × PH)) (g : PH) (r : Int32 × PH) (hS : True) (kk0 : ∀ (y0 : PH), k0 y0 = some r → Fqt y0 g → Fqt r.2 g) : ∀ (n : Nat) (v2 : Int32) (hv : PH), mm_goesBy_L91 p1 k0 n v2 hv = some r → Fqt hv g → Fqt r.2 g := by
  intro n
  induction n with
  | zero => intro v2 hv hm; cases hm
  | succ n ih =>
    intro v2 hv hm f
    unfold mm_goesBy_L91 at hm
    rcases ite_or hm with ⟨hc, hm⟩ | ⟨hc, hm⟩
    · exact kk0 _ hm f
    · obtain ⟨h10, he, hm⟩ := bd_s hm
      replace f := fq_tr f (fqm_isGnawed _ _ hS he)
      exact ih _ _ hm f
theorem wq_m_goesBy_L112 (p1 : Int32) (k0 : PH → Option (Int32 × PH)) (g : PH) (r : Int32 × PH) (hS : True) (kk0 : ∀ (y0 : PH), k0 y0 = some r → Fqt y0 g → Fqt r.2 g) : ∀ (n : Nat) (v2 : Int32) (hv : PH), mm_goesBy_L112 p1 k0 n v2 hv = some r → Fqt hv g → Fqt r.2 g := by
  intro n
  induction n with
  | zero => intro v2 hv hm; cases hm
  | succ n ih =>
    intro v2 hv hm f
    unfold mm_goesBy_L112 at hm
    rcases ite_or hm with ⟨hc, hm⟩ | ⟨hc, hm⟩
    · exact kk0 _ hm f
    · obtain ⟨h12, he, hm⟩ := bd_s hm
      replace f := fq_tr f (fqm_doesMelt _ _ hS he)
      exact ih _ _ hm f
theorem wq_m_goesBy_L133 (p1 : Int32) (k0 : PH → Option (Int32 × PH)) (g : PH) (r : Int32 × PH) (hS : True) (kk0 : ∀ (y0 : PH), k0 y0 = some r → Fqt y0 g → Fqt r.2 g) : ∀ (n : Nat) (v2 : Int32) (hv : PH), mm_goesBy_L133 p1 k0 n v2 hv = some r → Fqt hv g → Fqt r.2 g := by
  intro n
  induction n with
  | zero => intro v2 hv hm; cases hm
  | succ n ih =>
    intro v2 hv hm f
    unfold mm_goesBy_L133 at hm
    rcases ite_or hm with ⟨hc, hm⟩ | ⟨hc, hm⟩
    · exact kk0 _ hm f
    · obtain ⟨-, hm⟩ := ck_s hm
      rcases ite_or hm with ⟨hc, hm⟩ | ⟨hc, hm⟩
      · obtain ⟨r14, -, hm⟩ := bd_s hm
        rcases ite_or hm with ⟨hc, hm⟩ | ⟨hc, hm⟩
        · exact ih _ _ hm f
        · obtain ⟨-, hm⟩ := ck_s hm
          obtain ⟨r15, -, hm⟩ := bd_s hm
          obtain ⟨-, hm⟩ := ck_s hm
          obtain ⟨h16, e1, hm⟩ := lt_some hm
          replace f : Fqt h16 g := by rw [e1]; exact up_fq f (by decide)
          exact ih _ _ hm f
      · exact ih _ _ hm f
theorem wq_m_goesBy_L193 (p1 : Int32) (k0 : PH → Option (Int32 × PH)) (g : PH) (r : Int32 × PH) (hS : True) (kk0 : ∀ (y0 : PH), k0 y0 = some r → Fqt y0 g → Fqt r.2 g) : ∀ (n : Nat) (v2 : Int32) (hv : PH), mm_goesBy_L193 p1 k0 n v2 hv = some r → Fqt hv g → Fqt r.2 g := by
  intro n
  induction n with
  | zero => intro v2 hv hm; cases hm
  | succ n ih =>
    intro v2 hv hm f
    unfold mm_goesBy_L193 at hm
    rcases ite_or hm with ⟨hc, hm⟩ | ⟨hc, hm⟩
    · exact kk0 _ hm f
    · obtain ⟨h18, he, hm⟩ := bd_s hm
      replace f := fq_tr f (fqm_areOut _ _ hS he)
      obtain ⟨r19, -, hm⟩ := bd_s hm
      rcases ite_or hm with ⟨hc, hm⟩ | ⟨hc, hm⟩
      · exact ih _ _ hm f
      · obtain ⟨-, hm⟩ := ck_s hm
        obtain ⟨r20, -, hm⟩ := bd_s hm
        obtain ⟨-, hm⟩ := ck_s hm
        obtain ⟨h21, e1, hm⟩ := lt_some hm
        replace f : Fqt h21 g := by rw [e1]; exact up_fq f (by decide)
        exact ih _ _ hm f
theorem fqm_goesBy (h0 : PH) {r : Int32 × PH} (hS : True) (hm : mm_goesBy h0 = some r) : Fqt r.2 h0 := by
  generalize hge : h0 = g at ⊢
  have f : Fqt h0 g := by rw [hge]; exact fq_r _
  unfold mm_goesBy at hm
  obtain ⟨h1, he, hm⟩ := bd_s hm
  replace f := fq_fr f (fkm_skyOf _ he) (by unfold FKdm_skyOf; decide)
  refine wq_m_goesBy_L6 _ g _ hS (fun h5 hm f => ?_) _ _ _ hm f
  · obtain ⟨r6, -, hm⟩ := bd_s hm
    refine wq_m_goesBy_L50 _ _ g _ hS (fun h9 hm f => ?_) _ _ _ hm f
    · refine wq_m_goesBy_L91 _ _ g _ hS (fun h11 hm f => ?_) _ _ _ hm f
      · refine wq_m_goesBy_L112 _ _ g _ hS (fun h13 hm f => ?_) _ _ _ hm f
        · refine wq_m_goesBy_L133 _ _ g _ hS (fun h17 hm f => ?_) _ _ _ hm f
          · refine wq_m_goesBy_L193 _ _ g _ hS (fun h22 hm f => ?_) _ _ _ hm f
            · obtain ⟨-, hm⟩ := ck_s hm
              obtain ⟨-, hm⟩ := ck_s hm
              obtain ⟨h23, e1, hm⟩ := lt_some hm
              replace f : Fqt h23 g := by rw [e1]; exact up_fq f (by decide)
              obtain ⟨r24, -, hm⟩ := bd_s hm
              obtain ⟨r25, -, hm⟩ := bd_s hm
              cases hm
              exact f
end
section
/-! THE TOWN'S RELATION: of the town, of what is kept, of the image -/
def TNt (H N M b : Nat) (Ls : LNS) (hc hm : PH) : Prop := RTT AA H b Ls B0 hc hm ∧ SK N hc hm ∧ OF H M hc hm ∧ hc 14 3 = hm 104 37
/-- where the image stands for what is told -/
def iC (h : PH) : PH := fun b => if b = 1 then h 37 else if b = 2 then h 38 else if 6 ≤ b ∧ b ≤ 17 then h (b + 34) else h b
def iM (h : PH) : PH := fun b j => if pm (pv b j) = (b, j) ∧ pv b j < 1850 then h 148 (pv b j) else h b j
theorem iC_1 (h : PH) : iC h 1 = h 37 := rfl
theorem iC_2 (h : PH) : iC h 2 = h 38 := rfl
theorem iC_r (h : PH) {b : Nat} (h1 : 6 ≤ b) (h2 : b ≤ 17) : iC h b = h (b + 34) := by
  unfold iC
  rw [if_neg (by omega), if_neg (by omega), if_pos ⟨h1, h2⟩]
theorem iC_o (h : PH) {b : Nat} (h1 : 17 < b) : iC h b = h b := by
  unfold iC
  rw [if_neg (by omega), if_neg (by omega), if_neg (by omega)]
theorem iM_at (h : PH) {p b j : Nat} (hp : p < 1850) (e : pm p = (b, j)) : iM h b j = h 148 p := by
  have z := pv_pm p hp
  rw [e] at z
  have z : pv b j = p := z
  unfold iM
  rw [z, if_pos ⟨e, hp⟩]
theorem iM_o (h : PH) {b j : Nat} (n : ∀ p, p < 1850 → pm p ≠ (b, j)) : iM h b j = h b j := by
  unfold iM
  rw [if_neg (fun z => n _ z.2 z.1)]
theorem iM_5 (h : PH) : iM h 104 5 = h 104 5 := by
  unfold iM
  rw [if_neg (by decide)]
def TWN (k : Nat) (h : PH) : Prop := k ≤ 512 ∧ QA h ∧ h 69 3 = 0 ∧ (∃ H N M u s Ls, TNt H N M (1000 * k) Ls h h ∧ PK H (1000 * k) Ls u s h h) ∧ (¬ h 104 72 = 0 → ∃ H N M Ls, TNt H N M (1000 * k) Ls (iC h) (iM h))
/-- RTT over heaps that are the same where it looks -/
theorem rt_tr {B : BKT} {A : Nat → Prop} {H b : Nat} {Ls : LNS} {hc hm gc gm : PH} (r : RTT A H b Ls B hc hm) (c : ∀ x, x = 1 ∨ x = 2 ∨ (6 ≤ x ∧ x ≤ 9) ∨ (14 ≤ x ∧ x ≤ 17) ∨ x = 68 → gc x = hc x) (m4 : ∀ j, j = 5 ∨ j = 6 → gm 104 j = hm 104 j) (m5 : ∀ j, j < 115 → gm 105 j = hm 105 j) (m : ∀ x, x = 108 ∨ x = 109 ∨ x = 110 ∨ (113 ≤ x ∧ x ≤ 119) ∨ x = 123 → gm x = hm x) : RTT A H b Ls B gc gm :=
  rt_cg r (fun _ _ _ => by rw [c 1 (by omega)]) (fun _ _ => by rw [c 2 (by omega)]) (fun x _ _ => c x (by omega)) (c 14 (by omega)) (c 15 (by omega)) (by rw [c 16 (by omega)]) (by rw [c 16 (by omega)]) (by rw [c 16 (by omega)]) (fun _ _ => by rw [c 17 (by omega)]) (by rw [c 68 (by omega)]) (m4 5 (by omega)) (m4 6 (by omega)) m5 (fun _ _ => by rw [m 108 (by omega)]) (fun _ _ => by rw [m 109 (by omega)]) (fun _ _ => by rw [m 110 (by omega)]) (fun x _ _ => m x (by omega)) (m 123 (by omega))
theorem tn_tr {H N M b : Nat} {Ls : LNS} {hc hm gc gm : PH} (t : TNt H N M b Ls hc hm) (c : ∀ x, x = 1 ∨ x = 2 ∨ (6 ≤ x ∧ x ≤ 17) ∨ x = 68 → gc x = hc x) (m4 : ∀ j, j = 5 ∨ j = 6 ∨ j = 33 ∨ j = 35 ∨ j = 37 → gm 104 j = hm 104 j) (m5 : ∀ j, j < 115 → gm 105 j = hm 105 j) (m : ∀ x, x = 108 ∨ x = 109 ∨ x = 110 ∨ (113 ≤ x ∧ x ≤ 119) ∨ (121 ≤ x ∧ x ≤ 123) → gm x = hm x) : TNt H N M b Ls gc gm :=
  ⟨rt_tr t.1 (fun x hx => c x (by omega)) (fun j hj => m4 j (by omega)) m5 (fun x hx => m x (by omega)), sk_of t.2.1 (c 10 (by omega)) (c 11 (by omega)) (m4 33 (by omega)) (m 121 (by omega)), of_of t.2.2.1 (c 12 (by omega)) (c 13 (by omega)) (m4 35 (by omega)) (m 122 (by omega)), by rw [c 14 (by omega), m4 37 (by omega)]; exact t.2.2.2⟩
theorem tn_mono {H N M b b' : Nat} {Ls : LNS} {hc hm : PH} (t : TNt H N M b Ls hc hm) (h1 : b ≤ b') (h2 : b' < 1000000) : TNt H N M b' Ls hc hm := ⟨rt_mono t.1 h1 h2, t.2⟩
theorem pk_tr {H b u s : Nat} {Ls : LNS} {hc hm gc gm : PH} (pk : PK H b Ls u s hc hm) (c : ∀ x, (6 ≤ x ∧ x ≤ 9) ∨ (14 ≤ x ∧ x ≤ 17) ∨ x = 68 ∨ x = 70 ∨ (72 ≤ x ∧ x ≤ 84) → gc x = hc x) (m4 : ∀ j, j = 3 ∨ j = 5 ∨ j = 6 → gm 104 j = hm 104 j) (m : ∀ x, x = 106 ∨ x = 108 ∨ x = 109 ∨ x = 110 ∨ (113 ≤ x ∧ x ≤ 119) ∨ x = 123 → gm x = hm x) : PK H b Ls u s gc gm := by
  obtain ⟨p1, p2, p3, p4, p5, p6, p7⟩ := pk
  have c70 := c 70 (by omega)
  have c72 := c 72 (by omega)
  refine ⟨p1, p2, by rw [c70]; exact p3, by rw [c70]; exact p4, by rw [m4 3 (by omega)]; exact p5, fun j hj => ?_, fun i j hij hj => by rw [c72]; exact p7 i j hij hj⟩
  have me : (s + j) % 6 < 6 := Nat.mod_lt _ (by decide)
  obtain ⟨q1, q2⟩ := p6 j hj
  refine ⟨rt_kept q1 (fun x _ _ => by rw [c _ (by omega)]) (fun x _ => by rw [c _ (by omega)]) (by rw [c72]) (fun x _ _ => c x (by omega)) (c 14 (by omega)) (c 15 (by omega)) (by rw [c 16 (by omega)]) (by rw [c 16 (by omega)]) (fun x _ => by rw [c 17 (by omega)]) (by rw [c 68 (by omega)]) (m4 5 (by omega)) (m4 6 (by omega)) (fun x _ => by rw [m 106 (by omega)]) (fun x _ => by rw [m 108 (by omega)]) (fun x _ => by rw [m 109 (by omega)]) (fun x _ => by rw [m 110 (by omega)]) (fun x _ _ => m x (by omega)) (m 123 (by omega)), ?_⟩
  rw [c72, c 16 (by omega)]
  exact q2
/-- nothing is kept -/
theorem pk_0 {H b s : Nat} {Ls : LNS} {hc hm : PH} (hs : s < 6) (e2 : hc 70 2 = nI s) (e3 : hc 70 3 = 0) (m3 : hm 104 3 = 0) : PK H b Ls 0 s hc hm := ⟨by omega, hs, e2, e3, m3, fun j hj => absurd hj (Nat.not_lt_zero j), fun i j _ hj => absurd hj (Nat.not_lt_zero j)⟩
def CCt (h g : PH) : Prop := ∀ x, x = 1 ∨ x = 2 ∨ (6 ≤ x ∧ x ≤ 17) ∨ x = 37 ∨ x = 38 ∨ (40 ≤ x ∧ x ≤ 51) ∨ (68 ≤ x ∧ x ≤ 70) ∨ (72 ≤ x ∧ x ≤ 84) → g x = h x
def CM (h g : PH) : Prop := (∀ j, j = 3 ∨ j = 5 ∨ j = 6 ∨ j = 33 ∨ j = 35 ∨ j = 37 ∨ j = 72 → g 104 j = h 104 j) ∧ (∀ j, j < 115 → g 105 j = h 105 j) ∧ ∀ x, x = 106 ∨ (108 ≤ x ∧ x ≤ 110) ∨ (113 ≤ x ∧ x ≤ 119) ∨ (121 ≤ x ∧ x ≤ 123) ∨ x = 148 → g x = h x
theorem im_5 (h : PH) {j : Nat} (hj : j < 115) : iM h 105 j = h 148 j := iM_at h (p := j) (by omega) (by have := pb_now_0 j hj; rw [show 0 + 1 * j + 0 = j by omega] at this; exact this)
/-- the image of what stays stays -/
theorem im_cg {h g : PH} (e : g 148 = h 148) {b j : Nat} (e2 : g b j = h b j) : iM g b j = iM h b j := by
  unfold iM
  rw [e, e2]
theorem tni_fr {H N M b : Nat} {Ls : LNS} {h g : PH} (c : ∀ x, x = 37 ∨ x = 38 ∨ (40 ≤ x ∧ x ≤ 51) ∨ x = 68 → g x = h x) (m4 : ∀ j, j = 5 ∨ j = 6 ∨ j = 33 ∨ j = 35 ∨ j = 37 → iM g 104 j = iM h 104 j) (m : ∀ x, x = 108 ∨ x = 109 ∨ x = 110 ∨ (113 ≤ x ∧ x ≤ 119) ∨ (121 ≤ x ∧ x ≤ 123) → iM g x = iM h x) (e : g 148 = h 148) (t : TNt H N M b Ls (iC h) (iM h)) : TNt H N M b Ls (iC g) (iM g) := by
  refine tn_tr t (fun x hx => ?_) m4 (fun j hj => by rw [im_5 g hj, im_5 h hj, e]) m
  rcases hx with z | z | z | z
  · subst z; rw [iC_1, iC_1]; exact c 37 (by omega)
  · subst z; rw [iC_2, iC_2]; exact c 38 (by omega)
  · rw [iC_r g z.1 z.2, iC_r h z.1 z.2]; exact c (x + 34) (by omega)
  · subst z; rw [iC_o g (by decide), iC_o h (by decide)]; exact c 68 (by omega)
theorem twn_fr {k k' : Nat} {h g : PH} (hk : k ≤ k') (hk' : k' ≤ 512) (c : CCt h g) (m : CM h g) (t : TWN k h) : TWN k' g := by
  obtain ⟨t1, t2, t3, ⟨H, N, M, u, s, Ls, t4, t5⟩, t6⟩ := t
  obtain ⟨m4, m5, mx⟩ := m
  refine ⟨hk', fun x hx => ?_, by rw [c 69 (by omega)]; exact t3, ⟨H, N, M, u, s, Ls, tn_mono (tn_tr t4 (fun x hx => c x (by omega)) (fun j hj => m4 j (by omega)) m5 (fun x hx => mx x (by omega))) (by omega) (by omega), pk_mono (pk_tr t5 (fun x hx => c x (by omega)) (fun j hj => m4 j (by omega)) (fun x hx => mx x (by omega))) (by omega) (by omega)⟩, fun nz => ?_⟩
  · rw [c x (by
      rcases hx with z | z | ⟨e, z1, z2⟩
      · omega
      · omega
      · omega)]
    exact t2 x hx
  · obtain ⟨H, N, M, Ls, t7⟩ := t6 (by rw [← m4 72 (by omega)]; exact nz)
    have e8 := mx 148 (by omega)
    exact ⟨H, N, M, Ls, tn_mono (tni_fr (fun x hx => c x (by omega)) (fun j hj => im_cg e8 (m4 j (by omega))) (fun x hx => funext fun j => im_cg e8 (by rw [mx x (by omega)])) e8 t7) (by omega) (by omega)⟩
theorem twn_cs {k : Nat} {S T : List Nat} {h h1 h2 : PH} (f1 : Fr S h1 h) (f2 : Fk T h2 h1) (s1 : ∀ b, b ∈ S → ¬ (b = 1 ∨ b = 2 ∨ (6 ≤ b ∧ b ≤ 17) ∨ b = 37 ∨ b = 38 ∨ (40 ≤ b ∧ b ≤ 51) ∨ (68 ≤ b ∧ b ≤ 70) ∨ (72 ≤ b ∧ b ≤ 84))) (s2 : ∀ b, b ∈ T → ¬ (b = 1003 ∨ b = 1005 ∨ b = 1006 ∨ b = 1033 ∨ b = 1035 ∨ b = 1037 ∨ b = 1072 ∨ b = 105 ∨ b = 106 ∨ (108 ≤ b ∧ b ≤ 110) ∨ (113 ≤ b ∧ b ≤ 119) ∨ (121 ≤ b ∧ b ≤ 123) ∨ b = 148)) (s3 : ∀ b, b ∈ S → b < 104) (s4 : ∀ b, b ∈ T → 104 ≤ b) (hk : k < 512) (t : TWN k h) : TWN (k + 1) h2 := by
  have kn : ∀ b j, b ≠ 104 → kk b j = b := fun b j hb => by unfold kk; rw [if_neg hb]
  have up1 : ∀ b, 104 ≤ b → h1 b = h b := fun b hb => f1 b (fun q => by have := s3 b q; omega)
  have lo : ∀ b, b < 104 → h2 b = h1 b := fun b hb => funext fun j => f2 b j (by rw [kn b j (by omega)]; intro q; have := s4 b q; omega)
  refine twn_fr (Nat.le_succ k) hk (fun x hx => ?_) ⟨fun j hj => ?_, fun j hj => ?_, fun x hx => ?_⟩ t
  · rw [lo x (by omega)]
    exact f1 x (fun q => s1 x q hx)
  · rw [← up1 104 (by decide)]
    exact f2 104 j (by
      rw [show kk 104 j = 1000 + j from rfl]
      intro q
      exact s2 _ q (by omega))
  · rw [← up1 105 (by decide)]
    exact f2 105 j (by
      rw [kn 105 j (by decide)]
      intro q
      exact s2 _ q (by omega))
  · rw [← up1 x (by omega)]
    funext j
    exact f2 x j (by
      rw [kn x j (by omega)]
      intro q
      exact s2 _ q (by omega))
/-- class and model, each in its own heap, back into one -/
theorem tn_one {H N M b : Nat} {Ls : LNS} {hc hm g : PH} (c : ∀ x, x < 104 → g x = hc x) (m : ∀ x, 104 ≤ x → g x = hm x) (t : TNt H N M b Ls hc hm) : TNt H N M b Ls g g := tn_tr t (fun x hx => c x (by omega)) (fun j _ => by rw [m 104 (by omega)]) (fun j _ => by rw [m 105 (by omega)]) (fun x hx => m x (by omega))
theorem pk_one {H b u s : Nat} {Ls : LNS} {hc hm g : PH} (c : ∀ x, x < 104 → g x = hc x) (m : ∀ x, 104 ≤ x → g x = hm x) (t : PK H b Ls u s hc hm) : PK H b Ls u s g g := pk_tr t (fun x hx => c x (by omega)) (fun j _ => by rw [m 104 (by omega)]) (fun x hx => m x (by omega))
theorem nt_0 (p : Int32) {h : PH} (e : h 14 3 = 0) : mO_nextTo 5 p h = some 0 := by
  unfold mO_nextTo
  rw [show FU = 99999 + 1 from rfl, mO_nextTo_L4, show h (5 + 9) 3 = 0 from e, if_pos (by decide)]
theorem cdc_first : CDc (cdo []) 0 hI := fun j k v hj => by
  rw [show cdo ([] : LNS) = [] from rfl, List.getElem?_nil] at hj
  cases hj
theorem cdm_first : CDm (cdo []) 0 hI := fun j k v hj => by
  rw [show xp (cdo ([] : LNS)) = [] from rfl, List.getElem?_nil] at hj
  cases hj
theorem lw_first : LW [] hI hI := ⟨by decide, by decide, fun l hl => absurd hl List.not_mem_nil, ⟨rfl, rfl, rfl, rfl, cdc_first, fun r w A W hr => by rw [List.getElem?_nil] at hr; cases hr⟩, ⟨rfl, cdm_first, fun r w A W hr => by rw [List.getElem?_nil] at hr; cases hr⟩⟩
theorem twn_first : TWN 0 hI := by
  refine ⟨by decide, fun c hc => ?_, rfl, ⟨0, 0, 0, 0, 0, [], ⟨⟨⟨by decide, rfl, rfl, fun f f1 f2 => ?_, fun i c hi => absurd hi (Nat.not_lt_zero i), fun i c hi => absurd hi (Nat.not_lt_zero i)⟩, lw_first, ⟨0, by decide, rfl, rfl, rfl, rfl, fun j hj => absurd hj (Nat.not_lt_zero j), Nat.le_refl 0, fun j hj => absurd hj (Nat.not_lt_zero j)⟩, fun k hk => ?_, rfl, rfl, ⟨fun i hi => absurd hi (Nat.not_lt_zero i), Int.le_refl 0, by decide⟩⟩, ⟨by decide, rfl, rfl, rfl, fun r hr => absurd hr (Nat.not_lt_zero r)⟩, ⟨by decide, rfl, rfl, rfl, fun r hr => absurd hr (Nat.not_lt_zero r)⟩, rfl⟩, pk_0 (by decide) rfl rfl rfl⟩, fun nz => absurd rfl nz⟩
  · have z : ∀ e, e < 6 → hI (73 + 2 * e) 6 = 0 := by decide +kernel
    have r0 : R 0 9999 (0 : Int32) := ⟨by decide, by decide⟩
    rcases hc with q | q | ⟨e, q1, q2⟩
    · subst q; exact r0
    · subst q; exact r0
    · subst q2; rw [z e q1]; exact r0
  · have z : ∀ f, f < 8 → 2 ≤ f → hI 1 f = hI 105 (sf f) := by decide +kernel
    exact z f f2 f1
  · have z : ∀ k, k < 12 → hI 123 k = 0 := by decide +kernel
    rw [nt_0 _ (show hI 14 3 = 0 from rfl), z k hk]
end
section
/-! THE TOWN over heaps that hold the same where rows are filled -/
theorem xp_ge : ∀ C : List (Nat × Nat), C.length ≤ (xp C).length
  | [] => Nat.le_refl _
  | (k, v) :: r => by
    have := xp_ge r
    rw [xp]
    split
    · simp only [List.length_cons]; omega
    · simp only [List.length_cons]; omega
theorem at_14 {h : PH} {m r c : Nat} (c1 : h 14 1 = 5) (c3 : h 14 3 = nI m) (hm : m ≤ 16) (hr : r < m) (hc : c < 5) : mR_at 14 (nI r) (nI c) h = some (h 15 (5 * r + c)) := by
  unfold mR_at
  rw [if_neg (nI_pos (by omega)), c3, if_neg (nI_ge hr (by omega)), if_neg (nI_pos (by omega)), c1, if_pos (show nI c < (5 : Int32) from nI_lt (b := 5) hc (by decide)), show nI r * (5 : Int32) = nI (r * 5) from nI_mul r 5, nI_add, show ln (14 + 1) = 80 from rfl, ck_nI (by omega) (by decide), show ix (nI (r * 5 + c)) = r * 5 + c from nI_clamp (by omega), Nat.mul_comm r 5]
theorem nx_cg {h g : PH} {m : Nat} (h16 : m ≤ 16) (hm : h 14 3 = nI m) (gm : g 14 3 = nI m) (h1 : h 14 1 = 5) (g1 : g 14 1 = 5) (e : ∀ j, j < m * 5 → g 15 j = h 15 j) (p : Int32) : mO_nextTo 5 p g = mO_nextTo 5 p h := by
  have go : ∀ (n k : Nat) (v : Int32), k ≤ m → mO_nextTo_L4 5 p g n v (nI k) = mO_nextTo_L4 5 p h n v (nI k) := by
    intro n
    induction n with
    | zero => intro k v _; rfl
    | succ n ih =>
      intro k v hk
      rw [mO_nextTo_L4, mO_nextTo_L4, show g (5 + 9) 3 = nI m from gm, show h (5 + 9) 3 = nI m from hm]
      by_cases c : k = m
      · rw [if_pos (nI_le (by omega) (by omega)), if_pos (nI_le (by omega) (by omega))]
      · have hk' : k < m := by omega
        have a0 : mR_at (5 + 9) (nI k) 0 g = some (h 15 (5 * k)) := by
          have := at_14 (c := 0) g1 gm h16 hk' (by decide)
          rw [Nat.add_zero, e _ (by omega)] at this
          exact this
        have a1 : mR_at (5 + 9) (nI k) 1 g = some (h 15 (5 * k + 1)) := by
          have := at_14 (c := 1) g1 gm h16 hk' (by decide)
          rw [e _ (by omega)] at this
          exact this
        have b0 : mR_at (5 + 9) (nI k) 0 h = some (h 15 (5 * k)) := at_14 (c := 0) h1 hm h16 hk' (by decide)
        have b1 : mR_at (5 + 9) (nI k) 1 h = some (h 15 (5 * k + 1)) := at_14 (c := 1) h1 hm h16 hk' (by decide)
        have ih' := fun v => ih (k + 1) v (by omega)
        rw [if_neg (nI_ge hk' (by omega)), if_neg (nI_ge hk' (by omega)), a0, bd_e, a1, bd_e, b0, bd_e, b1, bd_e, nI_1]
        simp only [ih']
  have := go FU 0 0 (Nat.zero_le _)
  rw [nI_0] at this
  exact this
theorem clm {n : Nat} (h : n < 2 ^ 31) : (nI n).toNatClampNeg = n := nI_clamp h
def rwT (k : Nat) : Nat := [5, 2, 5, 5, 5, 4].getD k 0
/-- rows filled alike -/
def RW6 (hc gc : PH) : Prop := ∀ k, k < 6 → gc (6 + 2 * k) 3 = hc (6 + 2 * k) 3 ∧ gc (6 + 2 * k) 1 = hc (6 + 2 * k) 1 ∧ ∀ j, j < (hc (6 + 2 * k) 3).toNatClampNeg * rwT k → gc (7 + 2 * k) j = hc (7 + 2 * k) j
def PM6 (hm gm : PH) : Prop := gm 104 5 = hm 104 5 ∧ ∀ p, p < 1850 → gm (pm p).1 (pm p).2 = hm (pm p).1 (pm p).2
theorem pm6_at {hm gm : PH} (m : PM6 hm gm) {p b j : Nat} (hp : p < 1850) (e : pm p = (b, j)) : gm b j = hm b j := by
  have := m.2 p hp
  rw [e] at this
  exact this
theorem lwc_cg {Ls : LNS} {hc gc : PH} (l1 : Ls.length ≤ 16) (l2 : (xp (cdo Ls)).length ≤ 400) (l : LWc Ls hc) (w : RW6 hc gc) : LWc Ls gc := by
  obtain ⟨a1, a2, a3, a4, a5, a6⟩ := l
  obtain ⟨w1, w2, w3⟩ := w 0 (by decide)
  obtain ⟨v1, v2, v3⟩ := w 1 (by decide)
  have cl := xp_ge (cdo Ls)
  have w1 : gc 6 3 = hc 6 3 := w1
  have w2 : gc 6 1 = hc 6 1 := w2
  have w3 : ∀ j, j < (hc 6 3).toNatClampNeg * 5 → gc 7 j = hc 7 j := w3
  have v1 : gc 8 3 = hc 8 3 := v1
  have v2 : gc 8 1 = hc 8 1 := v2
  have v3 : ∀ j, j < (hc 8 3).toNatClampNeg * 2 → gc 9 j = hc 9 j := v3
  rw [a2, clm (by omega)] at w3
  rw [a4, clm (by omega)] at v3
  refine ⟨by rw [w2]; exact a1, by rw [w1]; exact a2, by rw [v2]; exact a3, by rw [v1]; exact a4, fun j k v hj => ?_, fun r x A W hr => ?_⟩
  · obtain ⟨hl, _⟩ := List.getElem?_eq_some_iff.mp hj
    rw [v3 _ (by omega), v3 _ (by omega)]
    exact a5 j k v hj
  · obtain ⟨hl, _⟩ := List.getElem?_eq_some_iff.mp hr
    rw [w3 _ (by omega), w3 _ (by omega), w3 _ (by omega), w3 _ (by omega)]
    exact a6 r x A W hr
theorem lwm_cg {Ls : LNS} {hm gm : PH} (l1 : Ls.length ≤ 16) (l2 : (xp (cdo Ls)).length ≤ 400) (l : LWm Ls hm) (m : PM6 hm gm) : LWm Ls gm := by
  obtain ⟨a1, a2, a3⟩ := l
  refine ⟨by rw [pm6_at m (p := 985) (by decide) rfl]; exact a1, fun j k v hj => ?_, fun r x A W hr => ?_⟩
  · obtain ⟨hl, _⟩ := List.getElem?_eq_some_iff.mp hj
    rw [pm6_at m (by omega) (pb_cod_0 (0 + j) (by omega)), pm6_at m (by omega) (pb_cod_1 (0 + j) (by omega))]
    exact a2 j k v hj
  · obtain ⟨hl, _⟩ := List.getElem?_eq_some_iff.mp hr
    rw [pm6_at m (by omega) (pb_lin_0 r (by omega)), pm6_at m (by omega) (pb_lin_1 r (by omega)), pm6_at m (by omega) (pb_lin_2 r (by omega)), pm6_at m (by omega) (pb_lin_3 r (by omega))]
    exact a3 r x A W hr
theorem tn_cg2 {H N M b : Nat} {Ls : LNS} {hc hm gc gm : PH} (t : TNt H N M b Ls hc hm) (c1 : ∀ j, 1 ≤ j → j ≤ 7 → gc 1 j = hc 1 j) (c2 : ∀ j, j < 132 → gc 2 j = hc 2 j) (w : RW6 hc gc) (c60 : gc 16 0 = hc 16 0) (c68 : gc 68 3 = hc 68 3) (n14 : R 0 16 (hc 14 3)) (w14 : hc 14 1 = 5) (m : PM6 hm gm) : TNt H N M b Ls gc gm := by
  obtain ⟨⟨q1, q2, q3, q4, q5, q6, q7⟩, s, o, e37⟩ := t
  have h12 := q1.1
  have m105 : ∀ j, j < 115 → gm 105 j = hm 105 j := fun j hj => pm6_at m (by omega) (pb_now_0 j hj)
  refine ⟨⟨tb_cg q1 c1 c2 (pm6_at m (p := 115) (by decide) rfl) m105 (fun j hj => pm6_at m (by omega) (pb_hou_0 j hj)) (fun j hj => pm6_at m (by omega) (pb_hou_1 j hj)), ⟨q2.1, q2.2.1, q2.2.2.1, lwc_cg q2.1 q2.2.1 q2.2.2.2.1 w, lwm_cg q2.1 q2.2.1 q2.2.2.2.2 m⟩, ?_, fun k hk => ?_, by rw [c68]; exact q5, by rw [m.1]; exact q6, ld_of q7 (fun i hi => c2 _ (by omega))⟩, ?_, ?_, ?_⟩
  · obtain ⟨n, n1, n2, n3, n4, n5, n6, n7⟩ := q3
    obtain ⟨w1, w2, w3⟩ := w 5 (by decide)
    have w1 : gc 16 3 = hc 16 3 := w1
    have w2 : gc 16 1 = hc 16 1 := w2
    have w3 : ∀ j, j < (hc 16 3).toNatClampNeg * 4 → gc 17 j = hc 17 j := w3
    rw [n4, clm (by omega)] at w3
    exact ⟨n, n1, by rw [c60]; exact n2, by rw [w2]; exact n3, by rw [w1]; exact n4, by rw [m105 2 (by decide)]; exact n5, fun j hj => by rw [w3 j (by omega), pm6_at m (by omega) (pb_boo_0 j (by omega))]; exact n6 j hj, n7.1, fun j hj => by have := n7.1; rw [w3 j (by omega)]; exact n7.2 j hj⟩
  · obtain ⟨x, x1, x2, ex⟩ := nat_of n14 (by decide)
    obtain ⟨w1, w2, w3⟩ := w 4 (by decide)
    have w1 : gc 14 3 = hc 14 3 := w1
    have w2 : gc 14 1 = hc 14 1 := w2
    have w3 : ∀ j, j < (hc 14 3).toNatClampNeg * 5 → gc 15 j = hc 15 j := w3
    rw [ex, clm x2] at w3
    rw [nx_cg (m := x) (by omega) ex (by rw [w1]; exact ex) w14 (by rw [w2]; exact w14) w3, pm6_at m (by omega) (pb_hou_2 k hk)]
    exact q4 k hk
  · obtain ⟨s1, s2, s3, s4, s5⟩ := s
    obtain ⟨w1, w2, w3⟩ := w 2 (by decide)
    have w1 : gc 10 3 = hc 10 3 := w1
    have w2 : gc 10 1 = hc 10 1 := w2
    have w3 : ∀ j, j < (hc 10 3).toNatClampNeg * 5 → gc 11 j = hc 11 j := w3
    rw [s3, clm (by omega)] at w3
    refine ⟨s1, by rw [w2]; exact s2, by rw [w1]; exact s3, by rw [pm6_at m (p := 116) (b := 104) (j := 33) (by decide) rfl]; exact s4, fun r hr => ?_⟩
    rw [w3 _ (by omega), w3 _ (by omega), w3 _ (by omega), pm6_at m (by omega) (pb_sky_0 (3 * r) (by omega)), pm6_at m (by omega) (pb_sky_0 (3 * r + 1) (by omega)), pm6_at m (by omega) (pb_sky_0 (3 * r + 2) (by omega))]
    exact s5 r hr
  · obtain ⟨s1, s2, s3, s4, s5⟩ := o
    obtain ⟨w1, w2, w3⟩ := w 3 (by decide)
    have w1 : gc 12 3 = hc 12 3 := w1
    have w2 : gc 12 1 = hc 12 1 := w2
    have w3 : ∀ j, j < (hc 12 3).toNatClampNeg * 5 → gc 13 j = hc 13 j := w3
    rw [s3, clm (by omega)] at w3
    refine ⟨s1, by rw [w2]; exact s2, by rw [w1]; exact s3, by rw [pm6_at m (p := 117) (b := 104) (j := 35) (by decide) rfl]; exact s4, fun r hr => ?_⟩
    have z := s5 r hr
    have d := fun j (hj : j < 80) => pm6_at m (by omega) (pb_dee_0 j hj)
    rw [w3 _ (by omega), w3 _ (by omega), w3 _ (by omega), w3 _ (by omega), w3 _ (by omega), d _ (by omega), d _ (by omega), d _ (by omega), d _ (by omega), d _ (by omega)]
    exact z
  · rw [show gc 14 3 = hc 14 3 from (w 4 (by decide)).1, pm6_at m (p := 118) (b := 104) (j := 37) (by decide) rfl]
    exact e37
/-- what every state knows of the rows -/
theorem i_eq {x y : Int32} (h : x.toInt = y.toInt) : x = y := Int32.toInt_inj.mp h
theorem rows_t {h : PH} (i : Inv h) : (∀ k, k < 6 → h (6 + 2 * k) 1 = nI (rwT k) ∧ h (40 + 2 * k) 1 = nI (rwT k)) ∧ h 16 0 = 150 ∧ h 50 0 = 150 := by
  have g : ∀ a w : Nat, (∃ m : Nat, sp a = spR (m : Int) (w : Int)) → w < 6 → h a 1 = nI w := fun a w hs hw => by
    obtain ⟨m, hs⟩ := hs
    have := (rows_i hs i).2.1
    exact i_eq (by rw [this, nI_toInt (by omega)])
  refine ⟨fun k hk => ?_, i_eq (by rw [(rows_i (a := 16) (m := 150) (w := 4) rfl i).1]; rfl), i_eq (by rw [(rows_i (a := 50) (m := 150) (w := 4) rfl i).1]; rfl)⟩
  have : k = 0 ∨ k = 1 ∨ k = 2 ∨ k = 3 ∨ k = 4 ∨ k = 5 := by omega
  rcases this with e | e | e | e | e | e <;> subst e
  · exact ⟨g 6 5 ⟨16, rfl⟩ (by decide), g 40 5 ⟨16, rfl⟩ (by decide)⟩
  · exact ⟨g 8 2 ⟨400, rfl⟩ (by decide), g 42 2 ⟨400, rfl⟩ (by decide)⟩
  · exact ⟨g 10 5 ⟨16, rfl⟩ (by decide), g 44 5 ⟨16, rfl⟩ (by decide)⟩
  · exact ⟨g 12 5 ⟨16, rfl⟩ (by decide), g 46 5 ⟨16, rfl⟩ (by decide)⟩
  · exact ⟨g 14 5 ⟨16, rfl⟩ (by decide), g 48 5 ⟨16, rfl⟩ (by decide)⟩
  · exact ⟨g 16 4 ⟨150, rfl⟩ (by decide), g 50 4 ⟨150, rfl⟩ (by decide)⟩
/-- the image stays while its cells stay -/
theorem tni_st {k : Nat} {h g : PH} (t : TWN k h) (hk : k < 512) (i : Inv h) (c : ∀ x, x = 37 ∨ x = 38 ∨ (40 ≤ x ∧ x ≤ 51) ∨ x = 68 → g x = h x) (m72 : g 104 72 = h 104 72) (m5 : g 104 5 = h 104 5) (e : g 148 = h 148) (nz : ¬ g 104 72 = 0) : ∃ H N M Ls, TNt H N M (1000 * (k + 1)) Ls (iC g) (iM g) := by
  obtain ⟨H, N, M, Ls, t7⟩ := t.2.2.2.2 (by rw [← m72]; exact nz)
  refine ⟨H, N, M, Ls, tn_mono (tn_cg2 t7 (fun j _ _ => ?_) (fun j _ => ?_) (fun k hk => ?_) ?_ ?_ ?_ ?_ ⟨?_, fun p hp => ?_⟩) (by omega) (by omega)⟩
  · rw [iC_1, iC_1, c 37 (by omega)]
  · rw [iC_2, iC_2, c 38 (by omega)]
  · rw [iC_r g (show 6 ≤ 6 + 2 * k by omega) (by omega), iC_r h (show 6 ≤ 6 + 2 * k by omega) (by omega), iC_r g (show 6 ≤ 7 + 2 * k by omega) (by omega), iC_r h (show 6 ≤ 7 + 2 * k by omega) (by omega), c (6 + 2 * k + 34) (by omega), c (7 + 2 * k + 34) (by omega)]
    exact ⟨rfl, rfl, fun _ _ => rfl⟩
  · rw [iC_r g (by decide) (by decide), iC_r h (by decide) (by decide), c (16 + 34) (by omega)]
  · rw [iC_o g (by decide), iC_o h (by decide), c 68 (by omega)]
  · rw [iC_r h (by decide) (by decide)]
    exact inv_rng i rfl
  · rw [iC_r h (by decide) (by decide)]
    exact ((rows_t i).1 4 (by decide)).2
  · rw [iM_5, iM_5, m5]
  · rw [iM_at g hp (show pm p = ((pm p).1, (pm p).2) from rfl), iM_at h hp (show pm p = ((pm p).1, (pm p).2) from rfl), e]
theorem tn_in {H N M b : Nat} {Ls : LNS} {h h1 : PH} (x : ∀ b, 104 ≤ b → h1 b = h b) (t : TNt H N M b Ls h h) : TNt H N M b Ls h (up h1 104 0 0) := tn_tr t (fun _ _ => rfl) (fun j hj => by rw [up_oj (by omega), x 104 (by decide)]) (fun j _ => by rw [up_oc (by decide), x 105 (by decide)]) (fun b hb => by rw [up_cell (by omega), x b (by omega)])
theorem pkt_in {H b u s : Nat} {Ls : LNS} {h h1 : PH} (x : ∀ b, 104 ≤ b → h1 b = h b) (t : PK H b Ls u s h h) : PK H b Ls u s h (up h1 104 0 0) := pk_tr t (fun _ _ => rfl) (fun j hj => by rw [up_oj (by omega), x 104 (by decide)]) (fun b hb => by rw [up_cell (by omega), x b (by omega)])
end
section
/-! THE CALLS that change the town: the relation is kept, and they answer alike -/
theorem tw_state (k : Nat) (a1 : Int32) (h : PH) (i : IM h) (t : TWN k h) (hk : k < 512) {rX rm : Int32} {h1 h2 : PH} (e1 : mX_state a1 h = some (rX, h1)) (e2 : mm_state a1 h1 = some (rm, h2)) (cs : CS h h1 h2) : TWN (k + 1) h2 ∧ rX = rm := by
  have xx := cs.2.2.2.1
  have ss := cs.2.2.2.2
  obtain ⟨t1, t2, t3, ⟨H, N, M, u, s, Ls, t4, t5⟩, t6⟩ := id t
  have c1 : ∀ (z : Option (Int32 × PH)), ck 1 115 z = z := fun z => ck_nI (i := 1) (by decide) (by decide)
  have e1' : mX_state a1 h = some (h 1 7, up (up h 1 7 a1) 70 3 0) := by
    unfold mX_state mP_forget
    rw [lt_e, lt_e, lt_e, bd_e]
  have e2' : mm_state a1 h1 = some (up h1 104 0 0 105 1, up (up (up h1 104 0 0) 105 1 a1) 104 3 0) := by
    unfold mm_state
    rw [lt_e, c1, lt_e, c1, lt_e, lt_e, show ix (1 : Int32) = 1 from rfl]
  rw [e1'] at e1
  rw [e2'] at e2
  cases e1
  cases e2
  have tt := tn_in xx t4
  have r5 := rt_f tt.1 (f := 7) (by decide) (by decide) a1
  have cc : ∀ x, x ≠ 70 → x < 104 → up (up (up (up (up h 1 7 a1) 70 3 0) 104 0 0) 105 1 a1) 104 3 0 x = up h 1 7 a1 x := fun x x1 x2 => by rw [up_cell (by omega), up_cell (by omega), up_cell (by omega), up_cell x1]
  have cm : ∀ x, 105 ≤ x → up (up (up (up (up h 1 7 a1) 70 3 0) 104 0 0) 105 1 a1) 104 3 0 x = up (up (up (up h 1 7 a1) 70 3 0) 104 0 0) 105 1 a1 x := fun x hx => up_cell (by omega)
  refine ⟨⟨by omega, fun c hc => ?_, ?_, ⟨H, N, M, 0, s, Ls, tn_mono (b := 1000 * k) ⟨rt_tr r5 (fun x hx => cc x (by omega) (by omega)) (fun j hj => ?_) (fun j hj => ?_) (fun x hx => cm x (by omega)), ?_, ?_, ?_⟩ (by omega) (by omega), pk_0 t5.2.1 ?_ ?_ up_same⟩, fun nz => tni_st t hk i.1 (fun x hx => ?_) ?_ ?_ ?_ nz⟩, ?_⟩
  · have c70 : c ≠ 70 := by
      rcases hc with z | z | ⟨e, z1, z2⟩ <;> omega
    have c104 : c < 104 := by
      rcases hc with z | z | ⟨e, z1, z2⟩ <;> omega
    rw [cc c c70 c104]
    by_cases z : c = 1
    · rw [z, up_oj (by decide)]; exact t2 1 (Or.inl rfl)
    · rw [up_cell z]; exact t2 c hc
  · rw [cc 69 (by decide) (by decide), up_oc (by decide)]; exact t3
  · rw [up_oj (by omega)]
    rfl
  · rw [up_oc (by decide)]
    rfl
  · exact sk_of tt.2.1 (by rw [cc 10 (by decide) (by decide), up_cell (by decide)]) (by rw [cc 11 (by decide) (by decide), up_cell (by decide)]) (by rw [up_oj (by decide), up_oc (by decide)]) (by rw [cm 121 (by decide), up_cell (by decide)])
  · exact of_of tt.2.2.1 (by rw [cc 12 (by decide) (by decide), up_cell (by decide)]) (by rw [cc 13 (by decide) (by decide), up_cell (by decide)]) (by rw [up_oj (by decide), up_oc (by decide)]) (by rw [cm 122 (by decide), up_cell (by decide)])
  · rw [cc 14 (by decide) (by decide), up_cell (by decide), up_oj (by decide), up_oc (by decide)]
    exact tt.2.2.2
  · rw [up_oc (by decide), up_oc (by decide), up_oc (by decide), up_oj (by decide), up_oc (by decide)]
    exact t5.2.2.1
  · rw [up_oc (by decide), up_oc (by decide), up_oc (by decide), up_same]
  · rw [cc x (by omega) (by omega), up_cell (by omega)]
  · rw [up_oj (by decide), up_oc (by decide), up_oj (by decide), up_oc (by decide), up_oc (by decide)]
  · rw [up_oj (by decide), up_oc (by decide), up_oj (by decide), up_oc (by decide), up_oc (by decide)]
  · rw [up_cell (by decide), up_cell (by decide), up_cell (by decide), up_cell (by decide), up_cell (by decide)]
  · exact tt.1.1.2.2.2.1 7 (by decide) (by decide)
/-- after deeds: the relation over one heap -/
theorem twn_dd {k H N M u s : Nat} {Ls : LNS} {h hm gc gm g : PH} (t : TWN k h) (hk : k < 512) (i : Inv h) (tn : TNt H N M (1000 * k) Ls h hm) (r : RTT AA H (1000 * (k + 1)) Ls B0 gc gm) (pk : PK H (1000 * (k + 1)) Ls u s gc gm) (qa : QA gc) (dc : DC2 h gc) (dm1 : ∀ x, x ≠ 104 → x ≠ 105 → x ≠ 106 → x ≠ 110 → x ≠ 124 → x ≠ 125 → gm x = hm x) (dm2 : ∀ j, j ≠ 0 → j ≠ 3 → gm 104 j = hm 104 j) (m148 : hm 148 = h 148) (m72 : hm 104 72 = h 104 72) (m5 : hm 104 5 = h 104 5) (c : ∀ x, x < 104 → g x = gc x) (m : ∀ x, 104 ≤ x → g x = gm x) : TWN (k + 1) g := by
  have d := fun x (h1 : x ≠ 1) (h2 : x ≠ 2) (h3 : x ≠ 16) (h4 : x ≠ 17) (h5 : x < 34 ∨ 36 < x) (h6 : x < 70 ∨ 84 < x) => dc x h1 h2 h3 h4 h5 h6
  have tg : TNt H N M (1000 * (k + 1)) Ls gc gm := ⟨r, sk_of tn.2.1 (d 10 (by decide) (by decide) (by decide) (by decide) (by decide) (by decide)) (d 11 (by decide) (by decide) (by decide) (by decide) (by decide) (by decide)) (dm2 33 (by decide) (by decide)) (dm1 121 (by decide) (by decide) (by decide) (by decide) (by decide) (by decide)), of_of tn.2.2.1 (d 12 (by decide) (by decide) (by decide) (by decide) (by decide) (by decide)) (d 13 (by decide) (by decide) (by decide) (by decide) (by decide) (by decide)) (dm2 35 (by decide) (by decide)) (dm1 122 (by decide) (by decide) (by decide) (by decide) (by decide) (by decide)), by rw [d 14 (by decide) (by decide) (by decide) (by decide) (by decide) (by decide), dm2 37 (by decide) (by decide)]; exact tn.2.2.2⟩
  refine ⟨by omega, fun x hx => ?_, ?_, ⟨H, N, M, u, s, Ls, tn_one c m tg, pk_one c m pk⟩, fun nz => tni_st t hk i (fun x hx => ?_) ?_ ?_ ?_ nz⟩
  · rw [c x (by rcases hx with z | z | ⟨e, z1, z2⟩ <;> omega)]
    exact qa x hx
  · rw [c 69 (by decide), d 69 (by decide) (by decide) (by decide) (by decide) (by decide) (by decide)]
    exact t.2.2.1
  · rw [c x (by omega), d x (by omega) (by omega) (by omega) (by omega) (by omega) (by omega)]
  · rw [m 104 (by decide), dm2 72 (by decide) (by decide), m72]
  · rw [m 104 (by decide), dm2 5 (by decide) (by decide), m5]
  · rw [m 148 (by decide), dm1 148 (by decide) (by decide) (by decide) (by decide) (by decide) (by decide), m148]
/-- nothing was done -/
theorem twn_id {k : Nat} {h h1 : PH} (t : TWN k h) (hk : k < 512) (e : h1 = h) : TWN (k + 1) (up h1 104 0 0) := by
  subst e
  exact twn_fr (Nat.le_succ k) hk (fun x hx => up_cell (by omega)) ⟨fun j hj => up_oj (by omega), fun j _ => up_oc (by decide), fun x hx => up_cell (by omega)⟩ t
theorem tw_quarters (k : Nat) (a1 : Int32) (h : PH) (i : IM h) (t : TWN k h) (hk : k < 512) {rX rm : Int32} {h1 h2 : PH} (e1 : mX_quarters a1 h = some (rX, h1)) (e2 : mm_quarters a1 h1 = some (rm, h2)) (cs : CS h h1 h2) : TWN (k + 1) h2 ∧ rX = rm := by
  have xx := cs.2.2.2.1
  have ss := cs.2.2.2.2
  obtain ⟨t1, t2, t3, ⟨H, N, M, u, s, Ls, t4, t5⟩, t6⟩ := id t
  have tt := tn_in xx t4
  have pp := pkt_in xx t5
  have c0 : ∀ (z : Option (Int32 × PH)), ck 0 115 z = z := fun z => ck_nI (i := 0) (by decide) (by decide)
  unfold mX_quarters at e1
  unfold mm_quarters at e2
  rw [lt_e] at e2
  by_cases f : 1 ≤ a1 ∧ a1 ≤ 60
  · rw [within_y f, bd_e, if_neg no10] at e1
    rw [isIn_y f, bd_e, if_neg no10, c0, show ix (0 : Int32) = 0 from rfl] at e2
    obtain ⟨P, P1, P2, eP⟩ := nat_of (rng_of (x := 1) (y := 60) rfl rfl f) (by decide)
    subst eP
    obtain ⟨Q, Q1, Q2, eQ⟩ := nat_of (t2 1 (Or.inl rfl)) (by decide)
    have e6 : up h1 104 0 0 105 0 = h 1 6 := (tt.1.1.2.2.2.1 6 (by decide) (by decide)).symm
    rw [e6, eQ, nI_add] at e2
    rw [eQ, nI_add] at e1
    by_cases g : Q + P ≤ 9999
    · have g' : nI (Q + P) ≤ (9999 : Int32) := nI_le (b := 9999) g (by omega)
      rw [if_pos g'] at e1 e2
      obtain ⟨v', gc', gm', q1, q2, q3, ⟨u', s', q4⟩, q5, q6, q7⟩ := qt_loop (hc := h) (hm := up h1 104 0 0) tt.2.1 tt.2.2.1 (Q := Q) g (by omega) (b := 1000 * k) (by omega) FU 0 0 h (up h1 104 0 0) (by unfold FU; omega) (Nat.zero_le _) tt.1 ⟨u, s, pp⟩ t2 eQ (fun _ _ _ _ _ _ _ => rfl) ⟨fun _ _ _ _ _ _ _ => rfl, fun _ _ => rfl⟩
      rw [nI_0] at q1 q2
      rw [q1] at e1
      rw [q2] at e2
      cases e1
      cases e2
      exact ⟨twn_dd t hk i.1 tt (rt_mono q3 (by omega) (by omega)) (pk_mono q4 (by omega) (by omega)) q5 q6 q7.1 (fun j _ j3 => q7.2 j j3) (by rw [up_cell (by decide), xx 148 (by decide)]) (by rw [up_oj (by decide), xx 104 (by decide)]) (by rw [up_oj (by decide), xx 104 (by decide)]) ss (fun _ _ => rfl), rfl⟩
    · have g' : ¬ nI (Q + P) ≤ (9999 : Int32) := nI_ge (a := 9999) (by omega) (by omega)
      rw [if_neg g'] at e1 e2
      cases e1
      cases e2
      exact ⟨twn_id t hk rfl, rfl⟩
  · rw [within_n f, bd_e, if_pos rfl] at e1
    rw [isIn_n f, bd_e, if_pos rfl] at e2
    cases e1
    cases e2
    exact ⟨twn_id t hk rfl, rfl⟩
theorem tw_act (k : Nat) (a1 a2 a3 : Int32) (h : PH) (i : IM h) (t : TWN k h) (hk : k < 512) {rX rm : Int32} {h1 h2 : PH} (e1 : mX_act a1 a2 a3 h = some (rX, h1)) (e2 : mm_act a1 a2 a3 h1 = some (rm, h2)) (cs : CS h h1 h2) : TWN (k + 1) h2 ∧ rX = rm := by
  have xx := cs.2.2.2.1
  have ss := cs.2.2.2.2
  obtain ⟨t1, t2, t3, ⟨H, N, M, u, s, Ls, t4, t5⟩, t6⟩ := id t
  have tt := tn_in xx t4
  have pp := pkt_in xx t5
  obtain ⟨x, x1, x2, x3⟩ := ca_sim tt.1.1 a1 a2 a3
  unfold mX_act at e1
  unfold mm_act at e2
  rw [x1, bd_e] at e1
  rw [lt_e, x2, bd_e] at e2
  rcases x3 with x0 | ⟨x0, ak⟩
  · rw [if_pos x0] at e1 e2
    cases e1
    cases e2
    exact ⟨twn_id t hk rfl, rfl⟩
  · have x0' : ¬ x = 0 := by rw [x0]; exact no10
    rw [if_neg x0'] at e1 e2
    obtain ⟨g1, m1, u', s', a1', a2', a3', a4, a5, a6, a7, a8⟩ := kp_sim tt.1 pp
    rw [a1', bd_e] at e1
    rw [a2', bd_e] at e2
    obtain ⟨l, l1, l2, l3⟩ := rt_Bn a3'
    have ak' : AK H g1 a1 a2 a3 := by
      unfold AK at ak ⊢
      rw [a5 2 (by decide)]
      exact ak
    obtain ⟨gc, gm, b1, b2, b3, b4, b5, b6⟩ := ac_sim l3 (by omega) ak'
    have p2 := pk_deed a4 l1 l2 b2 b3 b4 (Nat.le_succ _)
    rw [b1, bd_e] at e1
    have e2' := b6 _ rfl
    have e2'' := e2'.symm.trans e2
    cases e1
    cases e2''
    refine ⟨twn_dd t hk i.1 tt (rt_mono (rt_B0 b2) (by omega) (by omega)) (pk_mono p2 (by omega) (by omega)) (qa_d b3 (by rw [b5, a5 1 (by decide)]; exact t2 1 (Or.inl rfl)) (qa_keep pp a1' t2)) ?_ (fun x x1 x2 x3 x4 x5 x6 => by rw [b4 x x2 x4 x5 x6, a7 x x3 x1]) (fun j _ j3 => by rw [b4 104 (by decide) (by decide) (by decide) (by decide), a8 j j3]) (by rw [up_cell (by decide), xx 148 (by decide)]) (by rw [up_oj (by decide), xx 104 (by decide)]) (by rw [up_oj (by decide), xx 104 (by decide)]) ss (fun _ _ => rfl), rfl⟩
    intro x x1 x2 x3 x4 x5 x6
    rw [b3 x x1 x2 x3 x4 (by omega) (by omega) (by omega)]
    rcases x6 with y | y
    · exact a5 x y
    · exact a6 x y
theorem tw_undo (k : Nat) (h : PH) (i : IM h) (t : TWN k h) (hk : k < 512) {rX rm : Int32} {h1 h2 : PH} (e1 : mX_undo h = some (rX, h1)) (e2 : mm_undo h1 = some (rm, h2)) (cs : CS h h1 h2) : TWN (k + 1) h2 ∧ rX = rm := by
  have xx := cs.2.2.2.1
  have ss := cs.2.2.2.2
  obtain ⟨t1, t2, t3, ⟨H, N, M, u, s, Ls, t4, t5⟩, t6⟩ := id t
  have tt : TNt H N M (1000 * k) Ls h h1 := tn_tr t4 (fun _ _ => rfl) (fun j _ => by rw [xx 104 (by decide)]) (fun j _ => by rw [xx 105 (by decide)]) (fun x hx => xx x (by omega))
  have pp : PK H (1000 * k) Ls u s h h1 := pk_tr t5 (fun _ _ => rfl) (fun j _ => by rw [xx 104 (by decide)]) (fun x hx => xx x (by omega))
  obtain ⟨x, gc, gm, u', b1, b2, b3, b4, b5, b6, b7, b8⟩ := un_sim tt.1 pp
  rw [b1] at e1
  rw [b2] at e2
  cases e1
  cases e2
  exact ⟨twn_dd t hk i.1 tt (rt_mono b3 (by omega) (by omega)) (pk_mono b4 (by omega) (by omega)) (b8 t2) b5 (fun x x1 x2 _ _ _ _ => b6 x x1 x2) b7 (xx 148 (by decide)) (by rw [xx 104 (by decide)]) (by rw [xx 104 (by decide)]) ss (fun _ _ => rfl), rfl⟩
end
section
/-! IN THOUGHT: goes and stands leave the town as it was, on both sides -/
theorem gl_c (p1 p2 : Int32) (k0 : PH → Option (Int32 × PH)) (hk : ∀ g r, k0 g = some r → r.2 = g) : ∀ (n : Nat) (v : Int32) (hv : PH) (r : Int32 × PH), mX_goes_L34 p1 p2 k0 n v hv = some r → Fdt r.2 hv := by
  intro n
  induction n with
  | zero => intro v hv r hm; cases hm
  | succ n ih =>
    intro v hv r hm
    unfold mX_goes_L34 at hm
    rcases ite_or hm with ⟨hc, hm⟩ | ⟨hc, hm⟩
    · rw [hk _ _ hm]; exact fd_r _
    · obtain ⟨r4, h5, he, hm⟩ := bd2_s hm
      exact fd_tr (fdS_pass 69 _ rfl he) (ih _ _ _ hm)
theorem go_c (p1 p2 : Int32) (h : PH) (e : h 69 3 = 0) {r : Int32} {g : PH} (hm : mX_goes p1 p2 h = some (r, g)) : CCt h g := by
  have f := fpX_goes p1 p2 h hm
  have fd : g 16 = h 16 ∧ g 17 = h 17 := by
    unfold mX_goes at hm
    obtain ⟨r1, -, hm⟩ := bd_s hm
    rcases ite_or hm with ⟨hc, hm⟩ | ⟨hc, hm⟩
    · cases hm; exact ⟨rfl, rfl⟩
    · obtain ⟨r2, -, hm⟩ := bd_s hm
      rcases ite_or hm with ⟨hc, hm⟩ | ⟨hc, hm⟩
      · cases hm; exact ⟨rfl, rfl⟩
      · obtain ⟨h3, he, hm⟩ := bd_s hm
        have f3 := fd_fr (fd_r h) (fpB_copyFrom _ _ _ he) (by unfold FPdB_copyFrom; decide)
        have f4 := gl_c p1 p2 _ (fun q r hq => by
          rcases ite_or hq with ⟨_, hq⟩ | ⟨_, hq⟩
          · cases hq; rfl
          · rcases ite_or hq with ⟨_, hq⟩ | ⟨_, hq⟩
            · obtain ⟨_, -, hq⟩ := bd_s hq
              cases hq; rfl
            · rcases ite_or hq with ⟨_, hq⟩ | ⟨_, hq⟩
              · obtain ⟨_, -, hq⟩ := bd_s hq
                cases hq; rfl
              · obtain ⟨_, -, hq⟩ := bd_s hq
                cases hq; rfl) _ _ _ _ hm
        exact (fd_tr f3 f4).2 e
  intro x hx
  by_cases z : x = 16
  · rw [z]; exact fd.1
  · by_cases z2 : x = 17
    · rw [z2]; exact fd.2
    · refine f x ?_
      rw [show FPdX_goes p1 p2 = [4, 3, 3, 4, 17, 16, 34, 36, 35] from rfl]
      simp only [List.mem_cons, List.not_mem_nil, or_false]
      omega
theorem sl_c (p1 : Int32) : ∀ (n : Nat) (v : Int32) (hv : PH) (r : Int32 × PH), mX_stands_L40 p1 n v hv = some r → Fdt r.2 hv := by
  intro n
  induction n with
  | zero => intro v hv r hm; cases hm
  | succ n ih =>
    intro v hv r hm
    unfold mX_stands_L40 at hm
    rcases ite_or hm with ⟨hc, hm⟩ | ⟨hc, hm⟩
    · cases hm; exact fd_r _
    · obtain ⟨r4, h5, he, hm⟩ := bd2_s hm
      have f := fdS_pass 69 _ rfl he
      obtain ⟨r6, -, hm⟩ := bd_s hm
      rcases ite_or hm with ⟨hc, hm⟩ | ⟨hc, hm⟩
      · cases hm; exact f
      · exact fd_tr f (ih _ _ _ hm)
theorem so_c (p1 : Int32) (h : PH) (e : h 69 3 = 0) {r : Int32} {g : PH} (hm : mX_stands p1 h = some (r, g)) : CCt h g := by
  have f := fpX_stands p1 h hm
  have fd : g 16 = h 16 ∧ g 17 = h 17 := by
    unfold mX_stands at hm
    obtain ⟨r1, -, hm⟩ := bd_s hm
    rcases ite_or hm with ⟨hc, hm⟩ | ⟨hc, hm⟩
    · cases hm; exact ⟨rfl, rfl⟩
    · obtain ⟨r2, -, hm⟩ := bd_s hm
      rcases ite_or hm with ⟨hc, hm⟩ | ⟨hc, hm⟩
      · cases hm; exact ⟨rfl, rfl⟩
      · obtain ⟨h3, he, hm⟩ := bd_s hm
        have f3 := fd_fr (fd_r h) (fpB_copyFrom _ _ _ he) (by unfold FPdB_copyFrom; decide)
        exact (fd_tr f3 (sl_c p1 _ _ _ _ hm)).2 e
  intro x hx
  by_cases z : x = 16
  · rw [z]; exact fd.1
  · by_cases z2 : x = 17
    · rw [z2]; exact fd.2
    · refine f x ?_
      rw [show FPdX_stands p1 = [4, 3, 3, 4, 17, 16, 34, 36, 35] from rfl]
      simp only [List.mem_cons, List.not_mem_nil, or_false]
      omega
/-- the model thinks: now is laid aside, and back -/
theorem th_2 : ∀ (n x : Nat) (gm : PH), 115 < n + x → x ≤ 115 → ∃ g, (∀ k0, mm_thinks_L2 k0 n (nI x) gm = k0 g) ∧ (∀ b, b ≠ 107 → g b = gm b) ∧ (∀ y, x ≤ y → y < 115 → g 107 y = gm 105 y) ∧ ∀ y, y < x → g 107 y = gm 107 y := by
  intro n
  induction n with
  | zero => intro x gm h1 h2; omega
  | succ n ih =>
    intro x gm h1 h2
    by_cases c : x = 115
    · subst c
      exact ⟨gm, fun k0 => by rw [mm_thinks_L2, if_pos (by decide)], fun _ _ => rfl, fun y y1 y2 => by omega, fun _ _ => rfl⟩
    · have hx : x < 115 := by omega
      obtain ⟨g, a1, a2, a3, a4⟩ := ih (x + 1) (up gm 107 x (gm 105 x)) (by omega) (by omega)
      refine ⟨g, fun k0 => ?_, fun b hb => by rw [a2 b hb, up_cell hb], fun y y1 y2 => ?_, fun y hy => by rw [a4 y (by omega), up_oj (by omega)]⟩
      · rw [mm_thinks_L2, if_neg (show ¬ (115 : Int32) ≤ nI x from nI_ge (b := 115) hx (by decide)), ck_nI hx (by decide), ck_nI hx (by decide), lt_e, show ix (nI x) = x from nI_clamp (by omega), nI_1, a1]
      · by_cases z : y = x
        · rw [z, a4 _ (by omega), up_same]
        · rw [a3 y (by omega) y2, up_oc (by decide)]
theorem en_2 : ∀ (n x : Nat) (gm : PH), 115 < n + x → x ≤ 115 → ∃ g, (∀ k0, mm_endsThought_L2 k0 n (nI x) gm = k0 g) ∧ (∀ b, b ≠ 105 → g b = gm b) ∧ (∀ y, x ≤ y → y < 115 → g 105 y = gm 107 y) ∧ ∀ y, y < x → g 105 y = gm 105 y := by
  intro n
  induction n with
  | zero => intro x gm h1 h2; omega
  | succ n ih =>
    intro x gm h1 h2
    by_cases c : x = 115
    · subst c
      exact ⟨gm, fun k0 => by rw [mm_endsThought_L2, if_pos (by decide)], fun _ _ => rfl, fun y y1 y2 => by omega, fun _ _ => rfl⟩
    · have hx : x < 115 := by omega
      obtain ⟨g, a1, a2, a3, a4⟩ := ih (x + 1) (up gm 105 x (gm 107 x)) (by omega) (by omega)
      refine ⟨g, fun k0 => ?_, fun b hb => by rw [a2 b hb, up_cell hb], fun y y1 y2 => ?_, fun y hy => by rw [a4 y (by omega), up_oj (by omega)]⟩
      · rw [mm_endsThought_L2, if_neg (show ¬ (115 : Int32) ≤ nI x from nI_ge (b := 115) hx (by decide)), ck_nI hx (by decide), ck_nI hx (by decide), lt_e, show ix (nI x) = x from nI_clamp (by omega), nI_1, a1]
      · by_cases z : y = x
        · rw [z, a4 _ (by omega), up_same]
        · rw [a3 y (by omega) y2, up_oc (by decide)]
theorem th_m (h : PH) : ∃ g, mm_thinks h = some g ∧ (∀ b, b ≠ 107 → b ≠ 104 → g b = h b) ∧ (∀ j, j ≠ 5 → g 104 j = h 104 j) ∧ g 104 5 = 1 ∧ ∀ y, y < 115 → g 107 y = h 105 y := by
  obtain ⟨g, a1, a2, a3, _⟩ := th_2 FU 0 h (by unfold FU; omega) (by decide)
  rw [nI_0] at a1
  unfold mm_thinks
  rw [a1, lt_e]
  exact ⟨_, rfl, fun b b1 b2 => by rw [up_cell b2, a2 b b1], fun j hj => by rw [up_oj hj, a2 104 (by decide)], up_same, fun y hy => by rw [up_oc (by decide), a3 y (Nat.zero_le _) hy]⟩
theorem en_m (h : PH) : ∃ g, mm_endsThought h = some g ∧ (∀ b, b ≠ 105 → b ≠ 104 → g b = h b) ∧ (∀ j, j ≠ 5 → g 104 j = h 104 j) ∧ g 104 5 = 0 ∧ ∀ y, y < 115 → g 105 y = h 107 y := by
  obtain ⟨g, a1, a2, a3, _⟩ := en_2 FU 0 h (by unfold FU; omega) (by decide)
  rw [nI_0] at a1
  unfold mm_endsThought
  rw [a1, lt_e]
  exact ⟨_, rfl, fun b b1 b2 => by rw [up_cell b2, a2 b b1], fun j hj => by rw [up_oj hj, a2 104 (by decide)], up_same, fun y hy => by rw [up_oc (by decide), a3 y (Nat.zero_le _) hy]⟩
/-- what is thought between is forgotten -/
def TKt (h g : PH) : Prop := Fqt g h ∧ g 107 = h 107
theorem tk_gb {h : PH} {r : Int32} {g : PH} (e : mm_goesBy h = some (r, g)) : TKt h g := ⟨fqm_goesBy h trivial e, funext fun j => fkm_goesBy h e 107 j (show kk 107 j ∉ FKdm_goesBy from (by decide : 107 ∉ FKdm_goesBy))⟩
theorem tk_t {h g f : PH} (a : TKt h g) (b : TKt g f) : TKt h f := ⟨fq_tr a.1 b.1, b.2.trans a.2⟩
theorem tk_r (h : PH) : TKt h h := ⟨fq_r h, rfl⟩
/-- from thinking to the end of thought -/
theorem tk_cm {h g1 g2 g3 : PH} {T : List Nat} (e1 : mm_thinks h = some g1) (k : TKt g1 g2) (e3 : mm_endsThought g2 = some g3) (z : h 104 5 = 0) (f : Fk T g3 h) (hT : T = [1000, 1005, 107, 105, 110, 124, 125]) : CM h g3 := by
  obtain ⟨a, a1, a2, a3, a4, a5⟩ := th_m h
  obtain ⟨b, b1, b2, b3, b4, b5⟩ := en_m g2
  rw [a1] at e1
  cases e1
  rw [b1] at e3
  cases e3
  subst hT
  refine ⟨fun j hj => ?_, fun j hj => ?_, fun x hx => ?_⟩
  · by_cases j5 : j = 5
    · rw [j5, b4, z]
    · exact f 104 j (by
        rw [show kk 104 j = 1000 + j from rfl]
        simp only [List.mem_cons, List.not_mem_nil, or_false]
        omega)
  · rw [b5 j hj, k.2, a5 j hj]
  · by_cases x10 : x = 110
    · subst x10
      rw [b2 110 (by decide) (by decide), k.1.2 (by rw [a4]; decide), a2 110 (by decide) (by decide)]
    · funext j
      exact f x j (by
        unfold kk
        rw [if_neg (by omega)]
        simp only [List.mem_cons, List.not_mem_nil, or_false]
        omega)
theorem gl_m (p1 p2 : Int32) (k0 : PH → Option (Int32 × PH)) : ∀ (n : Nat) (v : Int32) (hv : PH) (r : Int32 × PH), mm_goes_L34 p1 p2 k0 n v hv = some r → ∃ g, TKt hv g ∧ k0 g = some r := by
  intro n
  induction n with
  | zero => intro v hv r hm; cases hm
  | succ n ih =>
    intro v hv r hm
    unfold mm_goes_L34 at hm
    rcases ite_or hm with ⟨hc, hm⟩ | ⟨hc, hm⟩
    · exact ⟨hv, tk_r hv, hm⟩
    · obtain ⟨r5, h6, he, hm⟩ := bd2_s hm
      obtain ⟨g, g1, g2⟩ := ih _ _ _ hm
      exact ⟨g, tk_t (tk_gb he) g1, g2⟩
theorem sl_m (p1 : Int32) (k0 : Int32 → PH → Option (Int32 × PH)) : ∀ (n : Nat) (v : Int32) (hv : PH) (r : Int32 × PH), mm_stands_L22 p1 k0 n v hv = some r → ∃ x g, TKt hv g ∧ k0 x g = some r := by
  intro n
  induction n with
  | zero => intro v hv r hm; cases hm
  | succ n ih =>
    intro v hv r hm
    unfold mm_stands_L22 at hm
    obtain ⟨r4, -, hm⟩ := bd_s hm
    rcases ite_or hm with ⟨hc, hm⟩ | ⟨hc, hm⟩
    · exact ⟨v, hv, tk_r hv, hm⟩
    · rcases ite_or hm with ⟨hc, hm⟩ | ⟨hc, hm⟩
      · exact ⟨v, hv, tk_r hv, hm⟩
      · obtain ⟨r5, h6, he, hm⟩ := bd2_s hm
        obtain ⟨x7, -, hm⟩ := lt_some hm
        obtain ⟨x, g, g1, g2⟩ := ih _ _ _ hm
        exact ⟨x, g, tk_t (tk_gb he) g1, g2⟩
theorem cm_0 {h g : PH} (m : CM (up h 104 0 0) g) : CM h g := ⟨fun j hj => by rw [m.1 j hj, up_oj (by omega)], fun j hj => by rw [m.2.1 j hj, up_oc (by decide)], fun x hx => by rw [m.2.2 x hx, up_cell (by omega)]⟩
theorem fk_up {T : List Nat} {g h : PH} (f : Fk T g h) (hT : 1000 ∈ T) : Fk T g (up h 104 0 0) := fun b j hb => by
  rw [f b j hb]
  by_cases z1 : b = 104
  · subst z1
    rw [up_oj (fun y => hb (by rw [y]; exact hT))]
  · rw [up_oc z1]
theorem go_m (p1 p2 : Int32) (h : PH) (z : h 104 5 = 0) {r : Int32} {g : PH} (hm : mm_goes p1 p2 h = some (r, g)) : CM h g := by
  have f := fk_up (fkm_goes p1 p2 h hm) (by decide : 1000 ∈ FKdm_goes 0 0)
  have z' : up h 104 0 0 104 5 = 0 := by rw [up_oj (by decide)]; exact z
  have id' : CM h (up h 104 0 0) := ⟨fun j hj => up_oj (by omega), fun j _ => up_oc (by decide), fun x hx => up_cell (by omega)⟩
  unfold mm_goes at hm
  rw [lt_e] at hm
  obtain ⟨r2, -, hm⟩ := bd_s hm
  rcases ite_or hm with ⟨hc, hm⟩ | ⟨hc, hm⟩
  · cases hm; exact id'
  · obtain ⟨r3, -, hm⟩ := bd_s hm
    rcases ite_or hm with ⟨hc, hm⟩ | ⟨hc, hm⟩
    · cases hm; exact id'
    · obtain ⟨h4, he, hm⟩ := bd_s hm
      obtain ⟨h7, k7, hm⟩ := gl_m p1 p2 _ _ _ _ _ hm
      have fin : ∀ x : Int32, (bd (mm_endsThought h7) fun h10 => some (x, h10)) = some (r, g) → CM h g := fun x hx => by
        obtain ⟨h10, he10, hx⟩ := bd_s hx
        cases hx
        exact cm_0 (tk_cm he k7 he10 z' f rfl)
      rw [jn1_e] at hm
      rcases ite_or hm with ⟨hc, hm⟩ | ⟨hc, hm⟩
      · obtain ⟨-, hm⟩ := ck_s hm
        exact fin _ hm
      · rcases ite_or hm with ⟨hc, hm⟩ | ⟨hc, hm⟩
        · obtain ⟨r11, -, hm⟩ := bd_s hm
          obtain ⟨r12, -, hm⟩ := bd_s hm
          exact fin _ hm
        · rw [jn1_e] at hm
          rcases ite_or hm with ⟨hc, hm⟩ | ⟨hc, hm⟩
          · obtain ⟨r15, -, hm⟩ := bd_s hm
            exact fin _ hm
          · obtain ⟨r15, -, hm⟩ := bd_s hm
            exact fin _ hm
theorem so_m (p1 : Int32) (h : PH) (z : h 104 5 = 0) {r : Int32} {g : PH} (hm : mm_stands p1 h = some (r, g)) : CM h g := by
  have f := fk_up (fkm_stands p1 h hm) (by decide : 1000 ∈ FKdm_stands 0)
  have z' : up h 104 0 0 104 5 = 0 := by rw [up_oj (by decide)]; exact z
  have id' : CM h (up h 104 0 0) := ⟨fun j hj => up_oj (by omega), fun j _ => up_oc (by decide), fun x hx => up_cell (by omega)⟩
  unfold mm_stands at hm
  rw [lt_e] at hm
  obtain ⟨r2, -, hm⟩ := bd_s hm
  rcases ite_or hm with ⟨hc, hm⟩ | ⟨hc, hm⟩
  · cases hm; exact id'
  · obtain ⟨h3, he, hm⟩ := bd_s hm
    obtain ⟨x, h9, k9, hm⟩ := sl_m p1 _ _ _ _ _ hm
    obtain ⟨h10, he10, hm⟩ := bd_s hm
    rcases ite_or hm with ⟨hc, hm⟩ | ⟨hc, hm⟩
    · cases hm; exact cm_0 (tk_cm he k9 he10 z' f rfl)
    · cases hm; exact cm_0 (tk_cm he k9 he10 z' f rfl)
theorem cm_x {h h1 h2 : PH} (x : ∀ b, 104 ≤ b → h1 b = h b) (m : CM h1 h2) : CM h h2 := ⟨fun j hj => by rw [m.1 j hj, x 104 (by decide)], fun j hj => by rw [m.2.1 j hj, x 105 (by decide)], fun b hb => by rw [m.2.2 b hb, x b (by omega)]⟩
theorem cc_x {h h1 h2 : PH} (x : ∀ b, b < 104 → h2 b = h1 b) (c : CCt h h1) : CCt h h2 := fun b hb => by rw [x b (by omega)]; exact c b hb
theorem tw_goes (k : Nat) (a1 a2 : Int32) (h : PH) (t : TWN k h) (hk : k < 512) {rX rm : Int32} {h1 h2 : PH} (e1 : mX_goes a1 a2 h = some (rX, h1)) (e2 : mm_goes a1 a2 h1 = some (rm, h2)) (cs : CS h h1 h2) : TWN (k + 1) h2 := by
  obtain ⟨t1, t2, t3, ⟨H, N, M, u, s, Ls, t4, t5⟩, t6⟩ := id t
  exact twn_fr (Nat.le_succ k) hk (cc_x cs.2.2.2.2 (go_c a1 a2 h t3 e1)) (cm_x cs.2.2.2.1 (go_m a1 a2 h1 (by rw [cs.2.2.2.1 104 (by decide)]; exact t4.1.2.2.2.2.2.1) e2)) t
theorem tw_stands (k : Nat) (a1 : Int32) (h : PH) (t : TWN k h) (hk : k < 512) {rX rm : Int32} {h1 h2 : PH} (e1 : mX_stands a1 h = some (rX, h1)) (e2 : mm_stands a1 h1 = some (rm, h2)) (cs : CS h h1 h2) : TWN (k + 1) h2 := by
  obtain ⟨t1, t2, t3, ⟨H, N, M, u, s, Ls, t4, t5⟩, t6⟩ := id t
  exact twn_fr (Nat.le_succ k) hk (cc_x cs.2.2.2.2 (so_c a1 h t3 e1)) (cm_x cs.2.2.2.1 (so_m a1 h1 (by rw [cs.2.2.2.1 104 (by decide)]; exact t4.1.2.2.2.2.2.1) e2)) t
end
