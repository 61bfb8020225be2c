/-! IN THOUGHT the book stays as it was. Printed by wip/gen/fth.py -/
def Fdt (h g : PH) : Prop := h 69 3 = g 69 3 ∧ (g 69 3 = 0 → h 16 = g 16 ∧ h 17 = g 17)
theorem fd_r (h : PH) : Fdt h h := ⟨rfl, fun _ => ⟨rfl, rfl⟩⟩
theorem fd_tr {h k g : PH} (f : Fdt h g) (e : Fdt k h) : Fdt k g := ⟨e.1.trans f.1, fun z => by
  obtain ⟨a, b⟩ := f.2 z
  obtain ⟨c, d⟩ := e.2 (by rw [f.1]; exact z)
  exact ⟨c.trans a, d.trans b⟩⟩
theorem fd_fr {T : List Nat} {h k g : PH} (f : Fdt h g) (e : Fr T k h) (n : 69 ∉ T ∧ 16 ∉ T ∧ 17 ∉ T) : Fdt k g := fd_tr f ⟨by rw [e 69 n.1], fun _ => ⟨e 16 n.2.1, e 17 n.2.2⟩⟩
theorem up_fd {h g : PH} {a j : Nat} {x : Int32} (f : Fdt h g) (n : a ≠ 69 ∧ a ≠ 16 ∧ a ≠ 17) : Fdt (up h a j x) g := fd_tr f ⟨up_oc (Ne.symm n.1), fun _ => ⟨up_cell (Ne.symm n.2.1), up_cell (Ne.symm n.2.2)⟩⟩
theorem fdS_note (a0 : Nat) (p1 : Int32) (p2 : Int32) (p3 : Int32) (h0 : PH) {r : PH} (hS : a0 = 69) (hm : mS_note a0 p1 p2 p3 h0 = some r) : Fdt r h0 := by
  subst hS
  have f := fpS_note 69 p1 p2 p3 h0 hm
  refine ⟨by rw [f 69 (by unfold FPdS_note; decide)], fun z => ?_⟩
  unfold mS_note at hm
  rw [if_pos z] at hm
  cases hm
  exact ⟨rfl, rfl⟩
theorem fdS_moveLodgers (a0 : Nat) (p1 : Int32) (p2 : Int32) (h0 : PH) {r : PH} (hS : a0 = 69) (hm : mS_moveLodgers a0 p1 p2 h0 = some r) : Fdt r h0 := by
  generalize hge : h0 = g at ⊢
  have f : Fdt h0 g := by rw [hge]; exact fd_r _
  unfold mS_moveLodgers at hm
  obtain ⟨r1, -, hm⟩ := bd_s hm
  obtain ⟨h2, he, hm⟩ := bd_s hm
  replace f := fd_fr f (fpB_write _ _ _ _ _ he) (by subst hS; unfold FPdB_write; decide)
  refine v_j1 (fun (h4 : PH) => Fdt h4 g → Fdt r g) hm (fun h4 hm f => ?_) (fun j3 kj3 hm => ?_)
  · obtain ⟨h5, he, hm⟩ := bd_s hm
    replace f := fd_tr f (fdS_note _ _ _ _ _ hS he)
    cases hm
    exact f
  · rcases ite_or hm with ⟨hc, hm⟩ | ⟨hc, hm⟩
    · exact kj3 _ hm f
    · obtain ⟨r6, -, hm⟩ := bd_s hm
      obtain ⟨h7, he, hm⟩ := bd_s hm
      replace f := fd_fr f (fpB_write _ _ _ _ _ he) (by subst hS; unfold FPdB_write; decide)
      exact kj3 _ hm f
theorem fdS_leaveIfFallen (a0 : Nat) (p1 : Int32) (h0 : PH) {r : PH} (hS : a0 = 69) (hm : mS_leaveIfFallen a0 p1 h0 = some r) : Fdt r h0 := by
  generalize hge : h0 = g at ⊢
  have f : Fdt h0 g := by rw [hge]; exact fd_r _
  unfold mS_leaveIfFallen at hm
  obtain ⟨r1, -, hm⟩ := bd_s hm
  rcases ite_or hm with ⟨hc, hm⟩ | ⟨hc, hm⟩
  · obtain ⟨r2, -, hm⟩ := bd_s hm
    rcases ite_or hm with ⟨hc, hm⟩ | ⟨hc, hm⟩
    · obtain ⟨r3, -, hm⟩ := bd_s hm
      obtain ⟨h4, he, hm⟩ := bd_s hm
      replace f := fd_tr f (fdS_moveLodgers _ _ _ _ hS he)
      cases hm
      exact f
    · cases hm
      exact f
  · cases hm
    exact f
theorem fdS_wed (a0 : Nat) (p1 : Int32) (h0 : PH) {r : PH} (hS : a0 = 69) (hm : mS_wed a0 p1 h0 = some r) : Fdt r h0 := by
  generalize hge : h0 = g at ⊢
  have f : Fdt h0 g := by rw [hge]; exact fd_r _
  unfold mS_wed at hm
  obtain ⟨h1, he, hm⟩ := bd_s hm
  replace f := fd_fr f (fpB_write _ _ _ _ _ he) (by subst hS; unfold FPdB_write; decide)
  obtain ⟨r2, -, hm⟩ := bd_s hm
  obtain ⟨r3, h4, he, hm⟩ := bd2_s hm
  replace f := fd_fr f (fpB_thin _ _ _ _ _ he) (by subst hS; unfold FPdB_thin; decide)
  obtain ⟨r5, -, hm⟩ := bd_s hm
  obtain ⟨x6, -, hm⟩ := lt_some hm
  obtain ⟨h7, he, hm⟩ := bd_s hm
  replace f := fd_fr f (fpB_write _ _ _ _ _ he) (by subst hS; unfold FPdB_write; decide)
  obtain ⟨h8, he, hm⟩ := bd_s hm
  replace f := fd_tr f (fdS_note _ _ _ _ _ hS he)
  obtain ⟨h9, he, hm⟩ := bd_s hm
  replace f := fd_tr f (fdS_leaveIfFallen _ _ _ hS he)
  cases hm
  exact f
theorem wd_S_raze_L2 (a0 : Nat) (p1 : Int32) (k0 : PH → Option (PH)) (g : PH) (r : PH) (hS : a0 = 69) (kk0 : ∀ (y0 : PH), k0 y0 = some r → Fdt y0 g → Fdt r g) : ∀ (n : Nat) (v2 : Int32) (hv : PH), mS_raze_L2 a0 p1 k0 n v2 hv = some r → Fdt hv g → Fdt r g := by
  intro n
  induction n with
  | zero => intro v2 hv hm; cases hm
  | succ n ih =>
    intro v2 hv hm f
    unfold mS_raze_L2 at hm
    rcases ite_or hm with ⟨hc, hm⟩ | ⟨hc, hm⟩
    · exact kk0 _ hm f
    · obtain ⟨h1, he, hm⟩ := bd_s hm
      replace f := fd_fr f (fpB_write _ _ _ _ _ he) (by subst hS; unfold FPdB_write; decide)
      exact ih _ _ hm f
theorem fdS_raze (a0 : Nat) (p1 : Int32) (h0 : PH) {r : PH} (hS : a0 = 69) (hm : mS_raze a0 p1 h0 = some r) : Fdt r h0 := by
  generalize hge : h0 = g at ⊢
  have f : Fdt h0 g := by rw [hge]; exact fd_r _
  unfold mS_raze at hm
  refine wd_S_raze_L2 _ _ _ g _ hS (fun h2 hm f => ?_) _ _ _ hm f
  · obtain ⟨h3, he, hm⟩ := bd_s hm
    replace f := fd_tr f (fdS_leaveIfFallen _ _ _ hS he)
    cases hm
    exact f
theorem fdS_officeLine (a0 : Nat) (a1 : Nat) (p2 : Int32) (h0 : PH) {r : PH} (hS : a0 = 69) (hm : mS_officeLine a0 a1 p2 h0 = some r) : Fdt r h0 := by
  generalize hge : h0 = g at ⊢
  have f : Fdt h0 g := by rw [hge]; exact fd_r _
  unfold mS_officeLine at hm
  obtain ⟨r1, -, hm⟩ := bd_s hm
  obtain ⟨r2, -, hm⟩ := bd_s hm
  obtain ⟨r3, -, hm⟩ := bd_s hm
  rcases ite_or hm with ⟨hc, hm⟩ | ⟨hc, hm⟩
  · obtain ⟨r4, -, hm⟩ := bd_s hm
    obtain ⟨h5, he, hm⟩ := bd_s hm
    replace f := fd_fr f (fpB_write _ _ _ _ _ he) (by subst hS; unfold FPdB_write; decide)
    cases hm
    exact f
  · rcases ite_or hm with ⟨hc, hm⟩ | ⟨hc, hm⟩
    · obtain ⟨r6, -, hm⟩ := bd_s hm
      obtain ⟨h7, he, hm⟩ := bd_s hm
      replace f := fd_fr f (fpB_thicken _ _ _ _ _ he) (by subst hS; unfold FPdB_thicken; decide)
      cases hm
      exact f
    · rcases ite_or hm with ⟨hc, hm⟩ | ⟨hc, hm⟩
      · obtain ⟨r8, -, hm⟩ := bd_s hm
        rcases ite_or hm with ⟨hc, hm⟩ | ⟨hc, hm⟩
        · cases hm
          exact f
        · obtain ⟨h9, he, hm⟩ := bd_s hm
          replace f := fd_tr f (fdS_wed _ _ _ hS he)
          cases hm
          exact f
      · obtain ⟨r10, -, hm⟩ := bd_s hm
        rcases ite_or hm with ⟨hc, hm⟩ | ⟨hc, hm⟩
        · cases hm
          exact f
        · obtain ⟨h11, he, hm⟩ := bd_s hm
          replace f := fd_tr f (fdS_raze _ _ _ hS he)
          cases hm
          exact f
theorem fdS_noteIfAny (a0 : Nat) (p1 : Int32) (p2 : Int32) (p3 : Int32) (h0 : PH) {r : PH} (hS : a0 = 69) (hm : mS_noteIfAny a0 p1 p2 p3 h0 = some r) : Fdt r h0 := by
  generalize hge : h0 = g at ⊢
  have f : Fdt h0 g := by rw [hge]; exact fd_r _
  unfold mS_noteIfAny at hm
  rcases ite_or hm with ⟨hc, hm⟩ | ⟨hc, hm⟩
  · cases hm
    exact f
  · obtain ⟨h1, he, hm⟩ := bd_s hm
    replace f := fd_tr f (fdS_note _ _ _ _ _ hS he)
    cases hm
    exact f
theorem wd_S_payRent_L27 (a0 : Nat) (p1 : Int32) (p2 : Int32) (k0 : Int32 → PH → Option (PH)) (g : PH) (r : PH) (hS : a0 = 69) (kk0 : ∀ (y0 : Int32) (y1 : PH), k0 y0 y1 = some r → Fdt y1 g → Fdt r g) : ∀ (n : Nat) (v3 : Int32) (v4 : Int32) (hv : PH), mS_payRent_L27 a0 p1 p2 k0 n v3 v4 hv = some r → Fdt hv g → Fdt r g := by
  intro n
  induction n with
  | zero => intro v3 v4 hv hm; cases hm
  | succ n ih =>
    intro v3 v4 hv hm f
    unfold mS_payRent_L27 at hm
    rcases ite_or hm with ⟨hc, hm⟩ | ⟨hc, hm⟩
    · exact kk0 _ _ hm f
    · obtain ⟨r4, -, hm⟩ := bd_s hm
      rcases ite_or hm with ⟨hc, hm⟩ | ⟨hc, hm⟩
      · exact kk0 _ _ hm f
      · obtain ⟨r5, -, hm⟩ := bd_s hm
        obtain ⟨r6, h7, he, hm⟩ := bd2_s hm
        replace f := fd_fr f (fpB_thin _ _ _ _ _ he) (by subst hS; unfold FPdB_thin; decide)
        obtain ⟨x8, -, hm⟩ := lt_some hm
        exact ih _ _ _ hm f
theorem fdS_payRent (a0 : Nat) (p1 : Int32) (h0 : PH) {r : PH} (hS : a0 = 69) (hm : mS_payRent a0 p1 h0 = some r) : Fdt r h0 := by
  generalize hge : h0 = g at ⊢
  have f : Fdt h0 g := by rw [hge]; exact fd_r _
  unfold mS_payRent at hm
  obtain ⟨r1, -, hm⟩ := bd_s hm
  obtain ⟨r2, h3, he, hm⟩ := bd2_s hm
  replace f := fd_fr f (fpW_tells _ _ _ _ _ he) (by subst hS; unfold FPdW_tells; decide)
  refine wd_S_payRent_L27 _ _ _ _ g _ hS (fun x9 h10 hm f => ?_) _ _ _ _ hm f
  · obtain ⟨h11, e1, hm⟩ := lt_some hm
    replace f : Fdt h11 g := by rw [e1]; exact up_fd f (by subst hS; decide)
    obtain ⟨h12, he, hm⟩ := bd_s hm
    replace f := fd_tr f (fdS_noteIfAny _ _ _ _ _ hS he)
    obtain ⟨x13, -, hm⟩ := lt_some hm
    obtain ⟨r14, -, hm⟩ := bd_s hm
    obtain ⟨h15, he, hm⟩ := bd_s hm
    replace f := fd_fr f (fpB_write _ _ _ _ _ he) (by subst hS; unfold FPdB_write; decide)
    obtain ⟨h16, he, hm⟩ := bd_s hm
    replace f := fd_tr f (fdS_noteIfAny _ _ _ _ _ hS he)
    obtain ⟨h17, he, hm⟩ := bd_s hm
    replace f := fd_tr f (fdS_leaveIfFallen _ _ _ hS he)
    cases hm
    exact f
theorem wd_S_gnaw_L4 (a0 : Nat) (p1 : Int32) (k0 : Int32 → PH → Option (PH)) (g : PH) (r : PH) (hS : a0 = 69) (kk0 : ∀ (y0 : Int32) (y1 : PH), k0 y0 y1 = some r → Fdt y1 g → Fdt r g) : ∀ (n : Nat) (v2 : Int32) (v3 : Int32) (hv : PH), mS_gnaw_L4 a0 p1 k0 n v2 v3 hv = some r → Fdt hv g → Fdt r g := by
  intro n
  induction n with
  | zero => intro v2 v3 hv hm; cases hm
  | succ n ih =>
    intro v2 v3 hv hm f
    unfold mS_gnaw_L4 at hm
    rcases ite_or hm with ⟨hc, hm⟩ | ⟨hc, hm⟩
    · exact kk0 _ _ hm f
    · obtain ⟨r1, -, hm⟩ := bd_s hm
      rcases ite_or hm with ⟨hc, hm⟩ | ⟨hc, hm⟩
      · exact ih _ _ _ hm f
      · obtain ⟨r2, h3, he, hm⟩ := bd2_s hm
        replace f := fd_fr f (fpW_tells _ _ _ _ _ he) (by subst hS; unfold FPdW_tells; decide)
        obtain ⟨r4, h5, he, hm⟩ := bd2_s hm
        replace f := fd_fr f (fpS_ratsGnaw _ _ _ he) (by subst hS; unfold FPdS_ratsGnaw; decide)
        rcases ite_or hm with ⟨hc, hm⟩ | ⟨hc, hm⟩
        · exact ih _ _ _ hm f
        · obtain ⟨r6, h7, he, hm⟩ := bd2_s hm
          replace f := fd_fr f (fpB_thin _ _ _ _ _ he) (by subst hS; unfold FPdB_thin; decide)
          obtain ⟨x8, -, hm⟩ := lt_some hm
          exact ih _ _ _ hm f
theorem fdS_gnaw (a0 : Nat) (p1 : Int32) (h0 : PH) {r : PH} (hS : a0 = 69) (hm : mS_gnaw a0 p1 h0 = some r) : Fdt r h0 := by
  generalize hge : h0 = g at ⊢
  have f : Fdt h0 g := by rw [hge]; exact fd_r _
  unfold mS_gnaw at hm
  refine wd_S_gnaw_L4 _ _ _ g _ hS (fun x9 h10 hm f => ?_) _ _ _ _ hm f
  · obtain ⟨h11, e1, hm⟩ := lt_some hm
    replace f : Fdt h11 g := by rw [e1]; exact up_fd f (by subst hS; decide)
    obtain ⟨h12, he, hm⟩ := bd_s hm
    replace f := fd_tr f (fdS_noteIfAny _ _ _ _ _ hS he)
    cases hm
    exact f
theorem wd_S_melt_L15 (a0 : Nat) (p1 : Int32) (k0 : Int32 → PH → Option (PH)) (g : PH) (r : PH) (hS : a0 = 69) (kk0 : ∀ (y0 : Int32) (y1 : PH), k0 y0 y1 = some r → Fdt y1 g → Fdt r g) : ∀ (n : Nat) (v2 : Int32) (v3 : Int32) (hv : PH), mS_melt_L15 a0 p1 k0 n v2 v3 hv = some r → Fdt hv g → Fdt r g := by
  intro n
  induction n with
  | zero => intro v2 v3 hv hm; cases hm
  | succ n ih =>
    intro v2 v3 hv hm f
    unfold mS_melt_L15 at hm
    rcases ite_or hm with ⟨hc, hm⟩ | ⟨hc, hm⟩
    · exact kk0 _ _ hm f
    · obtain ⟨r1, -, hm⟩ := bd_s hm
      rcases ite_or hm with ⟨hc, hm⟩ | ⟨hc, hm⟩
      · exact ih _ _ _ hm f
      · obtain ⟨r2, h3, he, hm⟩ := bd2_s hm
        replace f := fd_fr f (fpW_tells _ _ _ _ _ he) (by subst hS; unfold FPdW_tells; decide)
        obtain ⟨r4, h5, he, hm⟩ := bd2_s hm
        replace f := fd_fr f (fpB_thin _ _ _ _ _ he) (by subst hS; unfold FPdB_thin; decide)
        obtain ⟨x6, -, hm⟩ := lt_some hm
        exact ih _ _ _ hm f
theorem fdS_melt (a0 : Nat) (p1 : Int32) (h0 : PH) {r : PH} (hS : a0 = 69) (hm : mS_melt a0 p1 h0 = some r) : Fdt r h0 := by
  generalize hge : h0 = g at ⊢
  have f : Fdt h0 g := by rw [hge]; exact fd_r _
  unfold mS_melt at hm
  rcases ite_or hm with ⟨hc, hm⟩ | ⟨hc, hm⟩
  · refine wd_S_melt_L15 _ _ _ g _ hS (fun x7 h8 hm f => ?_) _ _ _ _ hm f
    · obtain ⟨h9, he, hm⟩ := bd_s hm
      replace f := fd_tr f (fdS_noteIfAny _ _ _ _ _ hS he)
      cases hm
      exact f
  · cases hm
    exact f
theorem wd_S_pass_L6 (a0 : Nat) (k0 : PH → Option (Int32 × PH)) (g : PH) (r : Int32 × PH) (hS : a0 = 69) (kk0 : ∀ (y0 : PH), k0 y0 = some r → Fdt y0 g → Fdt r.2 g) : ∀ (n : Nat) (v1 : Int32) (hv : PH), mS_pass_L6 a0 k0 n v1 hv = some r → Fdt hv g → Fdt r.2 g := by
  intro n
  induction n with
  | zero => intro v1 hv hm; cases hm
  | succ n ih =>
    intro v1 hv hm f
    unfold mS_pass_L6 at hm
    rcases ite_or hm with ⟨hc, hm⟩ | ⟨hc, hm⟩
    · exact kk0 _ hm f
    · obtain ⟨r2, -, hm⟩ := bd_s hm
      rcases ite_or hm with ⟨hc, hm⟩ | ⟨hc, hm⟩
      · obtain ⟨h3, he, hm⟩ := bd_s hm
        replace f := fd_tr f (fdS_officeLine _ _ _ _ hS he)
        exact ih _ _ hm f
      · exact ih _ _ hm f
theorem wd_S_pass_L70 (a0 : Nat) (p1 : Int32) (k0 : PH → Option (Int32 × PH)) (g : PH) (r : Int32 × PH) (hS : a0 = 69) (kk0 : ∀ (y0 : PH), k0 y0 = some r → Fdt y0 g → Fdt r.2 g) : ∀ (n : Nat) (v2 : Int32) (hv : PH), mS_pass_L70 a0 p1 k0 n v2 hv = some r → Fdt hv g → Fdt r.2 g := by
  intro n
  induction n with
  | zero => intro v2 hv hm; cases hm
  | succ n ih =>
    intro v2 hv hm f
    unfold mS_pass_L70 at hm
    rcases ite_or hm with ⟨hc, hm⟩ | ⟨hc, hm⟩
    · exact kk0 _ hm f
    · obtain ⟨r6, -, hm⟩ := bd_s hm
      rcases ite_or hm with ⟨hc, hm⟩ | ⟨hc, hm⟩
      · exact ih _ _ hm f
      · obtain ⟨r7, -, hm⟩ := bd_s hm
        rcases ite_or hm with ⟨hc, hm⟩ | ⟨hc, hm⟩
        · exact ih _ _ hm f
        · obtain ⟨h8, he, hm⟩ := bd_s hm
          replace f := fd_tr f (fdS_payRent _ _ _ hS he)
          exact ih _ _ hm f
theorem wd_S_pass_L118 (a0 : Nat) (p1 : Int32) (k0 : PH → Option (Int32 × PH)) (g : PH) (r : Int32 × PH) (hS : a0 = 69) (kk0 : ∀ (y0 : PH), k0 y0 = some r → Fdt y0 g → Fdt r.2 g) : ∀ (n : Nat) (v2 : Int32) (hv : PH), mS_pass_L118 a0 p1 k0 n v2 hv = some r → Fdt hv g → Fdt r.2 g := by
  intro n
  induction n with
  | zero => intro v2 hv hm; cases hm
  | succ n ih =>
    intro v2 hv hm f
    unfold mS_pass_L118 at hm
    rcases ite_or hm with ⟨hc, hm⟩ | ⟨hc, hm⟩
    · exact kk0 _ hm f
    · obtain ⟨h10, he, hm⟩ := bd_s hm
      replace f := fd_tr f (fdS_gnaw _ _ _ hS he)
      exact ih _ _ hm f
theorem wd_S_pass_L142 (a0 : Nat) (p1 : Int32) (k0 : PH → Option (Int32 × PH)) (g : PH) (r : Int32 × PH) (hS : a0 = 69) (kk0 : ∀ (y0 : PH), k0 y0 = some r → Fdt y0 g → Fdt r.2 g) : ∀ (n : Nat) (v2 : Int32) (hv : PH), mS_pass_L142 a0 p1 k0 n v2 hv = some r → Fdt hv g → Fdt r.2 g := by
  intro n
  induction n with
  | zero => intro v2 hv hm; cases hm
  | succ n ih =>
    intro v2 hv hm f
    unfold mS_pass_L142 at hm
    rcases ite_or hm with ⟨hc, hm⟩ | ⟨hc, hm⟩
    · exact kk0 _ hm f
    · obtain ⟨h12, he, hm⟩ := bd_s hm
      replace f := fd_tr f (fdS_melt _ _ _ hS he)
      exact ih _ _ hm f
theorem wd_S_pass_L180 (a0 : Nat) (p2 : Int32) (k0 : PH → Option (Int32 × PH)) (g : PH) (r : Int32 × PH) (hS : a0 = 69) (kk0 : ∀ (y0 : PH), k0 y0 = some r → Fdt y0 g → Fdt r.2 g) : ∀ (n : Nat) (v3 : Int32) (hv : PH), mS_pass_L180 a0 p2 k0 n v3 hv = some r → Fdt hv g → Fdt r.2 g := by
  intro n
  induction n with
  | zero => intro v3 hv hm; cases hm
  | succ n ih =>
    intro v3 hv hm f
    unfold mS_pass_L180 at hm
    rcases ite_or hm with ⟨hc, hm⟩ | ⟨hc, hm⟩
    · exact kk0 _ hm f
    · obtain ⟨h17, he, hm⟩ := bd_s hm
      replace f := fd_tr f (fdS_leaveIfFallen _ _ _ hS he)
      exact ih _ _ hm f
theorem fdS_pass (a0 : Nat) (h0 : PH) {r : Int32 × PH} (hS : a0 = 69) (hm : mS_pass a0 h0 = some r) : Fdt r.2 h0 := by
  generalize hge : h0 = g at ⊢
  have f : Fdt h0 g := by rw [hge]; exact fd_r _
  unfold mS_pass at hm
  obtain ⟨h1, he, hm⟩ := bd_s hm
  replace f := fd_fr f (fpS_weather _ _ he) (by subst hS; unfold FPdS_weather; decide)
  refine wd_S_pass_L6 _ _ g _ hS (fun h4 hm f => ?_) _ _ _ hm f
  · obtain ⟨r5, -, hm⟩ := bd_s hm
    refine wd_S_pass_L70 _ _ _ g _ hS (fun h9 hm f => ?_) _ _ _ hm f
    · refine wd_S_pass_L118 _ _ _ g _ hS (fun h11 hm f => ?_) _ _ _ hm f
      · refine wd_S_pass_L142 _ _ _ g _ hS (fun h13 hm f => ?_) _ _ _ hm f
        · obtain ⟨r14, -, hm⟩ := bd_s hm
          obtain ⟨x15, -, hm⟩ := lt_some hm
          obtain ⟨h16, he, hm⟩ := bd_s hm
          replace f := fd_fr f (fpS_harden _ _ he) (by subst hS; unfold FPdS_harden; decide)
          refine wd_S_pass_L180 _ _ _ g _ hS (fun h18 hm f => ?_) _ _ _ hm f
          · obtain ⟨h19, he, hm⟩ := bd_s hm
            replace f := fd_fr f (fpS_grow _ _ he) (by subst hS; unfold FPdS_grow; decide)
            cases hm
            exact f
def Fqt (h g : PH) : Prop := h 104 5 = g 104 5 ∧ (¬ g 104 5 = 0 → h 110 = g 110)
theorem fq_r (h : PH) : Fqt h h := ⟨rfl, fun _ => rfl⟩
theorem fq_tr {h k g : PH} (f : Fqt h g) (e : Fqt k h) : Fqt k g := ⟨e.1.trans f.1, fun z => (e.2 (by rw [f.1]; exact z)).trans (f.2 z)⟩
theorem fq_fr {T : List Nat} {h k g : PH} (f : Fqt h g) (e : Fk T k h) (n : 1005 ∉ T ∧ 110 ∉ T) : Fqt k g := fq_tr f ⟨e 104 5 n.1, fun _ => funext fun j => e 110 j n.2⟩
theorem up_fq {h g : PH} {a j : Nat} {x : Int32} (f : Fqt h g) (n : a ≠ 104 ∧ a ≠ 110) : Fqt (up h a j x) g := fq_tr f ⟨up_oc (Ne.symm n.1), fun _ => up_cell (Ne.symm n.2)⟩
theorem fqm_notes (p1 : Int32) (p2 : Int32) (p3 : Int32) (h0 : PH) {r : PH} (hS : True) (hm : mm_notes p1 p2 p3 h0 = some r) : Fqt r h0 := by
  have f := fkm_notes p1 p2 p3 h0 hm
  refine ⟨f 104 5 (by unfold FKdm_notes kk; decide), fun z => ?_⟩
  unfold mm_notes at hm
  rw [if_neg z] at hm
  cases hm
  rfl
theorem fqm_lodgersGo (p1 : Int32) (p2 : Int32) (h0 : PH) {r : PH} (hS : True) (hm : mm_lodgersGo p1 p2 h0 = some r) : Fqt r h0 := by
  generalize hge : h0 = g at ⊢
  have f : Fqt h0 g := by rw [hge]; exact fq_r _
  unfold mm_lodgersGo at hm
  obtain ⟨h1, he, hm⟩ := bd_s hm
  replace f := fq_tr f (fqm_notes _ _ _ _ hS he)
  obtain ⟨-, hm⟩ := ck_s hm
  obtain ⟨x2, -, hm⟩ := lt_some hm
  obtain ⟨-, hm⟩ := ck_s hm
  obtain ⟨h3, e1, hm⟩ := lt_some hm
  replace f : Fqt h3 g := by rw [e1]; exact up_fq f (by decide)
  rcases ite_or hm with ⟨hc, hm⟩ | ⟨hc, hm⟩
  · cases hm
    exact f
  · obtain ⟨-, hm⟩ := ck_s hm
    obtain ⟨-, hm⟩ := ck_s hm
    obtain ⟨h4, e1, hm⟩ := lt_some hm
    replace f : Fqt h4 g := by rw [e1]; exact up_fq f (by decide)
    cases hm
    exact f
theorem wq_m_areOut_L30 (p1 : Int32) (h0 : PH) (k0 : Int32 → Option (PH)) (g : PH) (r : PH) (hS : True) (f : Fqt h0 g) (kk0 : ∀ (y0 : Int32), k0 y0 = some r → Fqt r g) : ∀ (n : Nat) (v2 : Int32) (v3 : Int32), mm_areOut_L30 p1 h0 k0 n v2 v3 = some r → Fqt r g := by
  intro n
  induction n with
  | zero => intro v2 v3 hm; cases hm
  | succ n ih =>
    intro v2 v3 hm
    unfold mm_areOut_L30 at hm
    rcases ite_or hm with ⟨hc, hm⟩ | ⟨hc, hm⟩
    · exact kk0 _ hm
    · obtain ⟨-, hm⟩ := ck_s hm
      obtain ⟨r3, -, hm⟩ := bd_s hm
      rcases ite_or hm with ⟨hc, hm⟩ | ⟨hc, hm⟩
      · exact ih _ _ hm
      · obtain ⟨r4, -, hm⟩ := bd_s hm
        rcases ite_or hm with ⟨hc, hm⟩ | ⟨hc, hm⟩
        · exact ih _ _ hm
        · exact ih _ _ hm
theorem fqm_areOut (p1 : Int32) (h0 : PH) {r : PH} (hS : True) (hm : mm_areOut p1 h0 = some r) : Fqt r h0 := by
  generalize hge : h0 = g at ⊢
  have f : Fqt h0 g := by rw [hge]; exact fq_r _
  unfold mm_areOut at hm
  obtain ⟨r1, -, hm⟩ := bd_s hm
  rcases ite_or hm with ⟨hc, hm⟩ | ⟨hc, hm⟩
  · obtain ⟨-, hm⟩ := ck_s hm
    rcases ite_or hm with ⟨hc, hm⟩ | ⟨hc, hm⟩
    · cases hm
      exact f
    · obtain ⟨x2, -, hm⟩ := lt_some hm
      refine wq_m_areOut_L30 _ _ _ g _ hS f (fun x5 hm => ?_) _ _ _ hm
      · obtain ⟨h6, he, hm⟩ := bd_s hm
        replace f := fq_tr f (fqm_lodgersGo _ _ _ hS he)
        cases hm
        exact f
  · cases hm
    exact f
theorem fqm_isWed (p1 : Int32) (h0 : PH) {r : PH} (hS : True) (hm : mm_isWed p1 h0 = some r) : Fqt r h0 := by
  generalize hge : h0 = g at ⊢
  have f : Fqt h0 g := by rw [hge]; exact fq_r _
  unfold mm_isWed at hm
  obtain ⟨r1, -, hm⟩ := bd_s hm
  obtain ⟨-, hm⟩ := ck_s hm
  obtain ⟨h2, e1, hm⟩ := lt_some hm
  replace f : Fqt h2 g := by rw [e1]; exact up_fq f (by decide)
  obtain ⟨r3, -, hm⟩ := bd_s hm
  obtain ⟨h4, he, hm⟩ := bd_s hm
  replace f := fq_fr f (fkm_hasWall _ _ _ _ he) (by unfold FKdm_hasWall; decide)
  obtain ⟨-, hm⟩ := ck_s hm
  obtain ⟨-, hm⟩ := ck_s hm
  obtain ⟨h5, e1, hm⟩ := lt_some hm
  replace f : Fqt h5 g := by rw [e1]; exact up_fq f (by decide)
  obtain ⟨-, hm⟩ := ck_s hm
  obtain ⟨h6, he, hm⟩ := bd_s hm
  replace f := fq_tr f (fqm_notes _ _ _ _ hS he)
  obtain ⟨h7, he, hm⟩ := bd_s hm
  replace f := fq_tr f (fqm_areOut _ _ hS he)
  cases hm
  exact f
theorem wq_m_isRazed_L2 (p1 : Int32) (k0 : PH → Option (PH)) (g : PH) (r : PH) (hS : True) (kk0 : ∀ (y0 : PH), k0 y0 = some r → Fqt y0 g → Fqt r g) : ∀ (n : Nat) (v2 : Int32) (hv : PH), mm_isRazed_L2 p1 k0 n v2 hv = some r → Fqt hv g → Fqt r g := by
  intro n
  induction n with
  | zero => intro v2 hv hm; cases hm
  | succ n ih =>
    intro v2 hv hm f
    unfold mm_isRazed_L2 at hm
    rcases ite_or hm with ⟨hc, hm⟩ | ⟨hc, hm⟩
    · exact kk0 _ hm f
    · obtain ⟨h1, he, hm⟩ := bd_s hm
      replace f := fq_fr f (fkm_hasWall _ _ _ _ he) (by unfold FKdm_hasWall; decide)
      exact ih _ _ hm f
theorem fqm_isRazed (p1 : Int32) (h0 : PH) {r : PH} (hS : True) (hm : mm_isRazed p1 h0 = some r) : Fqt r h0 := by
  generalize hge : h0 = g at ⊢
  have f : Fqt h0 g := by rw [hge]; exact fq_r _
  unfold mm_isRazed at hm
  refine wq_m_isRazed_L2 _ _ g _ hS (fun h2 hm f => ?_) _ _ _ hm f
  · obtain ⟨h3, he, hm⟩ := bd_s hm
    replace f := fq_tr f (fqm_areOut _ _ hS he)
    cases hm
    exact f
theorem fqm_does (p1 : Int32) (h0 : PH) {r : PH} (hS : True) (hm : mm_does p1 h0 = some r) : Fqt r h0 := by
  generalize hge : h0 = g at ⊢
  have f : Fqt h0 g := by rw [hge]; exact fq_r _
  unfold mm_does at hm
  obtain ⟨-, hm⟩ := ck_s hm
  obtain ⟨x1, -, hm⟩ := lt_some hm
  obtain ⟨-, hm⟩ := ck_s hm
  obtain ⟨x2, -, hm⟩ := lt_some hm
  obtain ⟨-, hm⟩ := ck_s hm
  obtain ⟨x3, -, hm⟩ := lt_some hm
  refine v_j1 (fun (h5 : PH) => Fqt h5 g → Fqt r g) hm (fun h5 hm f => ?_) (fun j4 kj4 hm => ?_)
  · refine v_j1 (fun (h7 : PH) => Fqt h7 g → Fqt r g) hm (fun h7 hm f => ?_) (fun j6 kj6 hm => ?_)
    · refine v_j1 (fun (h9 : PH) => Fqt h9 g → Fqt r g) hm (fun h9 hm f => ?_) (fun j8 kj8 hm => ?_)
      · rcases ite_or hm with ⟨hc, hm⟩ | ⟨hc, hm⟩
        · obtain ⟨r10, -, hm⟩ := bd_s hm
          rcases ite_or hm with ⟨hc, hm⟩ | ⟨hc, hm⟩
          · cases hm
            exact f
          · obtain ⟨h11, he, hm⟩ := bd_s hm
            replace f := fq_tr f (fqm_isRazed _ _ hS he)
            cases hm
            exact f
        · cases hm
          exact f
      · rcases ite_or hm with ⟨hc, hm⟩ | ⟨hc, hm⟩
        · obtain ⟨r12, -, hm⟩ := bd_s hm
          rcases ite_or hm with ⟨hc, hm⟩ | ⟨hc, hm⟩
          · exact kj8 _ hm f
          · obtain ⟨h13, he, hm⟩ := bd_s hm
            replace f := fq_tr f (fqm_isWed _ _ hS he)
            exact kj8 _ hm f
        · exact kj8 _ hm f
    · rcases ite_or hm with ⟨hc, hm⟩ | ⟨hc, hm⟩
      · obtain ⟨-, hm⟩ := ck_s hm
        obtain ⟨-, hm⟩ := ck_s hm
        obtain ⟨r14, -, hm⟩ := bd_s hm
        obtain ⟨h15, he, hm⟩ := bd_s hm
        replace f := fq_fr f (fkm_hasWall _ _ _ _ he) (by unfold FKdm_hasWall; decide)
        exact kj6 _ hm f
      · exact kj6 _ hm f
  · rcases ite_or hm with ⟨hc, hm⟩ | ⟨hc, hm⟩
    · obtain ⟨-, hm⟩ := ck_s hm
      obtain ⟨r16, -, hm⟩ := bd_s hm
      obtain ⟨-, hm⟩ := ck_s hm
      obtain ⟨h17, e1, hm⟩ := lt_some hm
      replace f : Fqt h17 g := by rw [e1]; exact up_fq f (by decide)
      exact kj4 _ hm f
    · exact kj4 _ hm f
theorem wq_m_paysRent_L8 (p1 : Int32) (p2 : Int32) (k0 : Int32 → PH → Option (PH)) (g : PH) (r : PH) (hS : True) (kk0 : ∀ (y0 : Int32) (y1 : PH), k0 y0 y1 = some r → Fqt y1 g → Fqt r g) : ∀ (n : Nat) (v3 : Int32) (hv : PH), mm_paysRent_L8 p1 p2 k0 n v3 hv = some r → Fqt hv g → Fqt r g := by
  intro n
  induction n with
  | zero => intro v3 hv hm; cases hm
  | succ n ih =>
    intro v3 hv hm f
    unfold mm_paysRent_L8 at hm
    rcases ite_or hm with ⟨hc, hm⟩ | ⟨hc, hm⟩
    · exact kk0 _ _ hm f
    · obtain ⟨r3, -, hm⟩ := bd_s hm
      rcases ite_or hm with ⟨hc, hm⟩ | ⟨hc, hm⟩
      · exact kk0 _ _ hm f
      · obtain ⟨r4, -, hm⟩ := bd_s hm
        obtain ⟨r5, -, hm⟩ := bd_s hm
        obtain ⟨h6, he, hm⟩ := bd_s hm
        replace f := fq_fr f (fkm_hasWall _ _ _ _ he) (by unfold FKdm_hasWall; decide)
        obtain ⟨x7, -, hm⟩ := lt_some hm
        exact ih _ _ hm f
theorem fqm_paysRent (p1 : Int32) (h0 : PH) {r : PH} (hS : True) (hm : mm_paysRent p1 h0 = some r) : Fqt r h0 := by
  generalize hge : h0 = g at ⊢
  have f : Fqt h0 g := by rw [hge]; exact fq_r _
  unfold mm_paysRent at hm
  obtain ⟨r1, h2, he, hm⟩ := bd2_s hm
  replace f := fq_fr f (fkm_rentOf _ _ he) (by unfold FKdm_rentOf; decide)
  refine wq_m_paysRent_L8 _ _ _ g _ hS (fun x8 h9 hm f => ?_) _ _ _ hm f
  · obtain ⟨-, hm⟩ := ck_s hm
    obtain ⟨-, hm⟩ := ck_s hm
    obtain ⟨h10, e1, hm⟩ := lt_some hm
    replace f : Fqt h10 g := by rw [e1]; exact up_fq f (by decide)
    refine v_j1 (fun (h12 : PH) => Fqt h12 g → Fqt r g) hm (fun h12 hm f => ?_) (fun j11 kj11 hm => ?_)
    · obtain ⟨-, hm⟩ := ck_s hm
      obtain ⟨-, hm⟩ := ck_s hm
      obtain ⟨h13, e1, hm⟩ := lt_some hm
      replace f : Fqt h13 g := by rw [e1]; exact up_fq f (by decide)
      refine v_j1 (fun (h15 : PH) => Fqt h15 g → Fqt r g) hm (fun h15 hm f => ?_) (fun j14 kj14 hm => ?_)
      · obtain ⟨h16, he, hm⟩ := bd_s hm
        replace f := fq_tr f (fqm_areOut _ _ hS he)
        cases hm
        exact f
      · rcases ite_or hm with ⟨hc, hm⟩ | ⟨hc, hm⟩
        · exact kj14 _ hm f
        · obtain ⟨h17, he, hm⟩ := bd_s hm
          replace f := fq_tr f (fqm_notes _ _ _ _ hS he)
          exact kj14 _ hm f
    · rcases ite_or hm with ⟨hc, hm⟩ | ⟨hc, hm⟩
      · exact kj11 _ hm f
      · obtain ⟨h18, he, hm⟩ := bd_s hm
        replace f := fq_tr f (fqm_notes _ _ _ _ hS he)
        exact kj11 _ hm f
theorem wq_m_isGnawed_L4 (p1 : Int32) (k0 : Int32 → PH → Option (PH)) (g : PH) (r : PH) (hS : True) (kk0 : ∀ (y0 : Int32) (y1 : PH), k0 y0 y1 = some r → Fqt y1 g → Fqt r g) : ∀ (n : Nat) (v2 : Int32) (v3 : Int32) (hv : PH), mm_isGnawed_L4 p1 k0 n v2 v3 hv = some r → Fqt hv g → Fqt r g := by
  intro n
  induction n with
  | zero => intro v2 v3 hv hm; cases hm
  | succ n ih =>
    intro v2 v3 hv hm f
    unfold mm_isGnawed_L4 at hm
    rcases ite_or hm with ⟨hc, hm⟩ | ⟨hc, hm⟩
    · exact kk0 _ _ hm f
    · obtain ⟨r1, -, hm⟩ := bd_s hm
      rcases ite_or hm with ⟨hc, hm⟩ | ⟨hc, hm⟩
      · exact ih _ _ _ hm f
      · obtain ⟨r2, h3, he, hm⟩ := bd2_s hm
        replace f := fq_fr f (fkm_gnawsOf _ _ _ he) (by unfold FKdm_gnawsOf; decide)
        refine v_j2 (fun (x5 : Int32) (h6 : PH) => Fqt h6 g → Fqt r g) hm (fun x5 h6 hm f => ?_) (fun j4 kj4 hm => ?_)
        · rcases ite_or hm with ⟨hc, hm⟩ | ⟨hc, hm⟩
          · exact ih _ _ _ hm f
          · obtain ⟨r7, -, hm⟩ := bd_s hm
            obtain ⟨h8, he, hm⟩ := bd_s hm
            replace f := fq_fr f (fkm_hasWall _ _ _ _ he) (by unfold FKdm_hasWall; decide)
            obtain ⟨x9, -, hm⟩ := lt_some hm
            exact ih _ _ _ hm f
        · rcases ite_or hm with ⟨hc, hm⟩ | ⟨hc, hm⟩
          · rcases ite_or hm with ⟨hc, hm⟩ | ⟨hc, hm⟩
            · exact kj4 _ _ hm f
            · obtain ⟨r10, h11, he, hm⟩ := bd2_s hm
              replace f := fq_fr f (fkm_draw _ _ he) (by unfold FKdm_draw; decide)
              rcases ite_or hm with ⟨hc, hm⟩ | ⟨hc, hm⟩
              · exact kj4 _ _ hm f
              · exact kj4 _ _ hm f
          · rcases ite_or hm with ⟨hc, hm⟩ | ⟨hc, hm⟩
            · exact kj4 _ _ hm f
            · exact kj4 _ _ hm f
theorem fqm_isGnawed (p1 : Int32) (h0 : PH) {r : PH} (hS : True) (hm : mm_isGnawed p1 h0 = some r) : Fqt r h0 := by
  generalize hge : h0 = g at ⊢
  have f : Fqt h0 g := by rw [hge]; exact fq_r _
  unfold mm_isGnawed at hm
  refine wq_m_isGnawed_L4 _ _ g _ hS (fun x12 h13 hm f => ?_) _ _ _ _ hm f
  · obtain ⟨-, hm⟩ := ck_s hm
    obtain ⟨-, hm⟩ := ck_s hm
    obtain ⟨h14, e1, hm⟩ := lt_some hm
    replace f : Fqt h14 g := by rw [e1]; exact up_fq f (by decide)
    rcases ite_or hm with ⟨hc, hm⟩ | ⟨hc, hm⟩
    · cases hm
      exact f
    · obtain ⟨h15, he, hm⟩ := bd_s hm
      replace f := fq_tr f (fqm_notes _ _ _ _ hS he)
      cases hm
      exact f
theorem wq_m_doesMelt_L4 (p1 : Int32) (k0 : Int32 → PH → Option (PH)) (g : PH) (r : PH) (hS : True) (kk0 : ∀ (y0 : Int32) (y1 : PH), k0 y0 y1 = some r → Fqt y1 g → Fqt r g) : ∀ (n : Nat) (v2 : Int32) (v3 : Int32) (hv : PH), mm_doesMelt_L4 p1 k0 n v2 v3 hv = some r → Fqt hv g → Fqt r g := by
  intro n
  induction n with
  | zero => intro v2 v3 hv hm; cases hm
  | succ n ih =>
    intro v2 v3 hv hm f
    unfold mm_doesMelt_L4 at hm
    rcases ite_or hm with ⟨hc, hm⟩ | ⟨hc, hm⟩
    · exact kk0 _ _ hm f
    · obtain ⟨-, hm⟩ := ck_s hm
      rcases ite_or hm with ⟨hc, hm⟩ | ⟨hc, hm⟩
      · obtain ⟨r1, -, hm⟩ := bd_s hm
        refine v_j2 (fun (x3 : Int32) (h4 : PH) => Fqt h4 g → Fqt r g) hm (fun x3 h4 hm f => ?_) (fun j2 kj2 hm => ?_)
        · obtain ⟨r5, -, hm⟩ := bd_s hm
          obtain ⟨h6, he, hm⟩ := bd_s hm
          replace f := fq_fr f (fkm_hasWall _ _ _ _ he) (by unfold FKdm_hasWall; decide)
          obtain ⟨x7, -, hm⟩ := lt_some hm
          exact ih _ _ _ hm f
        · rcases ite_or hm with ⟨hc, hm⟩ | ⟨hc, hm⟩
          · exact kj2 _ _ hm f
          · obtain ⟨r8, -, hm⟩ := bd_s hm
            obtain ⟨r9, h10, he, hm⟩ := bd2_s hm
            replace f := fq_fr f (fkm_meltsOf _ _ _ he) (by unfold FKdm_meltsOf; decide)
            obtain ⟨r11, -, hm⟩ := bd_s hm
            exact kj2 _ _ hm f
      · exact kk0 _ _ hm f
theorem fqm_doesMelt (p1 : Int32) (h0 : PH) {r : PH} (hS : True) (hm : mm_doesMelt p1 h0 = some r) : Fqt r h0 := by
  generalize hge : h0 = g at ⊢
  have f : Fqt h0 g := by rw [hge]; exact fq_r _
  unfold mm_doesMelt at hm
  refine wq_m_doesMelt_L4 _ _ g _ hS (fun x12 h13 hm f => ?_) _ _ _ _ hm f
  · rcases ite_or hm with ⟨hc, hm⟩ | ⟨hc, hm⟩
    · cases hm
      exact f
    · obtain ⟨h14, he, hm⟩ := bd_s hm
      replace f := fq_tr f (fqm_notes _ _ _ _ hS he)
      cases hm
      exact f
theorem wq_m_goesBy_L6 (k0 : PH → Option (Int32 × PH)) (g : PH) (r : Int32 × PH) (hS : True) (kk0 : ∀ (y0 : PH), k0 y0 = some r → Fqt y0 g → Fqt r.2 g) : ∀ (n : Nat) (v1 : Int32) (hv : PH), mm_goesBy_L6 k0 n v1 hv = some r → Fqt hv g → Fqt r.2 g := by
  intro n
  induction n with
  | zero => intro v1 hv hm; cases hm
  | succ n ih =>
    intro v1 hv hm f
    unfold mm_goesBy_L6 at hm
    rcases ite_or hm with ⟨hc, hm⟩ | ⟨hc, hm⟩
    · exact kk0 _ hm f
    · obtain ⟨-, hm⟩ := ck_s hm
      obtain ⟨-, hm⟩ := ck_s hm
      rcases ite_or hm with ⟨hc, hm⟩ | ⟨hc, hm⟩
      · obtain ⟨h2, he, hm⟩ := bd_s hm
        replace f := fq_tr f (fqm_does _ _ hS he)
        obtain ⟨x3, -, hm⟩ := lt_some hm
        exact ih _ _ hm f
      · obtain ⟨x4, -, hm⟩ := lt_some hm
        exact ih _ _ hm f
theorem wq_m_goesBy_L50 (p1 : Int32) (k0 : PH → Option (Int32 × PH)) (g : PH) (r : Int32 × PH) (hS : True) (kk0 : ∀ (y0 : PH), k0 y0 = some r → Fqt y0 g → Fqt r.2 g) : ∀ (n : Nat) (v2 : Int32) (hv : PH), mm_goesBy_L50 p1 k0 n v2 hv = some r → Fqt hv g → Fqt r.2 g := by
  intro n
  induction n with
  | zero => intro v2 hv hm; cases hm
  | succ n ih =>
    intro v2 hv hm f
    unfold mm_goesBy_L50 at hm
    rcases ite_or hm with ⟨hc, hm⟩ | ⟨hc, hm⟩
    · exact kk0 _ hm f
    · obtain ⟨r7, -, hm⟩ := bd_s hm
      rcases ite_or hm with ⟨hc, hm⟩ | ⟨hc, hm⟩
      · exact ih _ _ hm f
      · obtain ⟨-, hm⟩ := ck_s hm
        rcases ite_or hm with ⟨hc, hm⟩ | ⟨hc, hm⟩
        · exact ih _ _ hm f
        · obtain ⟨h8, he, hm⟩ := bd_s hm
          replace f := fq_tr f (fqm_paysRent _ _ hS he)
          exact ih _ _ hm f
theorem wq_m_goesBy_L91 (p1 : Int32) (k0 : PH → Option (Int32 × PH)) (g : PH) (r : Int32 × PH) (hS : True) (kk0 : ∀ (y0 : PH), k0 y0 = some r → Fqt y0 g → Fqt r.2 g) : ∀ (n : Nat) (v2 : Int32) (hv : PH), mm_goesBy_L91 p1 k0 n v2 hv = some r → Fqt hv g → Fqt r.2 g := by
  intro n
  induction n with
  | zero => intro v2 hv hm; cases hm
  | succ n ih =>
    intro v2 hv hm f
    unfold mm_goesBy_L91 at hm
    rcases ite_or hm with ⟨hc, hm⟩ | ⟨hc, hm⟩
    · exact kk0 _ hm f
    · obtain ⟨h10, he, hm⟩ := bd_s hm
      replace f := fq_tr f (fqm_isGnawed _ _ hS he)
      exact ih _ _ hm f
theorem wq_m_goesBy_L112 (p1 : Int32) (k0 : PH → Option (Int32 × PH)) (g : PH) (r : Int32 × PH) (hS : True) (kk0 : ∀ (y0 : PH), k0 y0 = some r → Fqt y0 g → Fqt r.2 g) : ∀ (n : Nat) (v2 : Int32) (hv : PH), mm_goesBy_L112 p1 k0 n v2 hv = some r → Fqt hv g → Fqt r.2 g := by
  intro n
  induction n with
  | zero => intro v2 hv hm; cases hm
  | succ n ih =>
    intro v2 hv hm f
    unfold mm_goesBy_L112 at hm
    rcases ite_or hm with ⟨hc, hm⟩ | ⟨hc, hm⟩
    · exact kk0 _ hm f
    · obtain ⟨h12, he, hm⟩ := bd_s hm
      replace f := fq_tr f (fqm_doesMelt _ _ hS he)
      exact ih _ _ hm f
theorem wq_m_goesBy_L133 (p1 : Int32) (k0 : PH → Option (Int32 × PH)) (g : PH) (r : Int32 × PH) (hS : True) (kk0 : ∀ (y0 : PH), k0 y0 = some r → Fqt y0 g → Fqt r.2 g) : ∀ (n : Nat) (v2 : Int32) (hv : PH), mm_goesBy_L133 p1 k0 n v2 hv = some r → Fqt hv g → Fqt r.2 g := by
  intro n
  induction n with
  | zero => intro v2 hv hm; cases hm
  | succ n ih =>
    intro v2 hv hm f
    unfold mm_goesBy_L133 at hm
    rcases ite_or hm with ⟨hc, hm⟩ | ⟨hc, hm⟩
    · exact kk0 _ hm f
    · obtain ⟨-, hm⟩ := ck_s hm
      rcases ite_or hm with ⟨hc, hm⟩ | ⟨hc, hm⟩
      · obtain ⟨r14, -, hm⟩ := bd_s hm
        rcases ite_or hm with ⟨hc, hm⟩ | ⟨hc, hm⟩
        · exact ih _ _ hm f
        · obtain ⟨-, hm⟩ := ck_s hm
          obtain ⟨r15, -, hm⟩ := bd_s hm
          obtain ⟨-, hm⟩ := ck_s hm
          obtain ⟨h16, e1, hm⟩ := lt_some hm
          replace f : Fqt h16 g := by rw [e1]; exact up_fq f (by decide)
          exact ih _ _ hm f
      · exact ih _ _ hm f
theorem wq_m_goesBy_L193 (p1 : Int32) (k0 : PH → Option (Int32 × PH)) (g : PH) (r : Int32 × PH) (hS : True) (kk0 : ∀ (y0 : PH), k0 y0 = some r → Fqt y0 g → Fqt r.2 g) : ∀ (n : Nat) (v2 : Int32) (hv : PH), mm_goesBy_L193 p1 k0 n v2 hv = some r → Fqt hv g → Fqt r.2 g := by
  intro n
  induction n with
  | zero => intro v2 hv hm; cases hm
  | succ n ih =>
    intro v2 hv hm f
    unfold mm_goesBy_L193 at hm
    rcases ite_or hm with ⟨hc, hm⟩ | ⟨hc, hm⟩
    · exact kk0 _ hm f
    · obtain ⟨h18, he, hm⟩ := bd_s hm
      replace f := fq_tr f (fqm_areOut _ _ hS he)
      obtain ⟨r19, -, hm⟩ := bd_s hm
      rcases ite_or hm with ⟨hc, hm⟩ | ⟨hc, hm⟩
      · exact ih _ _ hm f
      · obtain ⟨-, hm⟩ := ck_s hm
        obtain ⟨r20, -, hm⟩ := bd_s hm
        obtain ⟨-, hm⟩ := ck_s hm
        obtain ⟨h21, e1, hm⟩ := lt_some hm
        replace f : Fqt h21 g := by rw [e1]; exact up_fq f (by decide)
        exact ih _ _ hm f
theorem fqm_goesBy (h0 : PH) {r : Int32 × PH} (hS : True) (hm : mm_goesBy h0 = some r) : Fqt r.2 h0 := by
  generalize hge : h0 = g at ⊢
  have f : Fqt h0 g := by rw [hge]; exact fq_r _
  unfold mm_goesBy at hm
  obtain ⟨h1, he, hm⟩ := bd_s hm
  replace f := fq_fr f (fkm_skyOf _ he) (by unfold FKdm_skyOf; decide)
  refine wq_m_goesBy_L6 _ g _ hS (fun h5 hm f => ?_) _ _ _ hm f
  · obtain ⟨r6, -, hm⟩ := bd_s hm
    refine wq_m_goesBy_L50 _ _ g _ hS (fun h9 hm f => ?_) _ _ _ hm f
    · refine wq_m_goesBy_L91 _ _ g _ hS (fun h11 hm f => ?_) _ _ _ hm f
      · refine wq_m_goesBy_L112 _ _ g _ hS (fun h13 hm f => ?_) _ _ _ hm f
        · refine wq_m_goesBy_L133 _ _ g _ hS (fun h17 hm f => ?_) _ _ _ hm f
          · refine wq_m_goesBy_L193 _ _ g _ hS (fun h22 hm f => ?_) _ _ _ hm f
            · obtain ⟨-, hm⟩ := ck_s hm
              obtain ⟨-, hm⟩ := ck_s hm
              obtain ⟨h23, e1, hm⟩ := lt_some hm
              replace f : Fqt h23 g := by rw [e1]; exact up_fq f (by decide)
              obtain ⟨r24, -, hm⟩ := bd_s hm
              obtain ⟨r25, -, hm⟩ := bd_s hm
              cases hm
              exact f
