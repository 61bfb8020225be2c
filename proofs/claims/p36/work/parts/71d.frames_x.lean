theorem fpS_grow (a0 : Nat) (h0 : PH) {r : PH} (hm : mS_grow a0 h0 = some r) : Fr (FPdS_grow a0) r h0 := by
  generalize hSe : FPdS_grow a0 = S
  have hS : ∀ b, b ∈ ([(sT a0), ((sT a0) + 1)] : List Nat) → b ∈ S := by rw [← hSe]; exact fun b hb => hb
  generalize hge : h0 = g at ⊢
  have f : Fr S h0 g := by rw [hge]; exact fun _ _ => rfl
  unfold mS_grow at hm
  refine wf_S_grow_L2 _ _ S g _ (fun b hb => hS b (by first | exact absurd hb List.not_mem_nil | (simp only [List.mem_cons, List.not_mem_nil, or_false] at hb ⊢; omega))) (fun h4 hm f => ?_) _ _ _ hm f
  · obtain ⟨h5, e1, hm⟩ := lt_some hm
    replace f : Fr S h5 g := by rw [e1]; exact up_fr f (hS _ (by first | simp; done | (simp only [List.mem_cons, List.not_mem_nil, or_false]; omega)))
    cases hm
    exact f
def FPdS_pass (a0 : Nat) : List Nat := [(sT a0), ((sT a0) + 1), 17, 16, 34, 36, 35]
theorem wf_S_pass_L6 (a0 : Nat) (k0 : PH → Option (Int32 × PH)) (S : List Nat) (g : PH) (r : Int32 × PH) (hS : ∀ b, b ∈ ([((sT a0) + 1), 17, 16] : List Nat) → b ∈ S) (kk0 : ∀ (y0 : PH), k0 y0 = some r → Fr S y0 g → Fr S r.2 g) : ∀ (n : Nat) (v1 : Int32) (hv : PH), mS_pass_L6 a0 k0 n v1 hv = some r → Fr S hv g → Fr S r.2 g := by
  intro n
  induction n with
  | zero => intro v1 hv hm; cases hm
  | succ n ih =>
    intro v1 hv hm f
    unfold mS_pass_L6 at hm
    rcases ite_or hm with ⟨hc, hm⟩ | ⟨hc, hm⟩
    · exact kk0 _ hm f
    · obtain ⟨r2, -, hm⟩ := bd_s hm
      rcases ite_or hm with ⟨hc, hm⟩ | ⟨hc, hm⟩
      · obtain ⟨h3, he, hm⟩ := bd_s hm
        replace f := fr_tr f (fpS_officeLine _ _ _ _ he) (fun b hb => hS b (by simp only [FPdS_officeLine, List.mem_cons, List.not_mem_nil, or_false] at hb ⊢; omega))
        exact ih _ _ hm f
      · exact ih _ _ hm f
theorem wf_S_pass_L70 (a0 : Nat) (p1 : Int32) (k0 : PH → Option (Int32 × PH)) (S : List Nat) (g : PH) (r : Int32 × PH) (hS : ∀ b, b ∈ ([34, 36, 35, (sT a0), 17, 16, ((sT a0) + 1)] : List Nat) → b ∈ S) (kk0 : ∀ (y0 : PH), k0 y0 = some r → Fr S y0 g → Fr S r.2 g) : ∀ (n : Nat) (v2 : Int32) (hv : PH), mS_pass_L70 a0 p1 k0 n v2 hv = some r → Fr S hv g → Fr S r.2 g := by
  intro n
  induction n with
  | zero => intro v2 hv hm; cases hm
  | succ n ih =>
    intro v2 hv hm f
    unfold mS_pass_L70 at hm
    rcases ite_or hm with ⟨hc, hm⟩ | ⟨hc, hm⟩
    · exact kk0 _ hm f
    · obtain ⟨r6, -, hm⟩ := bd_s hm
      rcases ite_or hm with ⟨hc, hm⟩ | ⟨hc, hm⟩
      · exact ih _ _ hm f
      · obtain ⟨r7, -, hm⟩ := bd_s hm
        rcases ite_or hm with ⟨hc, hm⟩ | ⟨hc, hm⟩
        · exact ih _ _ hm f
        · obtain ⟨h8, he, hm⟩ := bd_s hm
          replace f := fr_tr f (fpS_payRent _ _ _ he) (fun b hb => hS b (by simp only [FPdS_payRent, List.mem_cons, List.not_mem_nil, or_false] at hb ⊢; omega))
          exact ih _ _ hm f
theorem wf_S_pass_L118 (a0 : Nat) (p1 : Int32) (k0 : PH → Option (Int32 × PH)) (S : List Nat) (g : PH) (r : Int32 × PH) (hS : ∀ b, b ∈ ([(sT a0), 17, 16, 34, 36, 35, ((sT a0) + 1)] : List Nat) → b ∈ S) (kk0 : ∀ (y0 : PH), k0 y0 = some r → Fr S y0 g → Fr S r.2 g) : ∀ (n : Nat) (v2 : Int32) (hv : PH), mS_pass_L118 a0 p1 k0 n v2 hv = some r → Fr S hv g → Fr S r.2 g := by
  intro n
  induction n with
  | zero => intro v2 hv hm; cases hm
  | succ n ih =>
    intro v2 hv hm f
    unfold mS_pass_L118 at hm
    rcases ite_or hm with ⟨hc, hm⟩ | ⟨hc, hm⟩
    · exact kk0 _ hm f
    · obtain ⟨h10, he, hm⟩ := bd_s hm
      replace f := fr_tr f (fpS_gnaw _ _ _ he) (fun b hb => hS b (by simp only [FPdS_gnaw, List.mem_cons, List.not_mem_nil, or_false] at hb ⊢; omega))
      exact ih _ _ hm f
theorem wf_S_pass_L142 (a0 : Nat) (p1 : Int32) (k0 : PH → Option (Int32 × PH)) (S : List Nat) (g : PH) (r : Int32 × PH) (hS : ∀ b, b ∈ ([17, 16, 34, 36, 35, ((sT a0) + 1)] : List Nat) → b ∈ S) (kk0 : ∀ (y0 : PH), k0 y0 = some r → Fr S y0 g → Fr S r.2 g) : ∀ (n : Nat) (v2 : Int32) (hv : PH), mS_pass_L142 a0 p1 k0 n v2 hv = some r → Fr S hv g → Fr S r.2 g := by
  intro n
  induction n with
  | zero => intro v2 hv hm; cases hm
  | succ n ih =>
    intro v2 hv hm f
    unfold mS_pass_L142 at hm
    rcases ite_or hm with ⟨hc, hm⟩ | ⟨hc, hm⟩
    · exact kk0 _ hm f
    · obtain ⟨h12, he, hm⟩ := bd_s hm
      replace f := fr_tr f (fpS_melt _ _ _ he) (fun b hb => hS b (by simp only [FPdS_melt, List.mem_cons, List.not_mem_nil, or_false] at hb ⊢; omega))
      exact ih _ _ hm f
theorem wf_S_pass_L180 (a0 : Nat) (p2 : Int32) (k0 : PH → Option (Int32 × PH)) (S : List Nat) (g : PH) (r : Int32 × PH) (hS : ∀ b, b ∈ ([((sT a0) + 1), 17, 16] : List Nat) → b ∈ S) (kk0 : ∀ (y0 : PH), k0 y0 = some r → Fr S y0 g → Fr S r.2 g) : ∀ (n : Nat) (v3 : Int32) (hv : PH), mS_pass_L180 a0 p2 k0 n v3 hv = some r → Fr S hv g → Fr S r.2 g := by
  intro n
  induction n with
  | zero => intro v3 hv hm; cases hm
  | succ n ih =>
    intro v3 hv hm f
    unfold mS_pass_L180 at hm
    rcases ite_or hm with ⟨hc, hm⟩ | ⟨hc, hm⟩
    · exact kk0 _ hm f
    · obtain ⟨h17, he, hm⟩ := bd_s hm
      replace f := fr_tr f (fpS_leaveIfFallen _ _ _ he) (fun b hb => hS b (by simp only [FPdS_leaveIfFallen, List.mem_cons, List.not_mem_nil, or_false] at hb ⊢; omega))
      exact ih _ _ hm f
theorem fpS_pass (a0 : Nat) (h0 : PH) {r : Int32 × PH} (hm : mS_pass a0 h0 = some r) : Fr (FPdS_pass a0) r.2 h0 := by
  generalize hSe : FPdS_pass a0 = S
  have hS : ∀ b, b ∈ ([(sT a0), ((sT a0) + 1), 17, 16, 34, 36, 35] : List Nat) → b ∈ S := by rw [← hSe]; exact fun b hb => hb
  generalize hge : h0 = g at ⊢
  have f : Fr S h0 g := by rw [hge]; exact fun _ _ => rfl
  unfold mS_pass at hm
  obtain ⟨h1, he, hm⟩ := bd_s hm
  replace f := fr_tr f (fpS_weather _ _ he) (fun b hb => hS b (by simp only [FPdS_weather, List.mem_cons, List.not_mem_nil, or_false] at hb ⊢; omega))
  refine wf_S_pass_L6 _ _ S g _ (fun b hb => hS b (by first | exact absurd hb List.not_mem_nil | (simp only [List.mem_cons, List.not_mem_nil, or_false] at hb ⊢; omega))) (fun h4 hm f => ?_) _ _ _ hm f
  · obtain ⟨r5, -, hm⟩ := bd_s hm
    refine wf_S_pass_L70 _ _ _ S g _ (fun b hb => hS b (by first | exact absurd hb List.not_mem_nil | (simp only [List.mem_cons, List.not_mem_nil, or_false] at hb ⊢; omega))) (fun h9 hm f => ?_) _ _ _ hm f
    · refine wf_S_pass_L118 _ _ _ S g _ (fun b hb => hS b (by first | exact absurd hb List.not_mem_nil | (simp only [List.mem_cons, List.not_mem_nil, or_false] at hb ⊢; omega))) (fun h11 hm f => ?_) _ _ _ hm f
      · refine wf_S_pass_L142 _ _ _ S g _ (fun b hb => hS b (by first | exact absurd hb List.not_mem_nil | (simp only [List.mem_cons, List.not_mem_nil, or_false] at hb ⊢; omega))) (fun h13 hm f => ?_) _ _ _ hm f
        · obtain ⟨r14, -, hm⟩ := bd_s hm
          obtain ⟨x15, -, hm⟩ := lt_some hm
          obtain ⟨h16, he, hm⟩ := bd_s hm
          replace f := fr_tr f (fpS_harden _ _ he) (fun b hb => hS b (by simp only [FPdS_harden, List.mem_cons, List.not_mem_nil, or_false] at hb ⊢; omega))
          refine wf_S_pass_L180 _ _ _ S g _ (fun b hb => hS b (by first | exact absurd hb List.not_mem_nil | (simp only [List.mem_cons, List.not_mem_nil, or_false] at hb ⊢; omega))) (fun h18 hm f => ?_) _ _ _ hm f
          · obtain ⟨h19, he, hm⟩ := bd_s hm
            replace f := fr_tr f (fpS_grow _ _ he) (fun b hb => hS b (by simp only [FPdS_grow, List.mem_cons, List.not_mem_nil, or_false] at hb ⊢; omega))
            cases hm
            exact f
def FPdS_nibble (a0 : Nat) (p1 : Int32) (p2 : Int32) (p3 : Int32) : List Nat := [((sT a0) + 1), (sT a0), 17, 16]
theorem fpS_nibble (a0 : Nat) (p1 : Int32) (p2 : Int32) (p3 : Int32) (h0 : PH) {r : PH} (hm : mS_nibble a0 p1 p2 p3 h0 = some r) : Fr (FPdS_nibble a0 p1 p2 p3) r h0 := by
  generalize hSe : FPdS_nibble a0 p1 p2 p3 = S
  have hS : ∀ b, b ∈ ([((sT a0) + 1), (sT a0), 17, 16] : List Nat) → b ∈ S := by rw [← hSe]; exact fun b hb => hb
  generalize hge : h0 = g at ⊢
  have f : Fr S h0 g := by rw [hge]; exact fun _ _ => rfl
  unfold mS_nibble at hm
  obtain ⟨r1, h2, he, hm⟩ := bd2_s hm
  replace f := fr_tr f (fpB_thin _ _ _ _ _ he) (fun b hb => hS b (by simp only [FPdB_thin, List.mem_cons, List.not_mem_nil, or_false] at hb ⊢; omega))
  obtain ⟨h3, e1, hm⟩ := lt_some hm
  replace f : Fr S h3 g := by rw [e1]; exact up_fr f (hS _ (by first | simp; done | (simp only [List.mem_cons, List.not_mem_nil, or_false]; omega)))
  obtain ⟨h4, he, hm⟩ := bd_s hm
  replace f := fr_tr f (fpS_note _ _ _ _ _ he) (fun b hb => hS b (by simp only [FPdS_note, List.mem_cons, List.not_mem_nil, or_false] at hb ⊢; omega))
  obtain ⟨h5, he, hm⟩ := bd_s hm
  replace f := fr_tr f (fpS_leaveIfFallen _ _ _ he) (fun b hb => hS b (by simp only [FPdS_leaveIfFallen, List.mem_cons, List.not_mem_nil, or_false] at hb ⊢; omega))
  cases hm
  exact f
def FPdS_actByHand (a0 : Nat) (p1 : Int32) (p2 : Int32) (p3 : Int32) : List Nat := [((sT a0) + 1), 17, 16, (sT a0)]
theorem fpS_actByHand (a0 : Nat) (p1 : Int32) (p2 : Int32) (p3 : Int32) (h0 : PH) {r : PH} (hm : mS_actByHand a0 p1 p2 p3 h0 = some r) : Fr (FPdS_actByHand a0 p1 p2 p3) r h0 := by
  generalize hSe : FPdS_actByHand a0 p1 p2 p3 = S
  have hS : ∀ b, b ∈ ([((sT a0) + 1), 17, 16, (sT a0)] : List Nat) → b ∈ S := by rw [← hSe]; exact fun b hb => hb
  generalize hge : h0 = g at ⊢
  have f : Fr S h0 g := by rw [hge]; exact fun _ _ => rfl
  unfold mS_actByHand at hm
  obtain ⟨r1, -, hm⟩ := bd_s hm
  rcases ite_or hm with ⟨hc, hm⟩ | ⟨hc, hm⟩
  · obtain ⟨r2, -, hm⟩ := bd_s hm
    rcases ite_or hm with ⟨hc, hm⟩ | ⟨hc, hm⟩
    · rcases ite_or hm with ⟨hc, hm⟩ | ⟨hc, hm⟩
      · obtain ⟨h3, he, hm⟩ := bd_s hm
        replace f := fr_tr f (fpS_wed _ _ _ he) (fun b hb => hS b (by simp only [FPdS_wed, List.mem_cons, List.not_mem_nil, or_false] at hb ⊢; omega))
        cases hm
        exact f
      · rcases ite_or hm with ⟨hc, hm⟩ | ⟨hc, hm⟩
        · obtain ⟨h4, he, hm⟩ := bd_s hm
          replace f := fr_tr f (fpS_moveLodgers _ _ _ _ he) (fun b hb => hS b (by simp only [FPdS_moveLodgers, List.mem_cons, List.not_mem_nil, or_false] at hb ⊢; omega))
          cases hm
          exact f
        · rcases ite_or hm with ⟨hc, hm⟩ | ⟨hc, hm⟩
          · obtain ⟨h5, he, hm⟩ := bd_s hm
            replace f := fr_tr f (fpS_raze _ _ _ he) (fun b hb => hS b (by simp only [FPdS_raze, List.mem_cons, List.not_mem_nil, or_false] at hb ⊢; omega))
            cases hm
            exact f
          · cases hm
            exact f
    · obtain ⟨h6, he, hm⟩ := bd_s hm
      replace f := fr_tr f (fpB_thicken _ _ _ _ _ he) (fun b hb => hS b (by simp only [FPdB_thicken, List.mem_cons, List.not_mem_nil, or_false] at hb ⊢; omega))
      cases hm
      exact f
  · obtain ⟨h7, he, hm⟩ := bd_s hm
    replace f := fr_tr f (fpS_nibble _ _ _ _ _ he) (fun b hb => hS b (by simp only [FPdS_nibble, List.mem_cons, List.not_mem_nil, or_false] at hb ⊢; omega))
    cases hm
    exact f
def FPdD_forgetFault : List Nat := [90]
theorem fpD_forgetFault (h0 : PH) {r : PH} (hm : mD_forgetFault h0 = some r) : Fr (FPdD_forgetFault ) r h0 := by
  generalize hSe : FPdD_forgetFault = S
  have hS : ∀ b, b ∈ ([90] : List Nat) → b ∈ S := by rw [← hSe]; exact fun b hb => hb
  generalize hge : h0 = g at ⊢
  have f : Fr S h0 g := by rw [hge]; exact fun _ _ => rfl
  unfold mD_forgetFault at hm
  obtain ⟨h1, e1, hm⟩ := lt_some hm
  replace f : Fr S h1 g := by rw [e1]; exact up_fr f (hS _ (by decide))
  obtain ⟨h2, e1, hm⟩ := lt_some hm
  replace f : Fr S h2 g := by rw [e1]; exact up_fr f (hS _ (by decide))
  cases hm
  exact f
def FPdD_advance : List Nat := [90]
theorem fpD_advance (h0 : PH) {r : PH} (hm : mD_advance h0 = some r) : Fr (FPdD_advance ) r h0 := by
  generalize hSe : FPdD_advance = S
  have hS : ∀ b, b ∈ ([90] : List Nat) → b ∈ S := by rw [← hSe]; exact fun b hb => hb
  generalize hge : h0 = g at ⊢
  have f : Fr S h0 g := by rw [hge]; exact fun _ _ => rfl
  unfold mD_advance at hm
  obtain ⟨h1, e1, hm⟩ := lt_some hm
  replace f : Fr S h1 g := by rw [e1]; exact up_fr f (hS _ (by decide))
  refine v_j1 (fun (x3 : Int32) => Fr S r g) hm (fun x3 hm => ?_) (fun j2 kj2 hm => ?_)
  · refine v_j1 (fun (x5 : Int32) => Fr S r g) hm (fun x5 hm => ?_) (fun j4 kj4 hm => ?_)
    · obtain ⟨h6, e1, hm⟩ := lt_some hm
      replace f : Fr S h6 g := by rw [e1]; exact up_fr f (hS _ (by decide))
      refine v_j1 (fun (x8 : Int32) => Fr S r g) hm (fun x8 hm => ?_) (fun j7 kj7 hm => ?_)
      · obtain ⟨h9, e1, hm⟩ := lt_some hm
        replace f : Fr S h9 g := by rw [e1]; exact up_fr f (hS _ (by decide))
        cases hm
        exact f
      · rcases ite_or hm with ⟨hc, hm⟩ | ⟨hc, hm⟩
        · exact kj7 _ hm
        · obtain ⟨-, hm⟩ := ck_s hm
          exact kj7 _ hm
    · rcases ite_or hm with ⟨hc, hm⟩ | ⟨hc, hm⟩
      · exact kj4 _ hm
      · obtain ⟨-, hm⟩ := ck_s hm
        exact kj4 _ hm
  · rcases ite_or hm with ⟨hc, hm⟩ | ⟨hc, hm⟩
    · exact kj2 _ hm
    · rcases ite_or hm with ⟨hc, hm⟩ | ⟨hc, hm⟩
      · exact kj2 _ hm
      · rcases ite_or hm with ⟨hc, hm⟩ | ⟨hc, hm⟩
        · exact kj2 _ hm
        · exact kj2 _ hm
def FPdD_refuse (p1 : Int32) : List Nat := [90]
theorem fpD_refuse (p1 : Int32) (h0 : PH) {r : Int32 × PH} (hm : mD_refuse p1 h0 = some r) : Fr (FPdD_refuse p1) r.2 h0 := by
  generalize hSe : FPdD_refuse p1 = S
  have hS : ∀ b, b ∈ ([90] : List Nat) → b ∈ S := by rw [← hSe]; exact fun b hb => hb
  generalize hge : h0 = g at ⊢
  have f : Fr S h0 g := by rw [hge]; exact fun _ _ => rfl
  unfold mD_refuse at hm
  obtain ⟨h1, e1, hm⟩ := lt_some hm
  replace f : Fr S h1 g := by rw [e1]; exact up_fr f (hS _ (by decide))
  refine v_j1 (fun (x3 : Int32) => Fr S r.2 g) hm (fun x3 hm => ?_) (fun j2 kj2 hm => ?_)
  · obtain ⟨h4, e1, hm⟩ := lt_some hm
    replace f : Fr S h4 g := by rw [e1]; exact up_fr f (hS _ (by decide))
    cases hm
    exact f
  · rcases ite_or hm with ⟨hc, hm⟩ | ⟨hc, hm⟩
    · exact kj2 _ hm
    · rcases ite_or hm with ⟨hc, hm⟩ | ⟨hc, hm⟩
      · exact kj2 _ hm
      · rcases ite_or hm with ⟨hc, hm⟩ | ⟨hc, hm⟩
        · exact kj2 _ hm
        · obtain ⟨-, hm⟩ := ck_s hm
          exact kj2 _ hm
def FPdD_unit : List Nat := [90, 94, 93]
theorem fpD_unit (h0 : PH) {r : Int32 × PH} (hm : mD_unit h0 = some r) : Fr (FPdD_unit ) r.2 h0 := by
  generalize hSe : FPdD_unit = S
  have hS : ∀ b, b ∈ ([90, 94, 93] : List Nat) → b ∈ S := by rw [← hSe]; exact fun b hb => hb
  generalize hge : h0 = g at ⊢
  have f : Fr S h0 g := by rw [hge]; exact fun _ _ => rfl
  unfold mD_unit at hm
  refine v_j1 (fun (h2 : PH) => Fr S h2 g → Fr S r.2 g) hm (fun h2 hm f => ?_) (fun j1 kj1 hm => ?_)
  · obtain ⟨h3, he, hm⟩ := bd_s hm
    replace f := fr_tr f (fpD_advance _ he) (fun b hb => hS b ((by decide : ∀ b, b ∈ ([90] : List Nat) → b ∈ ([90, 94, 93] : List Nat)) b hb))
    cases hm
    exact f
  · rcases ite_or hm with ⟨hc, hm⟩ | ⟨hc, hm⟩
    · obtain ⟨r4, h5, he, hm⟩ := bd2_s hm
      replace f := fr_tr f (fpR_add _ _ _ _ _ _ _ he) (fun b hb => hS b (by simp only [FPdR_add, List.mem_cons, List.not_mem_nil, or_false] at hb ⊢; omega))
      exact kj1 _ hm f
    · refine v_j0 (Fr S r.2 g) hm (fun hm => ?_) (fun j6 kj6 hm => ?_)
      · obtain ⟨r7, h8, he, hm⟩ := bd2_s hm
        replace f := fr_tr f (fpD_refuse _ _ he) (fun b hb => hS b ((by decide : ∀ b, b ∈ ([90] : List Nat) → b ∈ ([90, 94, 93] : List Nat)) b hb))
        cases hm
        exact f
      · rcases ite_or hm with ⟨hc, hm⟩ | ⟨hc, hm⟩
        · rcases ite_or hm with ⟨hc, hm⟩ | ⟨hc, hm⟩
          · exact kj6 hm
          · obtain ⟨r9, h10, he, hm⟩ := bd2_s hm
            replace f := fr_tr f (fpR_add _ _ _ _ _ _ _ he) (fun b hb => hS b (by simp only [FPdR_add, List.mem_cons, List.not_mem_nil, or_false] at hb ⊢; omega))
            exact kj1 _ hm f
        · exact kj6 hm
def FPdD_takesNumber (p1 : Int32) (p2 : Int32) : List Nat := [90]
theorem fpD_takesNumber (p1 : Int32) (p2 : Int32) (h0 : PH) {r : Int32 × PH} (hm : mD_takesNumber p1 p2 h0 = some r) : Fr (FPdD_takesNumber p1 p2) r.2 h0 := by
  generalize hSe : FPdD_takesNumber p1 p2 = S
  have hS : ∀ b, b ∈ ([90] : List Nat) → b ∈ S := by rw [← hSe]; exact fun b hb => hb
  generalize hge : h0 = g at ⊢
  have f : Fr S h0 g := by rw [hge]; exact fun _ _ => rfl
  unfold mD_takesNumber at hm
  rcases ite_or hm with ⟨hc, hm⟩ | ⟨hc, hm⟩
  · obtain ⟨r1, -, hm⟩ := bd_s hm
    rcases ite_or hm with ⟨hc, hm⟩ | ⟨hc, hm⟩
    · obtain ⟨r2, h3, he, hm⟩ := bd2_s hm
      replace f := fr_tr f (fpD_refuse _ _ he) (fun b hb => hS b ((by decide : ∀ b, b ∈ ([90] : List Nat) → b ∈ ([90] : List Nat)) b hb))
      cases hm
      exact f
    · obtain ⟨h4, e1, hm⟩ := lt_some hm
      replace f : Fr S h4 g := by rw [e1]; exact up_fr f (hS _ (by decide))
      obtain ⟨h5, he, hm⟩ := bd_s hm
      replace f := fr_tr f (fpD_advance _ he) (fun b hb => hS b ((by decide : ∀ b, b ∈ ([90] : List Nat) → b ∈ ([90] : List Nat)) b hb))
      cases hm
      exact f
  · obtain ⟨r6, h7, he, hm⟩ := bd2_s hm
    replace f := fr_tr f (fpD_refuse _ _ he) (fun b hb => hS b ((by decide : ∀ b, b ∈ ([90] : List Nat) → b ∈ ([90] : List Nat)) b hb))
    cases hm
    exact f
def FPdD_emit (p1 : Int32) (p2 : Int32) : List Nat := [94, 93]
theorem fpD_emit (p1 : Int32) (p2 : Int32) (h0 : PH) {r : Int32 × PH} (hm : mD_emit p1 p2 h0 = some r) : Fr (FPdD_emit p1 p2) r.2 h0 := by
  generalize hSe : FPdD_emit p1 p2 = S
  have hS : ∀ b, b ∈ ([94, 93] : List Nat) → b ∈ S := by rw [← hSe]; exact fun b hb => hb
  generalize hge : h0 = g at ⊢
  have f : Fr S h0 g := by rw [hge]; exact fun _ _ => rfl
  unfold mD_emit at hm
  obtain ⟨r1, h2, he, hm⟩ := bd2_s hm
  replace f := fr_tr f (fpR_add _ _ _ _ _ _ _ he) (fun b hb => hS b (by simp only [FPdR_add, List.mem_cons, List.not_mem_nil, or_false] at hb ⊢; omega))
  cases hm
  exact f
def FPdD_expression : List Nat := [90, 94, 93]
theorem wf_D_expression_L13 (k0 : Int32 → PH → Option (Int32 × PH)) (S : List Nat) (g : PH) (r : Int32 × PH) (hS : ∀ b, b ∈ ([90, 94, 93] : List Nat) → b ∈ S) (kk0 : ∀ (y0 : Int32) (y1 : PH), k0 y0 y1 = some r → Fr S y1 g → Fr S r.2 g) : ∀ (n : Nat) (v1 : Int32) (v2 : Int32) (hv : PH), mD_expression_L13 k0 n v1 v2 hv = some r → Fr S hv g → Fr S r.2 g := by
  intro n
  induction n with
  | zero => intro v1 v2 hv hm; cases hm
  | succ n ih =>
    intro v1 v2 hv hm f
    unfold mD_expression_L13 at hm
    rcases ite_or hm with ⟨hc, hm⟩ | ⟨hc, hm⟩
    · exact kk0 _ _ hm f
    · obtain ⟨r3, -, hm⟩ := bd_s hm
      refine v_j0 (Fr S r.2 g) hm (fun hm => ?_) (fun j4 kj4 hm => ?_)
      · obtain ⟨x5, -, hm⟩ := lt_some hm
        obtain ⟨h6, he, hm⟩ := bd_s hm
        replace f := fr_tr f (fpD_advance _ he) (fun b hb => hS b ((by decide : ∀ b, b ∈ ([90] : List Nat) → b ∈ ([90, 94, 93] : List Nat)) b hb))
        rcases ite_or hm with ⟨hc, hm⟩ | ⟨hc, hm⟩
        · obtain ⟨r7, h8, he, hm⟩ := bd2_s hm
          replace f := fr_tr f (fpD_takesNumber _ _ _ he) (fun b hb => hS b ((by decide : ∀ b, b ∈ ([90] : List Nat) → b ∈ ([90, 94, 93] : List Nat)) b hb))
          rcases ite_or hm with ⟨hc, hm⟩ | ⟨hc, hm⟩
          · cases hm
            exact f
          · obtain ⟨r9, h10, he, hm⟩ := bd2_s hm
            replace f := fr_tr f (fpD_emit _ _ _ he) (fun b hb => hS b ((by decide : ∀ b, b ∈ ([94, 93] : List Nat) → b ∈ ([90, 94, 93] : List Nat)) b hb))
            exact ih _ _ _ hm f
        · refine v_j2 (fun (x12 : Int32) (h13 : PH) => Fr S h13 g → Fr S r.2 g) hm (fun x12 h13 hm f => ?_) (fun j11 kj11 hm => ?_)
          · obtain ⟨r14, h15, he, hm⟩ := bd2_s hm
            replace f := fr_tr f (fpD_unit _ he) (fun b hb => hS b ((by decide : ∀ b, b ∈ ([90, 94, 93] : List Nat) → b ∈ ([90, 94, 93] : List Nat)) b hb))
            rcases ite_or hm with ⟨hc, hm⟩ | ⟨hc, hm⟩
            · cases hm
              exact f
            · rcases ite_or hm with ⟨hc, hm⟩ | ⟨hc, hm⟩
              · obtain ⟨r16, h17, he, hm⟩ := bd2_s hm
                replace f := fr_tr f (fpD_emit _ _ _ he) (fun b hb => hS b ((by decide : ∀ b, b ∈ ([94, 93] : List Nat) → b ∈ ([90, 94, 93] : List Nat)) b hb))
                exact ih _ _ _ hm f
              · exact ih _ _ _ hm f
          · rcases ite_or hm with ⟨hc, hm⟩ | ⟨hc, hm⟩
            · exact kj11 _ _ hm f
            · refine v_j1 (fun (h19 : PH) => Fr S h19 g → Fr S r.2 g) hm (fun h19 hm f => ?_) (fun j18 kj18 hm => ?_)
              · rcases ite_or hm with ⟨hc, hm⟩ | ⟨hc, hm⟩
                · exact kj11 _ _ hm f
                · exact kj11 _ _ hm f
              · rcases ite_or hm with ⟨hc, hm⟩ | ⟨hc, hm⟩
                · exact kj18 _ hm f
                · obtain ⟨r20, h21, he, hm⟩ := bd2_s hm
                  replace f := fr_tr f (fpD_emit _ _ _ he) (fun b hb => hS b ((by decide : ∀ b, b ∈ ([94, 93] : List Nat) → b ∈ ([90, 94, 93] : List Nat)) b hb))
                  exact kj18 _ hm f
      · rcases ite_or hm with ⟨hc, hm⟩ | ⟨hc, hm⟩
        · obtain ⟨r22, -, hm⟩ := bd_s hm
          rcases ite_or hm with ⟨hc, hm⟩ | ⟨hc, hm⟩
          · obtain ⟨r23, -, hm⟩ := bd_s hm
            rcases ite_or hm with ⟨hc, hm⟩ | ⟨hc, hm⟩
            · obtain ⟨r24, -, hm⟩ := bd_s hm
              rcases ite_or hm with ⟨hc, hm⟩ | ⟨hc, hm⟩
              · exact kk0 _ _ hm f
              · exact kj4 hm
            · exact kj4 hm
          · exact kj4 hm
        · exact kj4 hm
theorem fpD_expression (h0 : PH) {r : Int32 × PH} (hm : mD_expression h0 = some r) : Fr (FPdD_expression ) r.2 h0 := by
  generalize hSe : FPdD_expression = S
  have hS : ∀ b, b ∈ ([90, 94, 93] : List Nat) → b ∈ S := by rw [← hSe]; exact fun b hb => hb
  generalize hge : h0 = g at ⊢
  have f : Fr S h0 g := by rw [hge]; exact fun _ _ => rfl
  unfold mD_expression at hm
  obtain ⟨r1, h2, he, hm⟩ := bd2_s hm
  replace f := fr_tr f (fpD_unit _ he) (fun b hb => hS b ((by decide : ∀ b, b ∈ ([90, 94, 93] : List Nat) → b ∈ ([90, 94, 93] : List Nat)) b hb))
  rcases ite_or hm with ⟨hc, hm⟩ | ⟨hc, hm⟩
  · cases hm
    exact f
  · refine wf_D_expression_L13 _ S g _ (fun b hb => hS b ((by decide : ∀ b, b ∈ ([90, 94, 93] : List Nat) → b ∈ ([90, 94, 93] : List Nat)) b hb)) (fun x25 h26 hm f => ?_) _ _ _ _ hm f
    · rcases ite_or hm with ⟨hc, hm⟩ | ⟨hc, hm⟩
      · cases hm
        exact f
      · obtain ⟨r27, h28, he, hm⟩ := bd2_s hm
        replace f := fr_tr f (fpD_emit _ _ _ he) (fun b hb => hS b ((by decide : ∀ b, b ∈ ([94, 93] : List Nat) → b ∈ ([90, 94, 93] : List Nat)) b hb))
        rcases ite_or hm with ⟨hc, hm⟩ | ⟨hc, hm⟩
        · cases hm
          exact f
        · cases hm
          exact f
def FPdD_takesSign (p1 : Int32) : List Nat := [90]
theorem fpD_takesSign (p1 : Int32) (h0 : PH) {r : Int32 × PH} (hm : mD_takesSign p1 h0 = some r) : Fr (FPdD_takesSign p1) r.2 h0 := by
  generalize hSe : FPdD_takesSign p1 = S
  have hS : ∀ b, b ∈ ([90] : List Nat) → b ∈ S := by rw [← hSe]; exact fun b hb => hb
  generalize hge : h0 = g at ⊢
  have f : Fr S h0 g := by rw [hge]; exact fun _ _ => rfl
  unfold mD_takesSign at hm
  obtain ⟨r1, -, hm⟩ := bd_s hm
  rcases ite_or hm with ⟨hc, hm⟩ | ⟨hc, hm⟩
  · obtain ⟨r2, h3, he, hm⟩ := bd2_s hm
    replace f := fr_tr f (fpD_refuse _ _ he) (fun b hb => hS b ((by decide : ∀ b, b ∈ ([90] : List Nat) → b ∈ ([90] : List Nat)) b hb))
    cases hm
    exact f
  · obtain ⟨h4, he, hm⟩ := bd_s hm
    replace f := fr_tr f (fpD_advance _ he) (fun b hb => hS b ((by decide : ∀ b, b ∈ ([90] : List Nat) → b ∈ ([90] : List Nat)) b hb))
    cases hm
    exact f
def FPdD_condition (p1 : Int32) : List Nat := [94, 93, 90]
theorem wf_D_condition_L14 (p1 : Int32) (f1 : Int32 → PH → Option (Int32 × PH)) (k0 : Int32 → PH → Option (Int32 × PH)) (S : List Nat) (g : PH) (r : Int32 × PH) (g1 : ∀ (z0 : Int32) (z1 : PH) (zr : Int32 × PH), f1 z0 z1 = some zr → Fr S zr.2 z1) (hS : ∀ b, b ∈ ([90, 94, 93] : List Nat) → b ∈ S) (kk0 : ∀ (y0 : Int32) (y1 : PH), k0 y0 y1 = some r → Fr S y1 g → Fr S r.2 g) : ∀ (n : Nat) (v2 : Int32) (v3 : Int32) (hv : PH), mD_condition_L14 p1 f1 k0 n v2 v3 hv = some r → Fr S hv g → Fr S r.2 g := by
  intro n
  induction n with
  | zero => intro v2 v3 hv hm; cases hm
  | succ n ih =>
    intro v2 v3 hv hm f
    unfold mD_condition_L14 at hm
    rcases ite_or hm with ⟨hc, hm⟩ | ⟨hc, hm⟩
    · exact kk0 _ _ hm f
    · obtain ⟨r3, -, hm⟩ := bd_s hm
      refine v_j0 (Fr S r.2 g) hm (fun hm => ?_) (fun j4 kj4 hm => ?_)
      · obtain ⟨r5, -, hm⟩ := bd_s hm
        obtain ⟨h6, he, hm⟩ := bd_s hm
        replace f := fr_tr f (fpD_advance _ he) (fun b hb => hS b ((by decide : ∀ b, b ∈ ([90] : List Nat) → b ∈ ([90, 94, 93] : List Nat)) b hb))
        refine v_j2 (fun (x8 : Int32) (h9 : PH) => Fr S h9 g → Fr S r.2 g) hm (fun x8 h9 hm f => ?_) (fun j7 kj7 hm => ?_)
        · obtain ⟨r10, h11, he, hm⟩ := bd2_s hm
          replace f := fr_tr f (g1 _ _ _ he) (fun b hb => hb)
          rcases ite_or hm with ⟨hc, hm⟩ | ⟨hc, hm⟩
          · cases hm
            exact f
          · rcases ite_or hm with ⟨hc, hm⟩ | ⟨hc, hm⟩
            · exact ih _ _ _ hm f
            · obtain ⟨r12, h13, he, hm⟩ := bd2_s hm
              replace f := fr_tr f (fpD_emit _ _ _ he) (fun b hb => hS b ((by decide : ∀ b, b ∈ ([94, 93] : List Nat) → b ∈ ([90, 94, 93] : List Nat)) b hb))
              exact ih _ _ _ hm f
        · rcases ite_or hm with ⟨hc, hm⟩ | ⟨hc, hm⟩
          · rcases ite_or hm with ⟨hc, hm⟩ | ⟨hc, hm⟩
            · exact kj7 _ _ hm f
            · obtain ⟨r14, h15, he, hm⟩ := bd2_s hm
              replace f := fr_tr f (fpD_emit _ _ _ he) (fun b hb => hS b ((by decide : ∀ b, b ∈ ([94, 93] : List Nat) → b ∈ ([90, 94, 93] : List Nat)) b hb))
              exact kj7 _ _ hm f
          · exact kj7 _ _ hm f
      · rcases ite_or hm with ⟨hc, hm⟩ | ⟨hc, hm⟩
        · obtain ⟨r16, -, hm⟩ := bd_s hm
          rcases ite_or hm with ⟨hc, hm⟩ | ⟨hc, hm⟩
          · exact kk0 _ _ hm f
          · exact kj4 hm
        · exact kj4 hm
theorem fpD_condition_F (f1 : Int32 → PH → Option (Int32 × PH)) (p1 : Int32) (h0 : PH) {r : Int32 × PH} (S : List Nat) (hS : ∀ b, b ∈ FPdD_condition p1 → b ∈ S) (g1 : ∀ (z0 : Int32) (z1 : PH) (zr : Int32 × PH), f1 z0 z1 = some zr → Fr S zr.2 z1) (hm : mD_condition_F f1 p1 h0 = some r) : Fr S r.2 h0 := by
  replace hS : ∀ b, b ∈ ([94, 93, 90] : List Nat) → b ∈ S := hS
  generalize hge : h0 = g at ⊢
  have f : Fr S h0 g := by rw [hge]; exact fun _ _ => rfl
  unfold mD_condition_F at hm
  obtain ⟨r1, h2, he, hm⟩ := bd2_s hm
  replace f := fr_tr f (g1 _ _ _ he) (fun b hb => hb)
  rcases ite_or hm with ⟨hc, hm⟩ | ⟨hc, hm⟩
  · cases hm
    exact f
  · refine wf_D_condition_L14 _ _ _ S g _ g1 (fun b hb => hS b ((by decide : ∀ b, b ∈ ([90, 94, 93] : List Nat) → b ∈ ([94, 93, 90] : List Nat)) b hb)) (fun x17 h18 hm f => ?_) _ _ _ _ hm f
    · rcases ite_or hm with ⟨hc, hm⟩ | ⟨hc, hm⟩
      · cases hm
        exact f
      · obtain ⟨r19, h20, he, hm⟩ := bd2_s hm
        replace f := fr_tr f (fpD_emit _ _ _ he) (fun b hb => hS b ((by decide : ∀ b, b ∈ ([94, 93] : List Nat) → b ∈ ([94, 93, 90] : List Nat)) b hb))
        rcases ite_or hm with ⟨hc, hm⟩ | ⟨hc, hm⟩
        · cases hm
          exact f
        · cases hm
          exact f
def FPdD_clause (p1 : Int32) : List Nat := [94, 93, 90]
theorem fpD_clause_F (f0 : Int32 → PH → Option (Int32 × PH)) (f1 : Int32 → PH → Option (Int32 × PH)) (p1 : Int32) (h0 : PH) {r : Int32 × PH} (S : List Nat) (hS : ∀ b, b ∈ FPdD_clause p1 → b ∈ S) (g0 : ∀ (z0 : Int32) (z1 : PH) (zr : Int32 × PH), f0 z0 z1 = some zr → Fr S zr.2 z1) (g1 : ∀ (z0 : Int32) (z1 : PH) (zr : Int32 × PH), f1 z0 z1 = some zr → Fr S zr.2 z1) (hm : mD_clause_F f0 f1 p1 h0 = some r) : Fr S r.2 h0 := by
  replace hS : ∀ b, b ∈ ([94, 93, 90] : List Nat) → b ∈ S := hS
  generalize hge : h0 = g at ⊢
  have f : Fr S h0 g := by rw [hge]; exact fun _ _ => rfl
  unfold mD_clause_F at hm
  obtain ⟨r1, -, hm⟩ := bd_s hm
  refine v_j0 (Fr S r.2 g) hm (fun hm => ?_) (fun j2 kj2 hm => ?_)
  · rcases ite_or hm with ⟨hc, hm⟩ | ⟨hc, hm⟩
    · obtain ⟨h3, he, hm⟩ := bd_s hm
      replace f := fr_tr f (fpD_advance _ he) (fun b hb => hS b ((by decide : ∀ b, b ∈ ([90] : List Nat) → b ∈ ([94, 93, 90] : List Nat)) b hb))
      rcases ite_or hm with ⟨hc, hm⟩ | ⟨hc, hm⟩
      · obtain ⟨r4, h5, he, hm⟩ := bd2_s hm
        replace f := fr_tr f (g0 _ _ _ he) (fun b hb => hb)
        rcases ite_or hm with ⟨hc, hm⟩ | ⟨hc, hm⟩
        · cases hm
          exact f
        · obtain ⟨r6, h7, he, hm⟩ := bd2_s hm
          replace f := fr_tr f (fpD_takesSign _ _ he) (fun b hb => hS b ((by decide : ∀ b, b ∈ ([90] : List Nat) → b ∈ ([94, 93, 90] : List Nat)) b hb))
          rcases ite_or hm with ⟨hc, hm⟩ | ⟨hc, hm⟩
          · cases hm
            exact f
          · cases hm
            exact f
      · obtain ⟨r8, h9, he, hm⟩ := bd2_s hm
        replace f := fr_tr f (g1 _ _ _ he) (fun b hb => hb)
        rcases ite_or hm with ⟨hc, hm⟩ | ⟨hc, hm⟩
        · cases hm
          exact f
        · obtain ⟨r10, h11, he, hm⟩ := bd2_s hm
          replace f := fr_tr f (fpD_emit _ _ _ he) (fun b hb => hS b ((by decide : ∀ b, b ∈ ([94, 93] : List Nat) → b ∈ ([94, 93, 90] : List Nat)) b hb))
          rcases ite_or hm with ⟨hc, hm⟩ | ⟨hc, hm⟩
          · cases hm
            exact f
          · cases hm
            exact f
    · obtain ⟨r12, h13, he, hm⟩ := bd2_s hm
      replace f := fr_tr f (fpD_refuse _ _ he) (fun b hb => hS b ((by decide : ∀ b, b ∈ ([90] : List Nat) → b ∈ ([94, 93, 90] : List Nat)) b hb))
      cases hm
      exact f
  · rcases ite_or hm with ⟨hc, hm⟩ | ⟨hc, hm⟩
    · obtain ⟨r14, -, hm⟩ := bd_s hm
      rcases ite_or hm with ⟨hc, hm⟩ | ⟨hc, hm⟩
      · obtain ⟨r15, h16, he, hm⟩ := bd2_s hm
        replace f := fr_tr f (fpD_expression _ he) (fun b hb => hS b ((by decide : ∀ b, b ∈ ([90, 94, 93] : List Nat) → b ∈ ([94, 93, 90] : List Nat)) b hb))
        rcases ite_or hm with ⟨hc, hm⟩ | ⟨hc, hm⟩
        · cases hm
          exact f
        · obtain ⟨x17, -, hm⟩ := lt_some hm
          obtain ⟨r18, -, hm⟩ := bd_s hm
          refine v_j0 (Fr S r.2 g) hm (fun hm => ?_) (fun j19 kj19 hm => ?_)
          · obtain ⟨h20, he, hm⟩ := bd_s hm
            replace f := fr_tr f (fpD_advance _ he) (fun b hb => hS b ((by decide : ∀ b, b ∈ ([90] : List Nat) → b ∈ ([94, 93, 90] : List Nat)) b hb))
            obtain ⟨r21, h22, he, hm⟩ := bd2_s hm
            replace f := fr_tr f (fpD_expression _ he) (fun b hb => hS b ((by decide : ∀ b, b ∈ ([90, 94, 93] : List Nat) → b ∈ ([94, 93, 90] : List Nat)) b hb))
            rcases ite_or hm with ⟨hc, hm⟩ | ⟨hc, hm⟩
            · cases hm
              exact f
            · refine v_j1 (fun (x24 : Int32) => Fr S r.2 g) hm (fun x24 hm => ?_) (fun j23 kj23 hm => ?_)
              · obtain ⟨r25, h26, he, hm⟩ := bd2_s hm
                replace f := fr_tr f (fpD_emit _ _ _ he) (fun b hb => hS b ((by decide : ∀ b, b ∈ ([94, 93] : List Nat) → b ∈ ([94, 93, 90] : List Nat)) b hb))
                rcases ite_or hm with ⟨hc, hm⟩ | ⟨hc, hm⟩
                · cases hm
                  exact f
                · cases hm
                  exact f
              · rcases ite_or hm with ⟨hc, hm⟩ | ⟨hc, hm⟩
                · exact kj23 _ hm
                · rcases ite_or hm with ⟨hc, hm⟩ | ⟨hc, hm⟩
                  · exact kj23 _ hm
                  · exact kj23 _ hm
          · rcases ite_or hm with ⟨hc, hm⟩ | ⟨hc, hm⟩
            · obtain ⟨r27, -, hm⟩ := bd_s hm
              rcases ite_or hm with ⟨hc, hm⟩ | ⟨hc, hm⟩
              · obtain ⟨r28, -, hm⟩ := bd_s hm
                rcases ite_or hm with ⟨hc, hm⟩ | ⟨hc, hm⟩
                · obtain ⟨r29, h30, he, hm⟩ := bd2_s hm
                  replace f := fr_tr f (fpD_refuse _ _ he) (fun b hb => hS b ((by decide : ∀ b, b ∈ ([90] : List Nat) → b ∈ ([94, 93, 90] : List Nat)) b hb))
                  cases hm
                  exact f
                · exact kj19 hm
              · exact kj19 hm
            · exact kj19 hm
      · exact kj2 hm
    · exact kj2 hm
theorem fpD_cc : ∀ (n : Nat) (b : Bool) (p1 : Int32) (h0 : PH) {r : Int32 × PH}, mD_cc n b p1 h0 = some r → Fr (FPdD_condition p1) r.2 h0 := by
  intro n
  induction n with
  | zero => intro b p1 h0 r hm; cases hm
  | succ n ih =>
    intro b p1 h0 r hm
    cases b with
    | true => exact fpD_condition_F (mD_cc n false) p1 h0 _ (fun b hb => hb) (fun z h r e => ih false z h e) hm
    | false => exact fpD_clause_F (mD_cc n true) (mD_cc n false) p1 h0 _ (fun b hb => hb) (fun z h r e => ih true z h e) (fun z h r e => ih false z h e) hm
theorem fpD_condition (n : Nat) (p1 : Int32) (h0 : PH) {r : Int32 × PH} (hm : mD_condition n p1 h0 = some r) : Fr (FPdD_condition p1) r.2 h0 := fpD_cc n true p1 h0 hm
theorem fpD_clause (n : Nat) (p1 : Int32) (h0 : PH) {r : Int32 × PH} (hm : mD_clause n p1 h0 = some r) : Fr (FPdD_clause p1) r.2 h0 := fpD_cc n false p1 h0 hm
