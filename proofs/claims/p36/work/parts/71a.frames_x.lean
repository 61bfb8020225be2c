def FPdB_write (a0 : Nat) (p1 : Int32) (p2 : Int32) (p3 : Int32) : List Nat := [(a0 + 1)]
theorem fpB_write (a0 : Nat) (p1 : Int32) (p2 : Int32) (p3 : Int32) (h0 : PH) {r : PH} (hm : mB_write a0 p1 p2 p3 h0 = some r) : Fr (FPdB_write a0 p1 p2 p3) r h0 := by
  generalize hSe : FPdB_write a0 p1 p2 p3 = S
  have hS : ∀ b, b ∈ ([(a0 + 1)] : List Nat) → b ∈ S := by rw [← hSe]; exact fun b hb => hb
  generalize hge : h0 = g at ⊢
  have f : Fr S h0 g := by rw [hge]; exact fun _ _ => rfl
  unfold mB_write at hm
  rcases ite_or hm with ⟨hc, hm⟩ | ⟨hc, hm⟩
  · cases hm
    exact f
  · rcases ite_or hm with ⟨hc, hm⟩ | ⟨hc, hm⟩
    · cases hm
      exact f
    · rcases ite_or hm with ⟨hc, hm⟩ | ⟨hc, hm⟩
      · cases hm
        exact f
      · rcases ite_or hm with ⟨hc, hm⟩ | ⟨hc, hm⟩
        · cases hm
          exact f
        · obtain ⟨-, hm⟩ := ck_s hm
          obtain ⟨h1, e1, hm⟩ := lt_some hm
          replace f : Fr S h1 g := by rw [e1]; exact up_fr f (hS _ (by first | simp; done | (simp only [List.mem_cons, List.not_mem_nil, or_false]; omega)))
          cases hm
          exact f
def FPdB_build (a0 : Nat) (p1 : Int32) (p2 : Int32) (p3 : Int32) : List Nat := [a0, (a0 + 1)]
theorem wf_B_build_L19 (a0 : Nat) (p1 : Int32) (p2 : Int32) (p3 : Int32) (p4 : Int32) (k0 : PH → Option (Int32 × PH)) (S : List Nat) (g : PH) (r : Int32 × PH) (hS : ∀ b, b ∈ ([(a0 + 1)] : List Nat) → b ∈ S) (kk0 : ∀ (y0 : PH), k0 y0 = some r → Fr S y0 g → Fr S r.2 g) : ∀ (n : Nat) (v5 : Int32) (hv : PH), mB_build_L19 a0 p1 p2 p3 p4 k0 n v5 hv = some r → Fr S hv g → Fr S r.2 g := by
  intro n
  induction n with
  | zero => intro v5 hv hm; cases hm
  | succ n ih =>
    intro v5 hv hm f
    unfold mB_build_L19 at hm
    rcases ite_or hm with ⟨hc, hm⟩ | ⟨hc, hm⟩
    · exact kk0 _ hm f
    · obtain ⟨h3, he, hm⟩ := bd_s hm
      replace f := fr_tr f (fpB_write _ _ _ _ _ he) (fun b hb => hS b (by simp only [FPdB_write, List.mem_cons, List.not_mem_nil, or_false] at hb ⊢; omega))
      exact ih _ _ hm f
theorem fpB_build (a0 : Nat) (p1 : Int32) (p2 : Int32) (p3 : Int32) (h0 : PH) {r : Int32 × PH} (hm : mB_build a0 p1 p2 p3 h0 = some r) : Fr (FPdB_build a0 p1 p2 p3) r.2 h0 := by
  generalize hSe : FPdB_build a0 p1 p2 p3 = S
  have hS : ∀ b, b ∈ ([a0, (a0 + 1)] : List Nat) → b ∈ S := by rw [← hSe]; exact fun b hb => hb
  generalize hge : h0 = g at ⊢
  have f : Fr S h0 g := by rw [hge]; exact fun _ _ => rfl
  unfold mB_build at hm
  obtain ⟨x1, -, hm⟩ := lt_some hm
  obtain ⟨h2, e1, hm⟩ := lt_some hm
  replace f : Fr S h2 g := by rw [e1]; exact up_fr f (hS _ (by first | simp; done | (simp only [List.mem_cons, List.not_mem_nil, or_false]; omega)))
  refine wf_B_build_L19 _ _ _ _ _ _ S g _ (fun b hb => hS b (by first | exact absurd hb List.not_mem_nil | (simp only [List.mem_cons, List.not_mem_nil, or_false] at hb ⊢; omega))) (fun h4 hm f => ?_) _ _ _ hm f
  · obtain ⟨h5, he, hm⟩ := bd_s hm
    replace f := fr_tr f (fpB_write _ _ _ _ _ he) (fun b hb => hS b (by simp only [FPdB_write, List.mem_cons, List.not_mem_nil, or_false] at hb ⊢; omega))
    obtain ⟨h6, he, hm⟩ := bd_s hm
    replace f := fr_tr f (fpB_write _ _ _ _ _ he) (fun b hb => hS b (by simp only [FPdB_write, List.mem_cons, List.not_mem_nil, or_false] at hb ⊢; omega))
    obtain ⟨h7, he, hm⟩ := bd_s hm
    replace f := fr_tr f (fpB_write _ _ _ _ _ he) (fun b hb => hS b (by simp only [FPdB_write, List.mem_cons, List.not_mem_nil, or_false] at hb ⊢; omega))
    obtain ⟨h8, he, hm⟩ := bd_s hm
    replace f := fr_tr f (fpB_write _ _ _ _ _ he) (fun b hb => hS b (by simp only [FPdB_write, List.mem_cons, List.not_mem_nil, or_false] at hb ⊢; omega))
    obtain ⟨h9, he, hm⟩ := bd_s hm
    replace f := fr_tr f (fpB_write _ _ _ _ _ he) (fun b hb => hS b (by simp only [FPdB_write, List.mem_cons, List.not_mem_nil, or_false] at hb ⊢; omega))
    obtain ⟨h10, he, hm⟩ := bd_s hm
    replace f := fr_tr f (fpB_write _ _ _ _ _ he) (fun b hb => hS b (by simp only [FPdB_write, List.mem_cons, List.not_mem_nil, or_false] at hb ⊢; omega))
    obtain ⟨h11, he, hm⟩ := bd_s hm
    replace f := fr_tr f (fpB_write _ _ _ _ _ he) (fun b hb => hS b (by simp only [FPdB_write, List.mem_cons, List.not_mem_nil, or_false] at hb ⊢; omega))
    cases hm
    exact f
def FPdB_thin (a0 : Nat) (p1 : Int32) (p2 : Int32) (p3 : Int32) : List Nat := [(a0 + 1)]
theorem fpB_thin (a0 : Nat) (p1 : Int32) (p2 : Int32) (p3 : Int32) (h0 : PH) {r : Int32 × PH} (hm : mB_thin a0 p1 p2 p3 h0 = some r) : Fr (FPdB_thin a0 p1 p2 p3) r.2 h0 := by
  generalize hSe : FPdB_thin a0 p1 p2 p3 = S
  have hS : ∀ b, b ∈ ([(a0 + 1)] : List Nat) → b ∈ S := by rw [← hSe]; exact fun b hb => hb
  generalize hge : h0 = g at ⊢
  have f : Fr S h0 g := by rw [hge]; exact fun _ _ => rfl
  unfold mB_thin at hm
  obtain ⟨r1, -, hm⟩ := bd_s hm
  obtain ⟨x2, -, hm⟩ := lt_some hm
  obtain ⟨h3, he, hm⟩ := bd_s hm
  replace f := fr_tr f (fpB_write _ _ _ _ _ he) (fun b hb => hS b (by simp only [FPdB_write, List.mem_cons, List.not_mem_nil, or_false] at hb ⊢; omega))
  cases hm
  exact f
def FPdB_thicken (a0 : Nat) (p1 : Int32) (p2 : Int32) (p3 : Int32) : List Nat := [(a0 + 1)]
theorem fpB_thicken (a0 : Nat) (p1 : Int32) (p2 : Int32) (p3 : Int32) (h0 : PH) {r : PH} (hm : mB_thicken a0 p1 p2 p3 h0 = some r) : Fr (FPdB_thicken a0 p1 p2 p3) r h0 := by
  generalize hSe : FPdB_thicken a0 p1 p2 p3 = S
  have hS : ∀ b, b ∈ ([(a0 + 1)] : List Nat) → b ∈ S := by rw [← hSe]; exact fun b hb => hb
  generalize hge : h0 = g at ⊢
  have f : Fr S h0 g := by rw [hge]; exact fun _ _ => rfl
  unfold mB_thicken at hm
  obtain ⟨r1, -, hm⟩ := bd_s hm
  obtain ⟨h2, he, hm⟩ := bd_s hm
  replace f := fr_tr f (fpB_write _ _ _ _ _ he) (fun b hb => hS b (by simp only [FPdB_write, List.mem_cons, List.not_mem_nil, or_false] at hb ⊢; omega))
  cases hm
  exact f
def FPdB_draw (a0 : Nat) (p1 : Int32) : List Nat := [a0]
theorem fpB_draw (a0 : Nat) (p1 : Int32) (h0 : PH) {r : Int32 × PH} (hm : mB_draw a0 p1 h0 = some r) : Fr (FPdB_draw a0 p1) r.2 h0 := by
  generalize hSe : FPdB_draw a0 p1 = S
  have hS : ∀ b, b ∈ ([a0] : List Nat) → b ∈ S := by rw [← hSe]; exact fun b hb => hb
  generalize hge : h0 = g at ⊢
  have f : Fr S h0 g := by rw [hge]; exact fun _ _ => rfl
  unfold mB_draw at hm
  obtain ⟨h1, e1, hm⟩ := lt_some hm
  replace f : Fr S h1 g := by rw [e1]; exact up_fr f (hS _ (by first | simp; done | (simp only [List.mem_cons, List.not_mem_nil, or_false]; omega)))
  rcases ite_or hm with ⟨hc, hm⟩ | ⟨hc, hm⟩
  · cases hm
    exact f
  · obtain ⟨-, hm⟩ := dz_s hm
    cases hm
    exact f
def FPdB_copyFrom (a0 : Nat) (a1 : Nat) : List Nat := [(a0 + 1), a0]
theorem fpB_copyFrom (a0 : Nat) (a1 : Nat) (h0 : PH) {r : PH} (hm : mB_copyFrom a0 a1 h0 = some r) : Fr (FPdB_copyFrom a0 a1) r h0 := by
  generalize hSe : FPdB_copyFrom a0 a1 = S
  have hS : ∀ b, b ∈ ([(a0 + 1), a0] : List Nat) → b ∈ S := by rw [← hSe]; exact fun b hb => hb
  generalize hge : h0 = g at ⊢
  have f : Fr S h0 g := by rw [hge]; exact fun _ _ => rfl
  unfold mB_copyFrom at hm
  obtain ⟨-, hm⟩ := cc_s hm
  obtain ⟨h1, e1, hm⟩ := lt_some hm
  replace f : Fr S h1 g := by rw [e1]; exact cpy_fr f (hS _ (by first | simp; done | (simp only [List.mem_cons, List.not_mem_nil, or_false]; omega)))
  obtain ⟨h2, e1, hm⟩ := lt_some hm
  replace f : Fr S h2 g := by rw [e1]; exact up_fr f (hS _ (by first | simp; done | (simp only [List.mem_cons, List.not_mem_nil, or_false]; omega)))
  obtain ⟨h3, e1, hm⟩ := lt_some hm
  replace f : Fr S h3 g := by rw [e1]; exact up_fr f (hS _ (by first | simp; done | (simp only [List.mem_cons, List.not_mem_nil, or_false]; omega)))
  obtain ⟨h4, e1, hm⟩ := lt_some hm
  replace f : Fr S h4 g := by rw [e1]; exact up_fr f (hS _ (by first | simp; done | (simp only [List.mem_cons, List.not_mem_nil, or_false]; omega)))
  obtain ⟨h5, e1, hm⟩ := lt_some hm
  replace f : Fr S h5 g := by rw [e1]; exact up_fr f (hS _ (by first | simp; done | (simp only [List.mem_cons, List.not_mem_nil, or_false]; omega)))
  obtain ⟨h6, e1, hm⟩ := lt_some hm
  replace f : Fr S h6 g := by rw [e1]; exact up_fr f (hS _ (by first | simp; done | (simp only [List.mem_cons, List.not_mem_nil, or_false]; omega)))
  obtain ⟨h7, e1, hm⟩ := lt_some hm
  replace f : Fr S h7 g := by rw [e1]; exact up_fr f (hS _ (by first | simp; done | (simp only [List.mem_cons, List.not_mem_nil, or_false]; omega)))
  obtain ⟨h8, e1, hm⟩ := lt_some hm
  replace f : Fr S h8 g := by rw [e1]; exact up_fr f (hS _ (by first | simp; done | (simp only [List.mem_cons, List.not_mem_nil, or_false]; omega)))
  cases hm
  exact f
def FPdR_add (a0 : Nat) (p1 : Int32) (p2 : Int32) (p3 : Int32) (p4 : Int32) (p5 : Int32) : List Nat := [(a0 + 1), a0]
theorem fpR_add (a0 : Nat) (p1 : Int32) (p2 : Int32) (p3 : Int32) (p4 : Int32) (p5 : Int32) (h0 : PH) {r : Int32 × PH} (hm : mR_add a0 p1 p2 p3 p4 p5 h0 = some r) : Fr (FPdR_add a0 p1 p2 p3 p4 p5) r.2 h0 := by
  generalize hSe : FPdR_add a0 p1 p2 p3 p4 p5 = S
  have hS : ∀ b, b ∈ ([(a0 + 1), a0] : List Nat) → b ∈ S := by rw [← hSe]; exact fun b hb => hb
  generalize hge : h0 = g at ⊢
  have f : Fr S h0 g := by rw [hge]; exact fun _ _ => rfl
  unfold mR_add at hm
  rcases ite_or hm with ⟨hc, hm⟩ | ⟨hc, hm⟩
  · obtain ⟨x1, -, hm⟩ := lt_some hm
    obtain ⟨-, hm⟩ := ck_s hm
    obtain ⟨h2, e1, hm⟩ := lt_some hm
    replace f : Fr S h2 g := by rw [e1]; exact up_fr f (hS _ (by first | simp; done | (simp only [List.mem_cons, List.not_mem_nil, or_false]; omega)))
    refine v_j1 (fun (h4 : PH) => Fr S h4 g → Fr S r.2 g) hm (fun h4 hm f => ?_) (fun j3 kj3 hm => ?_)
    · refine v_j1 (fun (h6 : PH) => Fr S h6 g → Fr S r.2 g) hm (fun h6 hm f => ?_) (fun j5 kj5 hm => ?_)
      · refine v_j1 (fun (h8 : PH) => Fr S h8 g → Fr S r.2 g) hm (fun h8 hm f => ?_) (fun j7 kj7 hm => ?_)
        · refine v_j1 (fun (h10 : PH) => Fr S h10 g → Fr S r.2 g) hm (fun h10 hm f => ?_) (fun j9 kj9 hm => ?_)
          · obtain ⟨h11, e1, hm⟩ := lt_some hm
            replace f : Fr S h11 g := by rw [e1]; exact up_fr f (hS _ (by first | simp; done | (simp only [List.mem_cons, List.not_mem_nil, or_false]; omega)))
            cases hm
            exact f
          · rcases ite_or hm with ⟨hc, hm⟩ | ⟨hc, hm⟩
            · exact kj9 _ hm f
            · obtain ⟨-, hm⟩ := ck_s hm
              obtain ⟨h12, e1, hm⟩ := lt_some hm
              replace f : Fr S h12 g := by rw [e1]; exact up_fr f (hS _ (by first | simp; done | (simp only [List.mem_cons, List.not_mem_nil, or_false]; omega)))
              exact kj9 _ hm f
        · rcases ite_or hm with ⟨hc, hm⟩ | ⟨hc, hm⟩
          · exact kj7 _ hm f
          · obtain ⟨-, hm⟩ := ck_s hm
            obtain ⟨h13, e1, hm⟩ := lt_some hm
            replace f : Fr S h13 g := by rw [e1]; exact up_fr f (hS _ (by first | simp; done | (simp only [List.mem_cons, List.not_mem_nil, or_false]; omega)))
            exact kj7 _ hm f
      · rcases ite_or hm with ⟨hc, hm⟩ | ⟨hc, hm⟩
        · exact kj5 _ hm f
        · obtain ⟨-, hm⟩ := ck_s hm
          obtain ⟨h14, e1, hm⟩ := lt_some hm
          replace f : Fr S h14 g := by rw [e1]; exact up_fr f (hS _ (by first | simp; done | (simp only [List.mem_cons, List.not_mem_nil, or_false]; omega)))
          exact kj5 _ hm f
    · rcases ite_or hm with ⟨hc, hm⟩ | ⟨hc, hm⟩
      · exact kj3 _ hm f
      · obtain ⟨-, hm⟩ := ck_s hm
        obtain ⟨h15, e1, hm⟩ := lt_some hm
        replace f : Fr S h15 g := by rw [e1]; exact up_fr f (hS _ (by first | simp; done | (simp only [List.mem_cons, List.not_mem_nil, or_false]; omega)))
        exact kj3 _ hm f
  · cases hm
    exact f
def FPdR_copyFrom (a0 : Nat) (a1 : Nat) : List Nat := [(a0 + 1), a0]
theorem fpR_copyFrom (a0 : Nat) (a1 : Nat) (h0 : PH) {r : PH} (hm : mR_copyFrom a0 a1 h0 = some r) : Fr (FPdR_copyFrom a0 a1) r h0 := by
  generalize hSe : FPdR_copyFrom a0 a1 = S
  have hS : ∀ b, b ∈ ([(a0 + 1), a0] : List Nat) → b ∈ S := by rw [← hSe]; exact fun b hb => hb
  generalize hge : h0 = g at ⊢
  have f : Fr S h0 g := by rw [hge]; exact fun _ _ => rfl
  unfold mR_copyFrom at hm
  obtain ⟨x1, -, hm⟩ := lt_some hm
  rcases ite_or hm with ⟨hc, hm⟩ | ⟨hc, hm⟩
  · rcases ite_or hm with ⟨hc, hm⟩ | ⟨hc, hm⟩
    · cases hm
      exact f
    · obtain ⟨-, hm⟩ := cc_s hm
      obtain ⟨h2, e1, hm⟩ := lt_some hm
      replace f : Fr S h2 g := by rw [e1]; exact cpy_fr f (hS _ (by first | simp; done | (simp only [List.mem_cons, List.not_mem_nil, or_false]; omega)))
      obtain ⟨h3, e1, hm⟩ := lt_some hm
      replace f : Fr S h3 g := by rw [e1]; exact up_fr f (hS _ (by first | simp; done | (simp only [List.mem_cons, List.not_mem_nil, or_false]; omega)))
      cases hm
      exact f
  · cases hm
    exact f
def FPdL_learn : List Nat := [103]
theorem wf_L_learn_L2  (S : List Nat) (g : PH) (r : PH) (hS : ∀ b, b ∈ ([103] : List Nat) → b ∈ S) : ∀ (n : Nat) (v1 : Int32) (hv : PH), mL_learn_L2  n v1 hv = some r → Fr S hv g → Fr S r g := by
  intro n
  induction n with
  | zero => intro v1 hv hm; cases hm
  | succ n ih =>
    intro v1 hv hm f
    unfold mL_learn_L2 at hm
    rcases ite_or hm with ⟨hc, hm⟩ | ⟨hc, hm⟩
    · cases hm
      exact f
    · obtain ⟨r1, -, hm⟩ := bd_s hm
      rcases ite_or hm with ⟨hc, hm⟩ | ⟨hc, hm⟩
      · exact ih _ _ hm f
      · obtain ⟨r2, -, hm⟩ := bd_s hm
        rcases ite_or hm with ⟨hc, hm⟩ | ⟨hc, hm⟩
        · obtain ⟨-, hm⟩ := ck_s hm
          obtain ⟨-, hm⟩ := ck_s hm
          obtain ⟨h3, e1, hm⟩ := lt_some hm
          replace f : Fr S h3 g := by rw [e1]; exact up_fr f (hS _ (by decide))
          exact ih _ _ hm f
        · exact ih _ _ hm f
theorem fpL_learn (h0 : PH) {r : PH} (hm : mL_learn h0 = some r) : Fr (FPdL_learn ) r h0 := by
  generalize hSe : FPdL_learn = S
  have hS : ∀ b, b ∈ ([103] : List Nat) → b ∈ S := by rw [← hSe]; exact fun b hb => hb
  generalize hge : h0 = g at ⊢
  have f : Fr S h0 g := by rw [hge]; exact fun _ _ => rfl
  unfold mL_learn at hm
  exact wf_L_learn_L2 S g _ (fun b hb => hS b ((by decide : ∀ b, b ∈ ([103] : List Nat) → b ∈ ([103] : List Nat)) b hb)) _ _ _ hm f
def FPdL_bestBite (p1 : Int32) (p2 : Int32) : List Nat := [103, 102]
theorem wf_L_bestBite_L21 (p1 : Int32) (p2 : Int32) (h0 : PH) (k0 : Int32 → Option (Int32 × PH)) (S : List Nat) (g : PH) (r : Int32 × PH) (hS : ∀ b, b ∈ ([] : List Nat) → b ∈ S) (f : Fr S h0 g) (kk0 : ∀ (y0 : Int32), k0 y0 = some r → Fr S r.2 g) : ∀ (n : Nat) (v3 : Int32) (v4 : Int32), mL_bestBite_L21 p1 p2 h0 k0 n v3 v4 = some r → Fr S r.2 g := by
  intro n
  induction n with
  | zero => intro v3 v4 hm; cases hm
  | succ n ih =>
    intro v3 v4 hm
    unfold mL_bestBite_L21 at hm
    rcases ite_or hm with ⟨hc, hm⟩ | ⟨hc, hm⟩
    · exact kk0 _ hm
    · obtain ⟨x3, -, hm⟩ := lt_some hm
      exact ih _ _ hm
theorem fpL_bestBite (p1 : Int32) (p2 : Int32) (h0 : PH) {r : Int32 × PH} (hm : mL_bestBite p1 p2 h0 = some r) : Fr (FPdL_bestBite p1 p2) r.2 h0 := by
  generalize hSe : FPdL_bestBite p1 p2 = S
  have hS : ∀ b, b ∈ ([103, 102] : List Nat) → b ∈ S := by rw [← hSe]; exact fun b hb => hb
  generalize hge : h0 = g at ⊢
  have f : Fr S h0 g := by rw [hge]; exact fun _ _ => rfl
  unfold mL_bestBite at hm
  refine v_j1 (fun (h2 : PH) => Fr S h2 g → Fr S r.2 g) hm (fun h2 hm f => ?_) (fun j1 kj1 hm => ?_)
  · refine wf_L_bestBite_L21 _ _ _ _ S g _ (fun b hb => hS b ((by decide : ∀ b, b ∈ ([] : List Nat) → b ∈ ([103, 102] : List Nat)) b hb)) f (fun x4 hm => ?_) _ _ _ hm
    · obtain ⟨r5, -, hm⟩ := bd_s hm
      cases hm
      exact f
  · rcases ite_or hm with ⟨hc, hm⟩ | ⟨hc, hm⟩
    · obtain ⟨h6, he, hm⟩ := bd_s hm
      replace f := fr_tr f (fpL_learn _ he) (fun b hb => hS b ((by decide : ∀ b, b ∈ ([103] : List Nat) → b ∈ ([103, 102] : List Nat)) b hb))
      obtain ⟨h7, e1, hm⟩ := lt_some hm
      replace f : Fr S h7 g := by rw [e1]; exact up_fr f (hS _ (by decide))
      exact kj1 _ hm f
    · exact kj1 _ hm f
def FPdK_fewestFrom (a1 : Nat) (p2 : Int32) (p3 : Int32) (p4 : Int32) : List Nat := [99]
theorem wf_K_fewestFrom_L26 (a1 : Nat) (p2 : Int32) (p3 : Int32) (p4 : Int32) (p5 : Int32) (f0 : Nat → Int32 → Int32 → Int32 → PH → Option (Int32 × PH)) (S : List Nat) (g : PH) (r : Int32 × PH) (g0 : ∀ (z0 : Nat) (z1 : Int32) (z2 : Int32) (z3 : Int32) (z4 : PH) (zr : Int32 × PH), f0 z0 z1 z2 z3 z4 = some zr → Fr S zr.2 z4) (hS : ∀ b, b ∈ ([99] : List Nat) → b ∈ S) : ∀ (n : Nat) (v6 : Int32) (v7 : Int32) (hv : PH), mK_fewestFrom_L26 a1 p2 p3 p4 p5 f0 n v6 v7 hv = some r → Fr S hv g → Fr S r.2 g := by
  intro n
  induction n with
  | zero => intro v6 v7 hv hm; cases hm
  | succ n ih =>
    intro v6 v7 hv hm f
    unfold mK_fewestFrom_L26 at hm
    rcases ite_or hm with ⟨hc, hm⟩ | ⟨hc, hm⟩
    · cases hm
      exact f
    · rcases ite_or hm with ⟨hc, hm⟩ | ⟨hc, hm⟩
      · cases hm
        exact f
      · refine v_j1 (fun (x3 : Int32) => Fr S r.2 g) hm (fun x3 hm => ?_) (fun j2 kj2 hm => ?_)
        · rcases ite_or hm with ⟨hc, hm⟩ | ⟨hc, hm⟩
          · exact ih _ _ _ hm f
          · obtain ⟨-, hm⟩ := ck_s hm
            obtain ⟨h4, e1, hm⟩ := lt_some hm
            replace f : Fr S h4 g := by rw [e1]; exact up_fr f (hS _ (by decide))
            obtain ⟨r5, h6, he, hm⟩ := bd2_s hm
            replace f := fr_tr f (g0 _ _ _ _ _ _ he) (fun b hb => hb)
            obtain ⟨x7, -, hm⟩ := lt_some hm
            obtain ⟨-, hm⟩ := ck_s hm
            obtain ⟨h8, e1, hm⟩ := lt_some hm
            replace f : Fr S h8 g := by rw [e1]; exact up_fr f (hS _ (by decide))
            exact ih _ _ _ hm f
        · rcases ite_or hm with ⟨hc, hm⟩ | ⟨hc, hm⟩
          · exact kj2 _ hm
          · obtain ⟨-, hm⟩ := ck_s hm
            exact kj2 _ hm
theorem fpK_fewestFrom_F (f0 : Nat → Int32 → Int32 → Int32 → PH → Option (Int32 × PH)) (a1 : Nat) (p2 : Int32) (p3 : Int32) (p4 : Int32) (h0 : PH) {r : Int32 × PH} (S : List Nat) (hS : ∀ b, b ∈ FPdK_fewestFrom a1 p2 p3 p4 → b ∈ S) (g0 : ∀ (z0 : Nat) (z1 : Int32) (z2 : Int32) (z3 : Int32) (z4 : PH) (zr : Int32 × PH), f0 z0 z1 z2 z3 z4 = some zr → Fr S zr.2 z4) (hm : mK_fewestFrom_F f0 a1 p2 p3 p4 h0 = some r) : Fr S r.2 h0 := by
  replace hS : ∀ b, b ∈ ([99] : List Nat) → b ∈ S := hS
  generalize hge : h0 = g at ⊢
  have f : Fr S h0 g := by rw [hge]; exact fun _ _ => rfl
  unfold mK_fewestFrom_F at hm
  rcases ite_or hm with ⟨hc, hm⟩ | ⟨hc, hm⟩
  · obtain ⟨r1, -, hm⟩ := bd_s hm
    exact wf_K_fewestFrom_L26 _ _ _ _ _ _ S g _ g0 (fun b hb => hS b ((by decide : ∀ b, b ∈ ([99] : List Nat) → b ∈ ([99] : List Nat)) b hb)) _ _ _ _ hm f
  · cases hm
    exact f
theorem fpK_fewestFrom : ∀ (n : Nat) (a1 : Nat) (p2 : Int32) (p3 : Int32) (p4 : Int32) (h0 : PH) {r : Int32 × PH}, mK_fewestFrom n a1 p2 p3 p4 h0 = some r → Fr (FPdK_fewestFrom a1 p2 p3 p4) r.2 h0 := by
  intro n
  induction n with
  | zero => intro a1 p2 p3 p4 h0 r hm; cases hm
  | succ n ih =>
    intro a1 p2 p3 p4 h0 r hm
    exact fpK_fewestFrom_F (mK_fewestFrom n) a1 p2 p3 p4 h0 _ (fun b hb => hb) (fun z0 z1 z2 z3 h r e => ih z0 z1 z2 z3 h e) hm
def FPdK_fewestPans (a1 : Nat) (p2 : Int32) : List Nat := [99]
theorem fpK_fewestPans (a1 : Nat) (p2 : Int32) (h0 : PH) {r : Int32 × PH} (hm : mK_fewestPans a1 p2 h0 = some r) : Fr (FPdK_fewestPans a1 p2) r.2 h0 := by
  generalize hSe : FPdK_fewestPans a1 p2 = S
  have hS : ∀ b, b ∈ ([99] : List Nat) → b ∈ S := by rw [← hSe]; exact fun b hb => hb
  generalize hge : h0 = g at ⊢
  have f : Fr S h0 g := by rw [hge]; exact fun _ _ => rfl
  unfold mK_fewestPans at hm
  obtain ⟨r1, h2, he, hm⟩ := bd2_s hm
  replace f := fr_tr f (fpK_fewestFrom _ _ _ _ _ _ he) (fun b hb => hS b ((by decide : ∀ b, b ∈ ([99] : List Nat) → b ∈ ([99] : List Nat)) b hb))
  cases hm
  exact f
def FPdK_firstFitPans (a1 : Nat) (p2 : Int32) : List Nat := [99]
theorem wf_K_firstFitPans_L26 (a1 : Nat) (p2 : Int32) (p3 : Int32) (p4 : Int32) (p5 : Int32) (h0 : PH) (k0 : Int32 → Option (Int32 × PH)) (S : List Nat) (g : PH) (r : Int32 × PH) (hS : ∀ b, b ∈ ([] : List Nat) → b ∈ S) (f : Fr S h0 g) (kk0 : ∀ (y0 : Int32), k0 y0 = some r → Fr S r.2 g) : ∀ (n : Nat) (v6 : Int32), mK_firstFitPans_L26 a1 p2 p3 p4 p5 h0 k0 n v6 = some r → Fr S r.2 g := by
  intro n
  induction n with
  | zero => intro v6 hm; cases hm
  | succ n ih =>
    intro v6 hm
    unfold mK_firstFitPans_L26 at hm
    rcases ite_or hm with ⟨hc, hm⟩ | ⟨hc, hm⟩
    · exact kk0 _ hm
    · obtain ⟨-, hm⟩ := ck_s hm
      rcases ite_or hm with ⟨hc, hm⟩ | ⟨hc, hm⟩
      · exact kk0 _ hm
      · exact ih _ hm
theorem wf_K_firstFitPans_L5 (a1 : Nat) (p2 : Int32) (S : List Nat) (g : PH) (r : Int32 × PH) (hS : ∀ b, b ∈ ([99] : List Nat) → b ∈ S) : ∀ (n : Nat) (v3 : Int32) (v4 : Int32) (hv : PH), mK_firstFitPans_L5 a1 p2 n v3 v4 hv = some r → Fr S hv g → Fr S r.2 g := by
  intro n
  induction n with
  | zero => intro v3 v4 hv hm; cases hm
  | succ n ih =>
    intro v3 v4 hv hm f
    unfold mK_firstFitPans_L5 at hm
    rcases ite_or hm with ⟨hc, hm⟩ | ⟨hc, hm⟩
    · cases hm
      exact f
    · obtain ⟨r1, -, hm⟩ := bd_s hm
      refine wf_K_firstFitPans_L26 _ _ _ _ _ _ _ S g _ (fun b hb => hS b ((by decide : ∀ b, b ∈ ([] : List Nat) → b ∈ ([99] : List Nat)) b hb)) f (fun x2 hm => ?_) _ _ hm
      · rcases ite_or hm with ⟨hc, hm⟩ | ⟨hc, hm⟩
        · exact ih _ _ _ hm f
        · refine v_j1 (fun (x4 : Int32) => Fr S r.2 g) hm (fun x4 hm => ?_) (fun j3 kj3 hm => ?_)
          · obtain ⟨-, hm⟩ := ck_s hm
            obtain ⟨h5, e1, hm⟩ := lt_some hm
            replace f : Fr S h5 g := by rw [e1]; exact up_fr f (hS _ (by decide))
            obtain ⟨x6, -, hm⟩ := lt_some hm
            exact ih _ _ _ hm f
          · rcases ite_or hm with ⟨hc, hm⟩ | ⟨hc, hm⟩
            · exact kj3 _ hm
            · obtain ⟨-, hm⟩ := ck_s hm
              exact kj3 _ hm
theorem fpK_firstFitPans (a1 : Nat) (p2 : Int32) (h0 : PH) {r : Int32 × PH} (hm : mK_firstFitPans a1 p2 h0 = some r) : Fr (FPdK_firstFitPans a1 p2) r.2 h0 := by
  generalize hSe : FPdK_firstFitPans a1 p2 = S
  have hS : ∀ b, b ∈ ([99] : List Nat) → b ∈ S := by rw [← hSe]; exact fun b hb => hb
  generalize hge : h0 = g at ⊢
  have f : Fr S h0 g := by rw [hge]; exact fun _ _ => rfl
  unfold mK_firstFitPans at hm
  exact wf_K_firstFitPans_L5 _ _ S g _ (fun b hb => hS b ((by decide : ∀ b, b ∈ ([99] : List Nat) → b ∈ ([99] : List Nat)) b hb)) _ _ _ _ hm f
def FPdK_walk (a1 : Nat) : List Nat := [100, 101]
theorem wf_K_walk_L26 (a1 : Nat) (p2 : Int32) (S : List Nat) (g : PH) (r : Int32 × PH) (hS : ∀ b, b ∈ ([100, 101] : List Nat) → b ∈ S) : ∀ (n : Nat) (v3 : Int32) (hv : PH), mK_walk_L26 a1 p2 n v3 hv = some r → Fr S hv g → Fr S r.2 g := by
  intro n
  induction n with
  | zero => intro v3 hv hm; cases hm
  | succ n ih =>
    intro v3 hv hm f
    unfold mK_walk_L26 at hm
    rcases ite_or hm with ⟨hc, hm⟩ | ⟨hc, hm⟩
    · cases hm
      exact f
    · obtain ⟨r4, -, hm⟩ := bd_s hm
      obtain ⟨-, hm⟩ := ck_s hm
      refine v_j1 (fun (x6 : Int32) => Fr S r.2 g) hm (fun x6 hm => ?_) (fun j5 kj5 hm => ?_)
      · obtain ⟨-, hm⟩ := ck_s hm
        obtain ⟨h7, e1, hm⟩ := lt_some hm
        replace f : Fr S h7 g := by rw [e1]; exact up_fr f (hS _ (by decide))
        obtain ⟨-, hm⟩ := ck_s hm
        refine v_j1 (fun (x9 : Int32) => Fr S r.2 g) hm (fun x9 hm => ?_) (fun j8 kj8 hm => ?_)
        · obtain ⟨-, hm⟩ := ck_s hm
          obtain ⟨h10, e1, hm⟩ := lt_some hm
          replace f : Fr S h10 g := by rw [e1]; exact up_fr f (hS _ (by decide))
          exact ih _ _ hm f
        · rcases ite_or hm with ⟨hc, hm⟩ | ⟨hc, hm⟩
          · exact kj8 _ hm
          · rcases ite_or hm with ⟨hc, hm⟩ | ⟨hc, hm⟩
            · exact kj8 _ hm
            · exact kj8 _ hm
      · rcases ite_or hm with ⟨hc, hm⟩ | ⟨hc, hm⟩
        · exact kj5 _ hm
        · rcases ite_or hm with ⟨hc, hm⟩ | ⟨hc, hm⟩
          · exact kj5 _ hm
          · exact kj5 _ hm
theorem fpK_walk (a1 : Nat) (h0 : PH) {r : Int32 × PH} (hm : mK_walk a1 h0 = some r) : Fr (FPdK_walk a1) r.2 h0 := by
  generalize hSe : FPdK_walk a1 = S
  have hS : ∀ b, b ∈ ([100, 101] : List Nat) → b ∈ S := by rw [← hSe]; exact fun b hb => hb
  generalize hge : h0 = g at ⊢
  have f : Fr S h0 g := by rw [hge]; exact fun _ _ => rfl
  unfold mK_walk at hm
  obtain ⟨x1, -, hm⟩ := lt_some hm
  obtain ⟨-, hm⟩ := ck_s hm
  obtain ⟨h2, e1, hm⟩ := lt_some hm
  replace f : Fr S h2 g := by rw [e1]; exact up_fr f (hS _ (by decide))
  obtain ⟨-, hm⟩ := ck_s hm
  obtain ⟨h3, e1, hm⟩ := lt_some hm
  replace f : Fr S h3 g := by rw [e1]; exact up_fr f (hS _ (by decide))
  exact wf_K_walk_L26 _ _ S g _ (fun b hb => hS b ((by decide : ∀ b, b ∈ ([100, 101] : List Nat) → b ∈ ([100, 101] : List Nat)) b hb)) _ _ _ hm f
def FPdK_wayHome (a1 : Nat) : List Nat := [100, 101]
