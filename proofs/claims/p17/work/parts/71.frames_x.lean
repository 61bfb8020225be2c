def FPdB_write (a0 : Nat) (p1 : Int32) (p2 : Int32) (p3 : Int32) : List Nat := [(a0 + 1)]
theorem fpB_write (a0 : Nat) (p1 : Int32) (p2 : Int32) (p3 : Int32) (h0 : PH) {r : PH} (hm : mB_write a0 p1 p2 p3 h0 = some r) : Fr (FPdB_write a0 p1 p2 p3) r h0 := by
  generalize hSe : FPdB_write a0 p1 p2 p3 = S
  have hS : ∀ b, b ∈ ([(a0 + 1)] : List Nat) → b ∈ S := by rw [← hSe]; exact fun b hb => hb
  generalize hge : h0 = g at ⊢
  have f : Fr S h0 g := by rw [hge]; exact fun _ _ => rfl
  unfold mB_write at hm
  rcases ite_or hm with ⟨hc, hm⟩ | ⟨hc, hm⟩
  · cases hm
    exact f
  · rcases ite_or hm with ⟨hc, hm⟩ | ⟨hc, hm⟩
    · cases hm
      exact f
    · rcases ite_or hm with ⟨hc, hm⟩ | ⟨hc, hm⟩
      · cases hm
        exact f
      · rcases ite_or hm with ⟨hc, hm⟩ | ⟨hc, hm⟩
        · cases hm
          exact f
        · obtain ⟨-, hm⟩ := ck_s hm
          obtain ⟨h1, e1, hm⟩ := lt_some hm
          replace f : Fr S h1 g := by rw [e1]; exact up_fr f (hS _ (by first | simp; done | (simp only [List.mem_cons, List.not_mem_nil, or_false]; omega)))
          cases hm
          exact f
def FPdB_build (a0 : Nat) (p1 : Int32) (p2 : Int32) (p3 : Int32) : List Nat := [a0, (a0 + 1)]
theorem wf_B_build_L19 (a0 : Nat) (p1 : Int32) (p2 : Int32) (p3 : Int32) (p4 : Int32) (k0 : PH → Option (Int32 × PH)) (S : List Nat) (g : PH) (r : Int32 × PH) (hS : ∀ b, b ∈ ([(a0 + 1)] : List Nat) → b ∈ S) (kk0 : ∀ (y0 : PH), k0 y0 = some r → Fr S y0 g → Fr S r.2 g) : ∀ (n : Nat) (v5 : Int32) (hv : PH), mB_build_L19 a0 p1 p2 p3 p4 k0 n v5 hv = some r → Fr S hv g → Fr S r.2 g := by
  intro n
  induction n with
  | zero => intro v5 hv hm; cases hm
  | succ n ih =>
    intro v5 hv hm f
    unfold mB_build_L19 at hm
    rcases ite_or hm with ⟨hc, hm⟩ | ⟨hc, hm⟩
    · exact kk0 _ hm f
    · obtain ⟨h3, he, hm⟩ := bd_s hm
      replace f := fr_tr f (fpB_write _ _ _ _ _ he) (fun b hb => hS b (by simp only [FPdB_write, List.mem_cons, List.not_mem_nil, or_false] at hb ⊢; omega))
      exact ih _ _ hm f
theorem fpB_build (a0 : Nat) (p1 : Int32) (p2 : Int32) (p3 : Int32) (h0 : PH) {r : Int32 × PH} (hm : mB_build a0 p1 p2 p3 h0 = some r) : Fr (FPdB_build a0 p1 p2 p3) r.2 h0 := by
  generalize hSe : FPdB_build a0 p1 p2 p3 = S
  have hS : ∀ b, b ∈ ([a0, (a0 + 1)] : List Nat) → b ∈ S := by rw [← hSe]; exact fun b hb => hb
  generalize hge : h0 = g at ⊢
  have f : Fr S h0 g := by rw [hge]; exact fun _ _ => rfl
  unfold mB_build at hm
  obtain ⟨x1, -, hm⟩ := lt_some hm
  obtain ⟨h2, e1, hm⟩ := lt_some hm
  replace f : Fr S h2 g := by rw [e1]; exact up_fr f (hS _ (by first | simp; done | (simp only [List.mem_cons, List.not_mem_nil, or_false]; omega)))
  refine wf_B_build_L19 _ _ _ _ _ _ S g _ (fun b hb => hS b (by first | exact absurd hb List.not_mem_nil | (simp only [List.mem_cons, List.not_mem_nil, or_false] at hb ⊢; omega))) (fun h4 hm f => ?_) _ _ _ hm f
  · obtain ⟨h5, he, hm⟩ := bd_s hm
    replace f := fr_tr f (fpB_write _ _ _ _ _ he) (fun b hb => hS b (by simp only [FPdB_write, List.mem_cons, List.not_mem_nil, or_false] at hb ⊢; omega))
    obtain ⟨h6, he, hm⟩ := bd_s hm
    replace f := fr_tr f (fpB_write _ _ _ _ _ he) (fun b hb => hS b (by simp only [FPdB_write, List.mem_cons, List.not_mem_nil, or_false] at hb ⊢; omega))
    obtain ⟨h7, he, hm⟩ := bd_s hm
    replace f := fr_tr f (fpB_write _ _ _ _ _ he) (fun b hb => hS b (by simp only [FPdB_write, List.mem_cons, List.not_mem_nil, or_false] at hb ⊢; omega))
    obtain ⟨h8, he, hm⟩ := bd_s hm
    replace f := fr_tr f (fpB_write _ _ _ _ _ he) (fun b hb => hS b (by simp only [FPdB_write, List.mem_cons, List.not_mem_nil, or_false] at hb ⊢; omega))
    obtain ⟨h9, he, hm⟩ := bd_s hm
    replace f := fr_tr f (fpB_write _ _ _ _ _ he) (fun b hb => hS b (by simp only [FPdB_write, List.mem_cons, List.not_mem_nil, or_false] at hb ⊢; omega))
    obtain ⟨h10, he, hm⟩ := bd_s hm
    replace f := fr_tr f (fpB_write _ _ _ _ _ he) (fun b hb => hS b (by simp only [FPdB_write, List.mem_cons, List.not_mem_nil, or_false] at hb ⊢; omega))
    obtain ⟨h11, he, hm⟩ := bd_s hm
    replace f := fr_tr f (fpB_write _ _ _ _ _ he) (fun b hb => hS b (by simp only [FPdB_write, List.mem_cons, List.not_mem_nil, or_false] at hb ⊢; omega))
    cases hm
    exact f
def FPdB_thin (a0 : Nat) (p1 : Int32) (p2 : Int32) (p3 : Int32) : List Nat := [(a0 + 1)]
theorem fpB_thin (a0 : Nat) (p1 : Int32) (p2 : Int32) (p3 : Int32) (h0 : PH) {r : Int32 × PH} (hm : mB_thin a0 p1 p2 p3 h0 = some r) : Fr (FPdB_thin a0 p1 p2 p3) r.2 h0 := by
  generalize hSe : FPdB_thin a0 p1 p2 p3 = S
  have hS : ∀ b, b ∈ ([(a0 + 1)] : List Nat) → b ∈ S := by rw [← hSe]; exact fun b hb => hb
  generalize hge : h0 = g at ⊢
  have f : Fr S h0 g := by rw [hge]; exact fun _ _ => rfl
  unfold mB_thin at hm
  obtain ⟨r1, -, hm⟩ := bd_s hm
  obtain ⟨x2, -, hm⟩ := lt_some hm
  obtain ⟨h3, he, hm⟩ := bd_s hm
  replace f := fr_tr f (fpB_write _ _ _ _ _ he) (fun b hb => hS b (by simp only [FPdB_write, List.mem_cons, List.not_mem_nil, or_false] at hb ⊢; omega))
  cases hm
  exact f
def FPdB_thicken (a0 : Nat) (p1 : Int32) (p2 : Int32) (p3 : Int32) : List Nat := [(a0 + 1)]
theorem fpB_thicken (a0 : Nat) (p1 : Int32) (p2 : Int32) (p3 : Int32) (h0 : PH) {r : PH} (hm : mB_thicken a0 p1 p2 p3 h0 = some r) : Fr (FPdB_thicken a0 p1 p2 p3) r h0 := by
  generalize hSe : FPdB_thicken a0 p1 p2 p3 = S
  have hS : ∀ b, b ∈ ([(a0 + 1)] : List Nat) → b ∈ S := by rw [← hSe]; exact fun b hb => hb
  generalize hge : h0 = g at ⊢
  have f : Fr S h0 g := by rw [hge]; exact fun _ _ => rfl
  unfold mB_thicken at hm
  obtain ⟨r1, -, hm⟩ := bd_s hm
  obtain ⟨h2, he, hm⟩ := bd_s hm
  replace f := fr_tr f (fpB_write _ _ _ _ _ he) (fun b hb => hS b (by simp only [FPdB_write, List.mem_cons, List.not_mem_nil, or_false] at hb ⊢; omega))
  cases hm
  exact f
def FPdB_draw (a0 : Nat) (p1 : Int32) : List Nat := [a0]
theorem fpB_draw (a0 : Nat) (p1 : Int32) (h0 : PH) {r : Int32 × PH} (hm : mB_draw a0 p1 h0 = some r) : Fr (FPdB_draw a0 p1) r.2 h0 := by
  generalize hSe : FPdB_draw a0 p1 = S
  have hS : ∀ b, b ∈ ([a0] : List Nat) → b ∈ S := by rw [← hSe]; exact fun b hb => hb
  generalize hge : h0 = g at ⊢
  have f : Fr S h0 g := by rw [hge]; exact fun _ _ => rfl
  unfold mB_draw at hm
  obtain ⟨h1, e1, hm⟩ := lt_some hm
  replace f : Fr S h1 g := by rw [e1]; exact up_fr f (hS _ (by first | simp; done | (simp only [List.mem_cons, List.not_mem_nil, or_false]; omega)))
  rcases ite_or hm with ⟨hc, hm⟩ | ⟨hc, hm⟩
  · cases hm
    exact f
  · obtain ⟨-, hm⟩ := dz_s hm
    cases hm
    exact f
def FPdB_copyFrom (a0 : Nat) (a1 : Nat) : List Nat := [(a0 + 1), a0]
theorem fpB_copyFrom (a0 : Nat) (a1 : Nat) (h0 : PH) {r : PH} (hm : mB_copyFrom a0 a1 h0 = some r) : Fr (FPdB_copyFrom a0 a1) r h0 := by
  generalize hSe : FPdB_copyFrom a0 a1 = S
  have hS : ∀ b, b ∈ ([(a0 + 1), a0] : List Nat) → b ∈ S := by rw [← hSe]; exact fun b hb => hb
  generalize hge : h0 = g at ⊢
  have f : Fr S h0 g := by rw [hge]; exact fun _ _ => rfl
  unfold mB_copyFrom at hm
  obtain ⟨-, hm⟩ := cc_s hm
  obtain ⟨h1, e1, hm⟩ := lt_some hm
  replace f : Fr S h1 g := by rw [e1]; exact cpy_fr f (hS _ (by first | simp; done | (simp only [List.mem_cons, List.not_mem_nil, or_false]; omega)))
  obtain ⟨h2, e1, hm⟩ := lt_some hm
  replace f : Fr S h2 g := by rw [e1]; exact up_fr f (hS _ (by first | simp; done | (simp only [List.mem_cons, List.not_mem_nil, or_false]; omega)))
  obtain ⟨h3, e1, hm⟩ := lt_some hm
  replace f : Fr S h3 g := by rw [e1]; exact up_fr f (hS _ (by first | simp; done | (simp only [List.mem_cons, List.not_mem_nil, or_false]; omega)))
  obtain ⟨h4, e1, hm⟩ := lt_some hm
  replace f : Fr S h4 g := by rw [e1]; exact up_fr f (hS _ (by first | simp; done | (simp only [List.mem_cons, List.not_mem_nil, or_false]; omega)))
  obtain ⟨h5, e1, hm⟩ := lt_some hm
  replace f : Fr S h5 g := by rw [e1]; exact up_fr f (hS _ (by first | simp; done | (simp only [List.mem_cons, List.not_mem_nil, or_false]; omega)))
  obtain ⟨h6, e1, hm⟩ := lt_some hm
  replace f : Fr S h6 g := by rw [e1]; exact up_fr f (hS _ (by first | simp; done | (simp only [List.mem_cons, List.not_mem_nil, or_false]; omega)))
  obtain ⟨h7, e1, hm⟩ := lt_some hm
  replace f : Fr S h7 g := by rw [e1]; exact up_fr f (hS _ (by first | simp; done | (simp only [List.mem_cons, List.not_mem_nil, or_false]; omega)))
  obtain ⟨h8, e1, hm⟩ := lt_some hm
  replace f : Fr S h8 g := by rw [e1]; exact up_fr f (hS _ (by first | simp; done | (simp only [List.mem_cons, List.not_mem_nil, or_false]; omega)))
  cases hm
  exact f
def FPdR_add (a0 : Nat) (p1 : Int32) (p2 : Int32) (p3 : Int32) (p4 : Int32) (p5 : Int32) : List Nat := [(a0 + 1), a0]
theorem fpR_add (a0 : Nat) (p1 : Int32) (p2 : Int32) (p3 : Int32) (p4 : Int32) (p5 : Int32) (h0 : PH) {r : Int32 × PH} (hm : mR_add a0 p1 p2 p3 p4 p5 h0 = some r) : Fr (FPdR_add a0 p1 p2 p3 p4 p5) r.2 h0 := by
  generalize hSe : FPdR_add a0 p1 p2 p3 p4 p5 = S
  have hS : ∀ b, b ∈ ([(a0 + 1), a0] : List Nat) → b ∈ S := by rw [← hSe]; exact fun b hb => hb
  generalize hge : h0 = g at ⊢
  have f : Fr S h0 g := by rw [hge]; exact fun _ _ => rfl
  unfold mR_add at hm
  rcases ite_or hm with ⟨hc, hm⟩ | ⟨hc, hm⟩
  · obtain ⟨x1, -, hm⟩ := lt_some hm
    obtain ⟨-, hm⟩ := ck_s hm
    obtain ⟨h2, e1, hm⟩ := lt_some hm
    replace f : Fr S h2 g := by rw [e1]; exact up_fr f (hS _ (by first | simp; done | (simp only [List.mem_cons, List.not_mem_nil, or_false]; omega)))
    refine v_j1 (fun (h4 : PH) => Fr S h4 g → Fr S r.2 g) hm (fun h4 hm f => ?_) (fun j3 kj3 hm => ?_)
    · refine v_j1 (fun (h6 : PH) => Fr S h6 g → Fr S r.2 g) hm (fun h6 hm f => ?_) (fun j5 kj5 hm => ?_)
      · refine v_j1 (fun (h8 : PH) => Fr S h8 g → Fr S r.2 g) hm (fun h8 hm f => ?_) (fun j7 kj7 hm => ?_)
        · refine v_j1 (fun (h10 : PH) => Fr S h10 g → Fr S r.2 g) hm (fun h10 hm f => ?_) (fun j9 kj9 hm => ?_)
          · obtain ⟨h11, e1, hm⟩ := lt_some hm
            replace f : Fr S h11 g := by rw [e1]; exact up_fr f (hS _ (by first | simp; done | (simp only [List.mem_cons, List.not_mem_nil, or_false]; omega)))
            cases hm
            exact f
          · rcases ite_or hm with ⟨hc, hm⟩ | ⟨hc, hm⟩
            · exact kj9 _ hm f
            · obtain ⟨-, hm⟩ := ck_s hm
              obtain ⟨h12, e1, hm⟩ := lt_some hm
              replace f : Fr S h12 g := by rw [e1]; exact up_fr f (hS _ (by first | simp; done | (simp only [List.mem_cons, List.not_mem_nil, or_false]; omega)))
              exact kj9 _ hm f
        · rcases ite_or hm with ⟨hc, hm⟩ | ⟨hc, hm⟩
          · exact kj7 _ hm f
          · obtain ⟨-, hm⟩ := ck_s hm
            obtain ⟨h13, e1, hm⟩ := lt_some hm
            replace f : Fr S h13 g := by rw [e1]; exact up_fr f (hS _ (by first | simp; done | (simp only [List.mem_cons, List.not_mem_nil, or_false]; omega)))
            exact kj7 _ hm f
      · rcases ite_or hm with ⟨hc, hm⟩ | ⟨hc, hm⟩
        · exact kj5 _ hm f
        · obtain ⟨-, hm⟩ := ck_s hm
          obtain ⟨h14, e1, hm⟩ := lt_some hm
          replace f : Fr S h14 g := by rw [e1]; exact up_fr f (hS _ (by first | simp; done | (simp only [List.mem_cons, List.not_mem_nil, or_false]; omega)))
          exact kj5 _ hm f
    · rcases ite_or hm with ⟨hc, hm⟩ | ⟨hc, hm⟩
      · exact kj3 _ hm f
      · obtain ⟨-, hm⟩ := ck_s hm
        obtain ⟨h15, e1, hm⟩ := lt_some hm
        replace f : Fr S h15 g := by rw [e1]; exact up_fr f (hS _ (by first | simp; done | (simp only [List.mem_cons, List.not_mem_nil, or_false]; omega)))
        exact kj3 _ hm f
  · cases hm
    exact f
def FPdR_copyFrom (a0 : Nat) (a1 : Nat) : List Nat := [(a0 + 1), a0]
theorem fpR_copyFrom (a0 : Nat) (a1 : Nat) (h0 : PH) {r : PH} (hm : mR_copyFrom a0 a1 h0 = some r) : Fr (FPdR_copyFrom a0 a1) r h0 := by
  generalize hSe : FPdR_copyFrom a0 a1 = S
  have hS : ∀ b, b ∈ ([(a0 + 1), a0] : List Nat) → b ∈ S := by rw [← hSe]; exact fun b hb => hb
  generalize hge : h0 = g at ⊢
  have f : Fr S h0 g := by rw [hge]; exact fun _ _ => rfl
  unfold mR_copyFrom at hm
  obtain ⟨x1, -, hm⟩ := lt_some hm
  rcases ite_or hm with ⟨hc, hm⟩ | ⟨hc, hm⟩
  · rcases ite_or hm with ⟨hc, hm⟩ | ⟨hc, hm⟩
    · cases hm
      exact f
    · obtain ⟨-, hm⟩ := cc_s hm
      obtain ⟨h2, e1, hm⟩ := lt_some hm
      replace f : Fr S h2 g := by rw [e1]; exact cpy_fr f (hS _ (by first | simp; done | (simp only [List.mem_cons, List.not_mem_nil, or_false]; omega)))
      obtain ⟨h3, e1, hm⟩ := lt_some hm
      replace f : Fr S h3 g := by rw [e1]; exact up_fr f (hS _ (by first | simp; done | (simp only [List.mem_cons, List.not_mem_nil, or_false]; omega)))
      cases hm
      exact f
  · cases hm
    exact f
def FPdL_learn : List Nat := [103]
theorem wf_L_learn_L2  (S : List Nat) (g : PH) (r : PH) (hS : ∀ b, b ∈ ([103] : List Nat) → b ∈ S) : ∀ (n : Nat) (v1 : Int32) (hv : PH), mL_learn_L2  n v1 hv = some r → Fr S hv g → Fr S r g := by
  intro n
  induction n with
  | zero => intro v1 hv hm; cases hm
  | succ n ih =>
    intro v1 hv hm f
    unfold mL_learn_L2 at hm
    rcases ite_or hm with ⟨hc, hm⟩ | ⟨hc, hm⟩
    · cases hm
      exact f
    · obtain ⟨r1, -, hm⟩ := bd_s hm
      rcases ite_or hm with ⟨hc, hm⟩ | ⟨hc, hm⟩
      · exact ih _ _ hm f
      · obtain ⟨r2, -, hm⟩ := bd_s hm
        rcases ite_or hm with ⟨hc, hm⟩ | ⟨hc, hm⟩
        · obtain ⟨-, hm⟩ := ck_s hm
          obtain ⟨-, hm⟩ := ck_s hm
          obtain ⟨h3, e1, hm⟩ := lt_some hm
          replace f : Fr S h3 g := by rw [e1]; exact up_fr f (hS _ (by decide))
          exact ih _ _ hm f
        · exact ih _ _ hm f
theorem fpL_learn (h0 : PH) {r : PH} (hm : mL_learn h0 = some r) : Fr (FPdL_learn ) r h0 := by
  generalize hSe : FPdL_learn = S
  have hS : ∀ b, b ∈ ([103] : List Nat) → b ∈ S := by rw [← hSe]; exact fun b hb => hb
  generalize hge : h0 = g at ⊢
  have f : Fr S h0 g := by rw [hge]; exact fun _ _ => rfl
  unfold mL_learn at hm
  exact wf_L_learn_L2 S g _ (fun b hb => hS b ((by decide +kernel : ∀ b, b ∈ ([103] : List Nat) → b ∈ ([103] : List Nat)) b hb)) _ _ _ hm f
def FPdL_bestBite (p1 : Int32) (p2 : Int32) : List Nat := [103, 102]
theorem wf_L_bestBite_L21 (p1 : Int32) (p2 : Int32) (h0 : PH) (k0 : Int32 → Option (Int32 × PH)) (S : List Nat) (g : PH) (r : Int32 × PH) (hS : ∀ b, b ∈ ([] : List Nat) → b ∈ S) (f : Fr S h0 g) (kk0 : ∀ (y0 : Int32), k0 y0 = some r → Fr S r.2 g) : ∀ (n : Nat) (v3 : Int32) (v4 : Int32), mL_bestBite_L21 p1 p2 h0 k0 n v3 v4 = some r → Fr S r.2 g := by
  intro n
  induction n with
  | zero => intro v3 v4 hm; cases hm
  | succ n ih =>
    intro v3 v4 hm
    unfold mL_bestBite_L21 at hm
    rcases ite_or hm with ⟨hc, hm⟩ | ⟨hc, hm⟩
    · exact kk0 _ hm
    · obtain ⟨x3, -, hm⟩ := lt_some hm
      exact ih _ _ hm
theorem fpL_bestBite (p1 : Int32) (p2 : Int32) (h0 : PH) {r : Int32 × PH} (hm : mL_bestBite p1 p2 h0 = some r) : Fr (FPdL_bestBite p1 p2) r.2 h0 := by
  generalize hSe : FPdL_bestBite p1 p2 = S
  have hS : ∀ b, b ∈ ([103, 102] : List Nat) → b ∈ S := by rw [← hSe]; exact fun b hb => hb
  generalize hge : h0 = g at ⊢
  have f : Fr S h0 g := by rw [hge]; exact fun _ _ => rfl
  unfold mL_bestBite at hm
  refine v_j1 (fun (h2 : PH) => Fr S h2 g → Fr S r.2 g) hm (fun h2 hm f => ?_) (fun j1 kj1 hm => ?_)
  · refine wf_L_bestBite_L21 _ _ _ _ S g _ (fun b hb => hS b ((by decide +kernel : ∀ b, b ∈ ([] : List Nat) → b ∈ ([103, 102] : List Nat)) b hb)) f (fun x4 hm => ?_) _ _ _ hm
    · obtain ⟨r5, -, hm⟩ := bd_s hm
      cases hm
      exact f
  · rcases ite_or hm with ⟨hc, hm⟩ | ⟨hc, hm⟩
    · obtain ⟨h6, he, hm⟩ := bd_s hm
      replace f := fr_tr f (fpL_learn _ he) (fun b hb => hS b ((by decide +kernel : ∀ b, b ∈ ([103] : List Nat) → b ∈ ([103, 102] : List Nat)) b hb))
      obtain ⟨h7, e1, hm⟩ := lt_some hm
      replace f : Fr S h7 g := by rw [e1]; exact up_fr f (hS _ (by decide))
      exact kj1 _ hm f
    · exact kj1 _ hm f
def FPdK_fewestFrom (a1 : Nat) (p2 : Int32) (p3 : Int32) (p4 : Int32) : List Nat := [99]
theorem wf_K_fewestFrom_L26 (a1 : Nat) (p2 : Int32) (p3 : Int32) (p4 : Int32) (p5 : Int32) (f0 : Nat → Int32 → Int32 → Int32 → PH → Option (Int32 × PH)) (S : List Nat) (g : PH) (r : Int32 × PH) (g0 : ∀ (z0 : Nat) (z1 : Int32) (z2 : Int32) (z3 : Int32) (z4 : PH) (zr : Int32 × PH), f0 z0 z1 z2 z3 z4 = some zr → Fr S zr.2 z4) (hS : ∀ b, b ∈ ([99] : List Nat) → b ∈ S) : ∀ (n : Nat) (v6 : Int32) (v7 : Int32) (hv : PH), mK_fewestFrom_L26 a1 p2 p3 p4 p5 f0 n v6 v7 hv = some r → Fr S hv g → Fr S r.2 g := by
  intro n
  induction n with
  | zero => intro v6 v7 hv hm; cases hm
  | succ n ih =>
    intro v6 v7 hv hm f
    unfold mK_fewestFrom_L26 at hm
    rcases ite_or hm with ⟨hc, hm⟩ | ⟨hc, hm⟩
    · cases hm
      exact f
    · rcases ite_or hm with ⟨hc, hm⟩ | ⟨hc, hm⟩
      · cases hm
        exact f
      · refine v_j1 (fun (x3 : Int32) => Fr S r.2 g) hm (fun x3 hm => ?_) (fun j2 kj2 hm => ?_)
        · rcases ite_or hm with ⟨hc, hm⟩ | ⟨hc, hm⟩
          · exact ih _ _ _ hm f
          · obtain ⟨-, hm⟩ := ck_s hm
            obtain ⟨h4, e1, hm⟩ := lt_some hm
            replace f : Fr S h4 g := by rw [e1]; exact up_fr f (hS _ (by decide))
            obtain ⟨r5, h6, he, hm⟩ := bd2_s hm
            replace f := fr_tr f (g0 _ _ _ _ _ _ he) (fun b hb => hb)
            obtain ⟨x7, -, hm⟩ := lt_some hm
            obtain ⟨-, hm⟩ := ck_s hm
            obtain ⟨h8, e1, hm⟩ := lt_some hm
            replace f : Fr S h8 g := by rw [e1]; exact up_fr f (hS _ (by decide))
            exact ih _ _ _ hm f
        · rcases ite_or hm with ⟨hc, hm⟩ | ⟨hc, hm⟩
          · exact kj2 _ hm
          · obtain ⟨-, hm⟩ := ck_s hm
            exact kj2 _ hm
theorem fpK_fewestFrom_F (f0 : Nat → Int32 → Int32 → Int32 → PH → Option (Int32 × PH)) (a1 : Nat) (p2 : Int32) (p3 : Int32) (p4 : Int32) (h0 : PH) {r : Int32 × PH} (S : List Nat) (hS : ∀ b, b ∈ FPdK_fewestFrom a1 p2 p3 p4 → b ∈ S) (g0 : ∀ (z0 : Nat) (z1 : Int32) (z2 : Int32) (z3 : Int32) (z4 : PH) (zr : Int32 × PH), f0 z0 z1 z2 z3 z4 = some zr → Fr S zr.2 z4) (hm : mK_fewestFrom_F f0 a1 p2 p3 p4 h0 = some r) : Fr S r.2 h0 := by
  replace hS : ∀ b, b ∈ ([99] : List Nat) → b ∈ S := hS
  generalize hge : h0 = g at ⊢
  have f : Fr S h0 g := by rw [hge]; exact fun _ _ => rfl
  unfold mK_fewestFrom_F at hm
  rcases ite_or hm with ⟨hc, hm⟩ | ⟨hc, hm⟩
  · obtain ⟨r1, -, hm⟩ := bd_s hm
    exact wf_K_fewestFrom_L26 _ _ _ _ _ _ S g _ g0 (fun b hb => hS b ((by decide +kernel : ∀ b, b ∈ ([99] : List Nat) → b ∈ ([99] : List Nat)) b hb)) _ _ _ _ hm f
  · cases hm
    exact f
theorem fpK_fewestFrom : ∀ (n : Nat) (a1 : Nat) (p2 : Int32) (p3 : Int32) (p4 : Int32) (h0 : PH) {r : Int32 × PH}, mK_fewestFrom n a1 p2 p3 p4 h0 = some r → Fr (FPdK_fewestFrom a1 p2 p3 p4) r.2 h0 := by
  intro n
  induction n with
  | zero => intro a1 p2 p3 p4 h0 r hm; cases hm
  | succ n ih =>
    intro a1 p2 p3 p4 h0 r hm
    exact fpK_fewestFrom_F (mK_fewestFrom n) a1 p2 p3 p4 h0 _ (fun b hb => hb) (fun z0 z1 z2 z3 h r e => ih z0 z1 z2 z3 h e) hm
def FPdK_fewestPans (a1 : Nat) (p2 : Int32) : List Nat := [99]
theorem fpK_fewestPans (a1 : Nat) (p2 : Int32) (h0 : PH) {r : Int32 × PH} (hm : mK_fewestPans a1 p2 h0 = some r) : Fr (FPdK_fewestPans a1 p2) r.2 h0 := by
  generalize hSe : FPdK_fewestPans a1 p2 = S
  have hS : ∀ b, b ∈ ([99] : List Nat) → b ∈ S := by rw [← hSe]; exact fun b hb => hb
  generalize hge : h0 = g at ⊢
  have f : Fr S h0 g := by rw [hge]; exact fun _ _ => rfl
  unfold mK_fewestPans at hm
  obtain ⟨r1, h2, he, hm⟩ := bd2_s hm
  replace f := fr_tr f (fpK_fewestFrom _ _ _ _ _ _ he) (fun b hb => hS b ((by decide +kernel : ∀ b, b ∈ ([99] : List Nat) → b ∈ ([99] : List Nat)) b hb))
  cases hm
  exact f
def FPdK_firstFitPans (a1 : Nat) (p2 : Int32) : List Nat := [99]
theorem wf_K_firstFitPans_L26 (a1 : Nat) (p2 : Int32) (p3 : Int32) (p4 : Int32) (p5 : Int32) (h0 : PH) (k0 : Int32 → Option (Int32 × PH)) (S : List Nat) (g : PH) (r : Int32 × PH) (hS : ∀ b, b ∈ ([] : List Nat) → b ∈ S) (f : Fr S h0 g) (kk0 : ∀ (y0 : Int32), k0 y0 = some r → Fr S r.2 g) : ∀ (n : Nat) (v6 : Int32), mK_firstFitPans_L26 a1 p2 p3 p4 p5 h0 k0 n v6 = some r → Fr S r.2 g := by
  intro n
  induction n with
  | zero => intro v6 hm; cases hm
  | succ n ih =>
    intro v6 hm
    unfold mK_firstFitPans_L26 at hm
    rcases ite_or hm with ⟨hc, hm⟩ | ⟨hc, hm⟩
    · exact kk0 _ hm
    · obtain ⟨-, hm⟩ := ck_s hm
      rcases ite_or hm with ⟨hc, hm⟩ | ⟨hc, hm⟩
      · exact kk0 _ hm
      · exact ih _ hm
theorem wf_K_firstFitPans_L5 (a1 : Nat) (p2 : Int32) (S : List Nat) (g : PH) (r : Int32 × PH) (hS : ∀ b, b ∈ ([99] : List Nat) → b ∈ S) : ∀ (n : Nat) (v3 : Int32) (v4 : Int32) (hv : PH), mK_firstFitPans_L5 a1 p2 n v3 v4 hv = some r → Fr S hv g → Fr S r.2 g := by
  intro n
  induction n with
  | zero => intro v3 v4 hv hm; cases hm
  | succ n ih =>
    intro v3 v4 hv hm f
    unfold mK_firstFitPans_L5 at hm
    rcases ite_or hm with ⟨hc, hm⟩ | ⟨hc, hm⟩
    · cases hm
      exact f
    · obtain ⟨r1, -, hm⟩ := bd_s hm
      refine wf_K_firstFitPans_L26 _ _ _ _ _ _ _ S g _ (fun b hb => hS b ((by decide +kernel : ∀ b, b ∈ ([] : List Nat) → b ∈ ([99] : List Nat)) b hb)) f (fun x2 hm => ?_) _ _ hm
      · rcases ite_or hm with ⟨hc, hm⟩ | ⟨hc, hm⟩
        · exact ih _ _ _ hm f
        · refine v_j1 (fun (x4 : Int32) => Fr S r.2 g) hm (fun x4 hm => ?_) (fun j3 kj3 hm => ?_)
          · obtain ⟨-, hm⟩ := ck_s hm
            obtain ⟨h5, e1, hm⟩ := lt_some hm
            replace f : Fr S h5 g := by rw [e1]; exact up_fr f (hS _ (by decide))
            obtain ⟨x6, -, hm⟩ := lt_some hm
            exact ih _ _ _ hm f
          · rcases ite_or hm with ⟨hc, hm⟩ | ⟨hc, hm⟩
            · exact kj3 _ hm
            · obtain ⟨-, hm⟩ := ck_s hm
              exact kj3 _ hm
theorem fpK_firstFitPans (a1 : Nat) (p2 : Int32) (h0 : PH) {r : Int32 × PH} (hm : mK_firstFitPans a1 p2 h0 = some r) : Fr (FPdK_firstFitPans a1 p2) r.2 h0 := by
  generalize hSe : FPdK_firstFitPans a1 p2 = S
  have hS : ∀ b, b ∈ ([99] : List Nat) → b ∈ S := by rw [← hSe]; exact fun b hb => hb
  generalize hge : h0 = g at ⊢
  have f : Fr S h0 g := by rw [hge]; exact fun _ _ => rfl
  unfold mK_firstFitPans at hm
  exact wf_K_firstFitPans_L5 _ _ S g _ (fun b hb => hS b ((by decide +kernel : ∀ b, b ∈ ([99] : List Nat) → b ∈ ([99] : List Nat)) b hb)) _ _ _ _ hm f
def FPdK_walk (a1 : Nat) : List Nat := [100, 101]
theorem wf_K_walk_L26 (a1 : Nat) (p2 : Int32) (S : List Nat) (g : PH) (r : Int32 × PH) (hS : ∀ b, b ∈ ([100, 101] : List Nat) → b ∈ S) : ∀ (n : Nat) (v3 : Int32) (hv : PH), mK_walk_L26 a1 p2 n v3 hv = some r → Fr S hv g → Fr S r.2 g := by
  intro n
  induction n with
  | zero => intro v3 hv hm; cases hm
  | succ n ih =>
    intro v3 hv hm f
    unfold mK_walk_L26 at hm
    rcases ite_or hm with ⟨hc, hm⟩ | ⟨hc, hm⟩
    · cases hm
      exact f
    · obtain ⟨r4, -, hm⟩ := bd_s hm
      obtain ⟨-, hm⟩ := ck_s hm
      refine v_j1 (fun (x6 : Int32) => Fr S r.2 g) hm (fun x6 hm => ?_) (fun j5 kj5 hm => ?_)
      · obtain ⟨-, hm⟩ := ck_s hm
        obtain ⟨h7, e1, hm⟩ := lt_some hm
        replace f : Fr S h7 g := by rw [e1]; exact up_fr f (hS _ (by decide))
        obtain ⟨-, hm⟩ := ck_s hm
        refine v_j1 (fun (x9 : Int32) => Fr S r.2 g) hm (fun x9 hm => ?_) (fun j8 kj8 hm => ?_)
        · obtain ⟨-, hm⟩ := ck_s hm
          obtain ⟨h10, e1, hm⟩ := lt_some hm
          replace f : Fr S h10 g := by rw [e1]; exact up_fr f (hS _ (by decide))
          exact ih _ _ hm f
        · rcases ite_or hm with ⟨hc, hm⟩ | ⟨hc, hm⟩
          · exact kj8 _ hm
          · rcases ite_or hm with ⟨hc, hm⟩ | ⟨hc, hm⟩
            · exact kj8 _ hm
            · exact kj8 _ hm
      · rcases ite_or hm with ⟨hc, hm⟩ | ⟨hc, hm⟩
        · exact kj5 _ hm
        · rcases ite_or hm with ⟨hc, hm⟩ | ⟨hc, hm⟩
          · exact kj5 _ hm
          · exact kj5 _ hm
theorem fpK_walk (a1 : Nat) (h0 : PH) {r : Int32 × PH} (hm : mK_walk a1 h0 = some r) : Fr (FPdK_walk a1) r.2 h0 := by
  generalize hSe : FPdK_walk a1 = S
  have hS : ∀ b, b ∈ ([100, 101] : List Nat) → b ∈ S := by rw [← hSe]; exact fun b hb => hb
  generalize hge : h0 = g at ⊢
  have f : Fr S h0 g := by rw [hge]; exact fun _ _ => rfl
  unfold mK_walk at hm
  obtain ⟨x1, -, hm⟩ := lt_some hm
  obtain ⟨-, hm⟩ := ck_s hm
  obtain ⟨h2, e1, hm⟩ := lt_some hm
  replace f : Fr S h2 g := by rw [e1]; exact up_fr f (hS _ (by decide))
  obtain ⟨-, hm⟩ := ck_s hm
  obtain ⟨h3, e1, hm⟩ := lt_some hm
  replace f : Fr S h3 g := by rw [e1]; exact up_fr f (hS _ (by decide))
  exact wf_K_walk_L26 _ _ S g _ (fun b hb => hS b ((by decide +kernel : ∀ b, b ∈ ([100, 101] : List Nat) → b ∈ ([100, 101] : List Nat)) b hb)) _ _ _ hm f
def FPdK_wayHome (a1 : Nat) : List Nat := [100, 101]
theorem fpK_wayHome (a1 : Nat) (h0 : PH) {r : Int32 × PH} (hm : mK_wayHome a1 h0 = some r) : Fr (FPdK_wayHome a1) r.2 h0 := by
  generalize hSe : FPdK_wayHome a1 = S
  have hS : ∀ b, b ∈ ([100, 101] : List Nat) → b ∈ S := by rw [← hSe]; exact fun b hb => hb
  generalize hge : h0 = g at ⊢
  have f : Fr S h0 g := by rw [hge]; exact fun _ _ => rfl
  unfold mK_wayHome at hm
  obtain ⟨r1, h2, he, hm⟩ := bd2_s hm
  replace f := fr_tr f (fpK_walk _ _ he) (fun b hb => hS b ((by decide +kernel : ∀ b, b ∈ ([100, 101] : List Nat) → b ∈ ([100, 101] : List Nat)) b hb))
  obtain ⟨-, hm⟩ := ck_s hm
  obtain ⟨-, hm⟩ := ck_s hm
  cases hm
  exact f
def FPdK_placesCrossed (a1 : Nat) : List Nat := [100, 101]
theorem wf_K_placesCrossed_L23 (p2 : Int32) (p3 : Int32) (p4 : Int32) (h0 : PH) (k0 : Int32 → Option (Int32 × PH)) (S : List Nat) (g : PH) (r : Int32 × PH) (hS : ∀ b, b ∈ ([] : List Nat) → b ∈ S) (f : Fr S h0 g) (kk0 : ∀ (y0 : Int32), k0 y0 = some r → Fr S r.2 g) : ∀ (n : Nat) (v5 : Int32) (v6 : Int32), mK_placesCrossed_L23 p2 p3 p4 h0 k0 n v5 v6 = some r → Fr S r.2 g := by
  intro n
  induction n with
  | zero => intro v5 v6 hm; cases hm
  | succ n ih =>
    intro v5 v6 hm
    unfold mK_placesCrossed_L23 at hm
    rcases ite_or hm with ⟨hc, hm⟩ | ⟨hc, hm⟩
    · exact kk0 _ hm
    · obtain ⟨-, hm⟩ := ck_s hm
      obtain ⟨-, hm⟩ := ck_s hm
      rcases ite_or hm with ⟨hc, hm⟩ | ⟨hc, hm⟩
      · obtain ⟨-, hm⟩ := ck_s hm
        obtain ⟨-, hm⟩ := ck_s hm
        rcases ite_or hm with ⟨hc, hm⟩ | ⟨hc, hm⟩
        · exact ih _ _ hm
        · exact ih _ _ hm
      · exact ih _ _ hm
theorem wf_K_placesCrossed_L11 (p2 : Int32) (h0 : PH) (S : List Nat) (g : PH) (r : Int32 × PH) (hS : ∀ b, b ∈ ([] : List Nat) → b ∈ S) (f : Fr S h0 g) : ∀ (n : Nat) (v3 : Int32) (v4 : Int32), mK_placesCrossed_L11 p2 h0 n v3 v4 = some r → Fr S r.2 g := by
  intro n
  induction n with
  | zero => intro v3 v4 hm; cases hm
  | succ n ih =>
    intro v3 v4 hm
    unfold mK_placesCrossed_L11 at hm
    rcases ite_or hm with ⟨hc, hm⟩ | ⟨hc, hm⟩
    · cases hm
      exact f
    · refine wf_K_placesCrossed_L23 _ _ _ _ _ S g _ (fun b hb => hS b ((by decide +kernel : ∀ b, b ∈ ([] : List Nat) → b ∈ ([] : List Nat)) b hb)) f (fun x3 hm => ?_) _ _ _ hm
      · rcases ite_or hm with ⟨hc, hm⟩ | ⟨hc, hm⟩
        · exact ih _ _ hm
        · exact ih _ _ hm
theorem fpK_placesCrossed (a1 : Nat) (h0 : PH) {r : Int32 × PH} (hm : mK_placesCrossed a1 h0 = some r) : Fr (FPdK_placesCrossed a1) r.2 h0 := by
  generalize hSe : FPdK_placesCrossed a1 = S
  have hS : ∀ b, b ∈ ([100, 101] : List Nat) → b ∈ S := by rw [← hSe]; exact fun b hb => hb
  generalize hge : h0 = g at ⊢
  have f : Fr S h0 g := by rw [hge]; exact fun _ _ => rfl
  unfold mK_placesCrossed at hm
  obtain ⟨r1, h2, he, hm⟩ := bd2_s hm
  replace f := fr_tr f (fpK_walk _ _ he) (fun b hb => hS b ((by decide +kernel : ∀ b, b ∈ ([100, 101] : List Nat) → b ∈ ([100, 101] : List Nat)) b hb))
  exact wf_K_placesCrossed_L11 _ _ S g _ (fun b hb => hS b ((by decide +kernel : ∀ b, b ∈ ([] : List Nat) → b ∈ ([100, 101] : List Nat)) b hb)) f _ _ _ hm
def FPdW_gather (a1 : Nat) (p2 : Int32) (p3 : Int32) : List Nat := [35]
theorem fpW_gather (a1 : Nat) (p2 : Int32) (p3 : Int32) (h0 : PH) {r : PH} (hm : mW_gather a1 p2 p3 h0 = some r) : Fr (FPdW_gather a1 p2 p3) r h0 := by
  generalize hSe : FPdW_gather a1 p2 p3 = S
  have hS : ∀ b, b ∈ ([35] : List Nat) → b ∈ S := by rw [← hSe]; exact fun b hb => hb
  generalize hge : h0 = g at ⊢
  have f : Fr S h0 g := by rw [hge]; exact fun _ _ => rfl
  unfold mW_gather at hm
  obtain ⟨r1, -, hm⟩ := bd_s hm
  obtain ⟨-, hm⟩ := ck_s hm
  obtain ⟨h2, e1, hm⟩ := lt_some hm
  replace f : Fr S h2 g := by rw [e1]; exact up_fr f (hS _ (by decide))
  obtain ⟨r3, -, hm⟩ := bd_s hm
  obtain ⟨-, hm⟩ := ck_s hm
  obtain ⟨h4, e1, hm⟩ := lt_some hm
  replace f : Fr S h4 g := by rw [e1]; exact up_fr f (hS _ (by decide))
  obtain ⟨r5, -, hm⟩ := bd_s hm
  obtain ⟨-, hm⟩ := ck_s hm
  obtain ⟨h6, e1, hm⟩ := lt_some hm
  replace f : Fr S h6 g := by rw [e1]; exact up_fr f (hS _ (by decide))
  obtain ⟨r7, -, hm⟩ := bd_s hm
  obtain ⟨-, hm⟩ := ck_s hm
  obtain ⟨h8, e1, hm⟩ := lt_some hm
  replace f : Fr S h8 g := by rw [e1]; exact up_fr f (hS _ (by decide))
  obtain ⟨r9, -, hm⟩ := bd_s hm
  obtain ⟨-, hm⟩ := ck_s hm
  obtain ⟨h10, e1, hm⟩ := lt_some hm
  replace f : Fr S h10 g := by rw [e1]; exact up_fr f (hS _ (by decide))
  obtain ⟨r11, -, hm⟩ := bd_s hm
  obtain ⟨-, hm⟩ := ck_s hm
  obtain ⟨h12, e1, hm⟩ := lt_some hm
  replace f : Fr S h12 g := by rw [e1]; exact up_fr f (hS _ (by decide))
  obtain ⟨r13, -, hm⟩ := bd_s hm
  obtain ⟨-, hm⟩ := ck_s hm
  obtain ⟨h14, e1, hm⟩ := lt_some hm
  replace f : Fr S h14 g := by rw [e1]; exact up_fr f (hS _ (by decide))
  obtain ⟨r15, -, hm⟩ := bd_s hm
  obtain ⟨-, hm⟩ := ck_s hm
  obtain ⟨h16, e1, hm⟩ := lt_some hm
  replace f : Fr S h16 g := by rw [e1]; exact up_fr f (hS _ (by decide))
  obtain ⟨r17, -, hm⟩ := bd_s hm
  obtain ⟨-, hm⟩ := ck_s hm
  obtain ⟨h18, e1, hm⟩ := lt_some hm
  replace f : Fr S h18 g := by rw [e1]; exact up_fr f (hS _ (by decide))
  obtain ⟨-, hm⟩ := ck_s hm
  obtain ⟨h19, e1, hm⟩ := lt_some hm
  replace f : Fr S h19 g := by rw [e1]; exact up_fr f (hS _ (by decide))
  obtain ⟨-, hm⟩ := ck_s hm
  obtain ⟨h20, e1, hm⟩ := lt_some hm
  replace f : Fr S h20 g := by rw [e1]; exact up_fr f (hS _ (by decide))
  obtain ⟨-, hm⟩ := ck_s hm
  obtain ⟨h21, e1, hm⟩ := lt_some hm
  replace f : Fr S h21 g := by rw [e1]; exact up_fr f (hS _ (by decide))
  cases hm
  exact f
def FPdW_step (p1 : Int32) (p2 : Int32) : List Nat := [36, 34]
theorem fpW_step (p1 : Int32) (p2 : Int32) (h0 : PH) {r : PH} (hm : mW_step p1 p2 h0 = some r) : Fr (FPdW_step p1 p2) r h0 := by
  generalize hSe : FPdW_step p1 p2 = S
  have hS : ∀ b, b ∈ ([36, 34] : List Nat) → b ∈ S := by rw [← hSe]; exact fun b hb => hb
  generalize hge : h0 = g at ⊢
  have f : Fr S h0 g := by rw [hge]; exact fun _ _ => rfl
  unfold mW_step at hm
  refine v_j0 (Fr S r g) hm (fun hm => ?_) (fun j1 kj1 hm => ?_)
  · rcases ite_or hm with ⟨hc, hm⟩ | ⟨hc, hm⟩
    · cases hm
      exact f
    · refine v_j1 (fun (x3 : Int32) => Fr S r g) hm (fun x3 hm => ?_) (fun j2 kj2 hm => ?_)
      · refine v_j1 (fun (x5 : Int32) => Fr S r g) hm (fun x5 hm => ?_) (fun j4 kj4 hm => ?_)
        · obtain ⟨-, hm⟩ := ck_s hm
          obtain ⟨h6, e1, hm⟩ := lt_some hm
          replace f : Fr S h6 g := by rw [e1]; exact up_fr f (hS _ (by decide))
          obtain ⟨h7, e1, hm⟩ := lt_some hm
          replace f : Fr S h7 g := by rw [e1]; exact up_fr f (hS _ (by decide))
          cases hm
          exact f
        · rcases ite_or hm with ⟨hc, hm⟩ | ⟨hc, hm⟩
          · exact kj4 _ hm
          · obtain ⟨-, hm⟩ := ck_s hm
            exact kj4 _ hm
      · rcases ite_or hm with ⟨hc, hm⟩ | ⟨hc, hm⟩
        · rcases ite_or hm with ⟨hc, hm⟩ | ⟨hc, hm⟩
          · exact kj2 _ hm
          · rcases ite_or hm with ⟨hc, hm⟩ | ⟨hc, hm⟩
            · exact kj2 _ hm
            · exact kj2 _ hm
        · exact kj2 _ hm
  · rcases ite_or hm with ⟨hc, hm⟩ | ⟨hc, hm⟩
    · exact kj1 hm
    · rcases ite_or hm with ⟨hc, hm⟩ | ⟨hc, hm⟩
      · exact kj1 hm
      · rcases ite_or hm with ⟨hc, hm⟩ | ⟨hc, hm⟩
        · rcases ite_or hm with ⟨hc, hm⟩ | ⟨hc, hm⟩
          · cases hm
            exact f
          · rcases ite_or hm with ⟨hc, hm⟩ | ⟨hc, hm⟩
            · cases hm
              exact f
            · obtain ⟨-, hm⟩ := ck_s hm
              obtain ⟨-, hm⟩ := dz_s hm
              obtain ⟨-, hm⟩ := ck_s hm
              obtain ⟨h8, e1, hm⟩ := lt_some hm
              replace f : Fr S h8 g := by rw [e1]; exact up_fr f (hS _ (by decide))
              cases hm
              exact f
        · rcases ite_or hm with ⟨hc, hm⟩ | ⟨hc, hm⟩
          · rcases ite_or hm with ⟨hc, hm⟩ | ⟨hc, hm⟩
            · cases hm
              exact f
            · obtain ⟨-, hm⟩ := ck_s hm
              refine v_j1 (fun (x10 : Int32) => Fr S r g) hm (fun x10 hm => ?_) (fun j9 kj9 hm => ?_)
              · obtain ⟨-, hm⟩ := ck_s hm
                obtain ⟨h11, e1, hm⟩ := lt_some hm
                replace f : Fr S h11 g := by rw [e1]; exact up_fr f (hS _ (by decide))
                cases hm
                exact f
              · rcases ite_or hm with ⟨hc, hm⟩ | ⟨hc, hm⟩
                · exact kj9 _ hm
                · exact kj9 _ hm
          · rcases ite_or hm with ⟨hc, hm⟩ | ⟨hc, hm⟩
            · cases hm
              exact f
            · obtain ⟨h12, e1, hm⟩ := lt_some hm
              replace f : Fr S h12 g := by rw [e1]; exact up_fr f (hS _ (by decide))
              obtain ⟨-, hm⟩ := ck_s hm
              obtain ⟨-, hm⟩ := ck_s hm
              obtain ⟨r13, -, hm⟩ := bd_s hm
              obtain ⟨-, hm⟩ := ck_s hm
              obtain ⟨h14, e1, hm⟩ := lt_some hm
              replace f : Fr S h14 g := by rw [e1]; exact up_fr f (hS _ (by decide))
              cases hm
              exact f
def FPdW_run (p1 : Int32) (p2 : Int32) : List Nat := [34, 36]
theorem wf_W_run_L7 (p2 : Int32) (k0 : PH → Option (Int32 × PH)) (S : List Nat) (g : PH) (r : Int32 × PH) (hS : ∀ b, b ∈ ([36, 34] : List Nat) → b ∈ S) (kk0 : ∀ (y0 : PH), k0 y0 = some r → Fr S y0 g → Fr S r.2 g) : ∀ (n : Nat) (v3 : Int32) (hv : PH), mW_run_L7 p2 k0 n v3 hv = some r → Fr S hv g → Fr S r.2 g := by
  intro n
  induction n with
  | zero => intro v3 hv hm; cases hm
  | succ n ih =>
    intro v3 hv hm f
    unfold mW_run_L7 at hm
    rcases ite_or hm with ⟨hc, hm⟩ | ⟨hc, hm⟩
    · exact kk0 _ hm f
    · obtain ⟨r2, -, hm⟩ := bd_s hm
      obtain ⟨r3, -, hm⟩ := bd_s hm
      obtain ⟨h4, he, hm⟩ := bd_s hm
      replace f := fr_tr f (fpW_step _ _ _ he) (fun b hb => hS b ((by decide +kernel : ∀ b, b ∈ ([36, 34] : List Nat) → b ∈ ([36, 34] : List Nat)) b hb))
      exact ih _ _ hm f
theorem fpW_run (p1 : Int32) (p2 : Int32) (h0 : PH) {r : Int32 × PH} (hm : mW_run p1 p2 h0 = some r) : Fr (FPdW_run p1 p2) r.2 h0 := by
  generalize hSe : FPdW_run p1 p2 = S
  have hS : ∀ b, b ∈ ([34, 36] : List Nat) → b ∈ S := by rw [← hSe]; exact fun b hb => hb
  generalize hge : h0 = g at ⊢
  have f : Fr S h0 g := by rw [hge]; exact fun _ _ => rfl
  unfold mW_run at hm
  obtain ⟨h1, e1, hm⟩ := lt_some hm
  replace f : Fr S h1 g := by rw [e1]; exact up_fr f (hS _ (by decide))
  refine wf_W_run_L7 _ _ S g _ (fun b hb => hS b ((by decide +kernel : ∀ b, b ∈ ([36, 34] : List Nat) → b ∈ ([34, 36] : List Nat)) b hb)) (fun h5 hm f => ?_) _ _ _ hm f
  · rcases ite_or hm with ⟨hc, hm⟩ | ⟨hc, hm⟩
    · cases hm
      exact f
    · obtain ⟨-, hm⟩ := ck_s hm
      cases hm
      exact f
def FPdW_applies (p1 : Int32) : List Nat := [34, 36]
theorem fpW_applies (p1 : Int32) (h0 : PH) {r : Int32 × PH} (hm : mW_applies p1 h0 = some r) : Fr (FPdW_applies p1) r.2 h0 := by
  generalize hSe : FPdW_applies p1 = S
  have hS : ∀ b, b ∈ ([34, 36] : List Nat) → b ∈ S := by rw [← hSe]; exact fun b hb => hb
  generalize hge : h0 = g at ⊢
  have f : Fr S h0 g := by rw [hge]; exact fun _ _ => rfl
  unfold mW_applies at hm
  obtain ⟨r1, -, hm⟩ := bd_s hm
  obtain ⟨r2, -, hm⟩ := bd_s hm
  rcases ite_or hm with ⟨hc, hm⟩ | ⟨hc, hm⟩
  · cases hm
    exact f
  · obtain ⟨r3, h4, he, hm⟩ := bd2_s hm
    replace f := fr_tr f (fpW_run _ _ _ he) (fun b hb => hS b ((by decide +kernel : ∀ b, b ∈ ([34, 36] : List Nat) → b ∈ ([34, 36] : List Nat)) b hb))
    rcases ite_or hm with ⟨hc, hm⟩ | ⟨hc, hm⟩
    · cases hm
      exact f
    · cases hm
      exact f
def FPdW_tells (a1 : Nat) (p2 : Int32) (p3 : Int32) (p4 : Int32) : List Nat := [34, 36, 35]
theorem wf_W_tells_L22 (a1 : Nat) (p2 : Int32) (p3 : Int32) (p4 : Int32) (p5 : Int32) (k0 : Int32 → PH → Option (Int32 × PH)) (k1 : PH → Option (Int32 × PH)) (S : List Nat) (g : PH) (r : Int32 × PH) (hS : ∀ b, b ∈ ([34, 36, 35] : List Nat) → b ∈ S) (kk0 : ∀ (y0 : Int32) (y1 : PH), k0 y0 y1 = some r → Fr S y1 g → Fr S r.2 g) (kk1 : ∀ (y0 : PH), k1 y0 = some r → Fr S y0 g → Fr S r.2 g) : ∀ (n : Nat) (v6 : Int32) (v7 : Int32) (hv : PH), mW_tells_L22 a1 p2 p3 p4 p5 k0 k1 n v6 v7 hv = some r → Fr S hv g → Fr S r.2 g := by
  intro n
  induction n with
  | zero => intro v6 v7 hv hm; cases hm
  | succ n ih =>
    intro v6 v7 hv hm f
    unfold mW_tells_L22 at hm
    rcases ite_or hm with ⟨hc, hm⟩ | ⟨hc, hm⟩
    · exact kk1 _ hm f
    · obtain ⟨r3, -, hm⟩ := bd_s hm
      rcases ite_or hm with ⟨hc, hm⟩ | ⟨hc, hm⟩
      · refine v_j2 (fun (x5 : Int32) (h6 : PH) => Fr S h6 g → Fr S r.2 g) hm (fun x5 h6 hm f => ?_) (fun j4 kj4 hm => ?_)
        · obtain ⟨r7, h8, he, hm⟩ := bd2_s hm
          replace f := fr_tr f (fpW_applies _ _ he) (fun b hb => hS b ((by decide +kernel : ∀ b, b ∈ ([34, 36] : List Nat) → b ∈ ([34, 36, 35] : List Nat)) b hb))
          rcases ite_or hm with ⟨hc, hm⟩ | ⟨hc, hm⟩
          · exact ih _ _ _ hm f
          · exact kk0 _ _ hm f
        · rcases ite_or hm with ⟨hc, hm⟩ | ⟨hc, hm⟩
          · obtain ⟨h9, he, hm⟩ := bd_s hm
            replace f := fr_tr f (fpW_gather _ _ _ _ he) (fun b hb => hS b ((by decide +kernel : ∀ b, b ∈ ([35] : List Nat) → b ∈ ([34, 36, 35] : List Nat)) b hb))
            exact kj4 _ _ hm f
          · exact kj4 _ _ hm f
      · exact ih _ _ _ hm f
theorem fpW_tells (a1 : Nat) (p2 : Int32) (p3 : Int32) (p4 : Int32) (h0 : PH) {r : Int32 × PH} (hm : mW_tells a1 p2 p3 p4 h0 = some r) : Fr (FPdW_tells a1 p2 p3 p4) r.2 h0 := by
  generalize hSe : FPdW_tells a1 p2 p3 p4 = S
  have hS : ∀ b, b ∈ ([34, 36, 35] : List Nat) → b ∈ S := by rw [← hSe]; exact fun b hb => hb
  generalize hge : h0 = g at ⊢
  have f : Fr S h0 g := by rw [hge]; exact fun _ _ => rfl
  unfold mW_tells at hm
  refine v_j1 (fun (x2 : Int32) => Fr S r.2 g) hm (fun x2 hm => ?_) (fun j1 kj1 hm => ?_)
  · refine wf_W_tells_L22 _ _ _ _ _ _ _ S g _ (fun b hb => hS b ((by decide +kernel : ∀ b, b ∈ ([34, 36, 35] : List Nat) → b ∈ ([34, 36, 35] : List Nat)) b hb)) (fun x10 h11 hm f => ?_) (fun h17 hm f => ?_) _ _ _ _ hm f
    · obtain ⟨r12, -, hm⟩ := bd_s hm
      obtain ⟨r13, -, hm⟩ := bd_s hm
      obtain ⟨r14, h15, he, hm⟩ := bd2_s hm
      replace f := fr_tr f (fpW_run _ _ _ he) (fun b hb => hS b ((by decide +kernel : ∀ b, b ∈ ([34, 36] : List Nat) → b ∈ ([34, 36, 35] : List Nat)) b hb))
      obtain ⟨r16, -, hm⟩ := bd_s hm
      cases hm
      exact f
    · obtain ⟨r18, -, hm⟩ := bd_s hm
      obtain ⟨r19, -, hm⟩ := bd_s hm
      cases hm
      exact f
  · rcases ite_or hm with ⟨hc, hm⟩ | ⟨hc, hm⟩
    · exact kj1 _ hm
    · exact kj1 _ hm
def FPdP_keep (a1 : Nat) (p2 : Int32) : List Nat := [73, 74, 75, 76, 77, 78, 79, 80, 81, 82, 83, 84, 72, 70]
theorem fpP_keep (a1 : Nat) (p2 : Int32) (h0 : PH) {r : PH} (hm : mP_keep a1 p2 h0 = some r) : Fr (FPdP_keep a1 p2) r h0 := by
  generalize hSe : FPdP_keep a1 p2 = S
  have hS : ∀ b, b ∈ ([73, 74, 75, 76, 77, 78, 79, 80, 81, 82, 83, 84, 72, 70] : List Nat) → b ∈ S := by rw [← hSe]; exact fun b hb => hb
  generalize hge : h0 = g at ⊢
  have f : Fr S h0 g := by rw [hge]; exact fun _ _ => rfl
  unfold mP_keep at hm
  obtain ⟨-, hm⟩ := dz_s hm
  obtain ⟨x1, -, hm⟩ := lt_some hm
  obtain ⟨hi, hm⟩ := ck_s hm
  have hlt : ix x1 < 6 := Nat.not_le.mp fun q => hi (Or.inr q)
  obtain ⟨h3, he, hm⟩ := bd_s hm
  replace f := fr_tr f (fpB_copyFrom _ _ _ he) (fun b hb => hS b (by simp only [FPdB_copyFrom, List.mem_cons, List.not_mem_nil, or_false] at hb ⊢; omega))
  obtain ⟨hi, hm⟩ := ck_s hm
  have hlt : ix x1 < 6 := Nat.not_le.mp fun q => hi (Or.inr q)
  obtain ⟨h4, e1, hm⟩ := lt_some hm
  replace f : Fr S h4 g := by rw [e1]; exact up_fr f (hS _ (by decide))
  rcases ite_or hm with ⟨hc, hm⟩ | ⟨hc, hm⟩
  · obtain ⟨-, hm⟩ := dz_s hm
    obtain ⟨h5, e1, hm⟩ := lt_some hm
    replace f : Fr S h5 g := by rw [e1]; exact up_fr f (hS _ (by decide))
    cases hm
    exact f
  · obtain ⟨h6, e1, hm⟩ := lt_some hm
    replace f : Fr S h6 g := by rw [e1]; exact up_fr f (hS _ (by decide))
    cases hm
    exact f
def FPdP_goBack (a1 : Nat) : List Nat := [70, (a1 + 1), a1]
theorem fpP_goBack (a1 : Nat) (h0 : PH) {r : Int32 × PH} (hm : mP_goBack a1 h0 = some r) : Fr (FPdP_goBack a1) r.2 h0 := by
  generalize hSe : FPdP_goBack a1 = S
  have hS : ∀ b, b ∈ ([70, (a1 + 1), a1] : List Nat) → b ∈ S := by rw [← hSe]; exact fun b hb => hb
  generalize hge : h0 = g at ⊢
  have f : Fr S h0 g := by rw [hge]; exact fun _ _ => rfl
  unfold mP_goBack at hm
  obtain ⟨h1, e1, hm⟩ := lt_some hm
  replace f : Fr S h1 g := by rw [e1]; exact up_fr f (hS _ (by first | simp; done | (simp only [List.mem_cons, List.not_mem_nil, or_false]; omega)))
  obtain ⟨-, hm⟩ := dz_s hm
  obtain ⟨x2, -, hm⟩ := lt_some hm
  obtain ⟨hi, hm⟩ := ck_s hm
  have hlt : ix x2 < 6 := Nat.not_le.mp fun q => hi (Or.inr q)
  obtain ⟨h4, he, hm⟩ := bd_s hm
  replace f := fr_tr f (fpB_copyFrom _ _ _ he) (fun b hb => hS b (by simp only [FPdB_copyFrom, List.mem_cons, List.not_mem_nil, or_false] at hb ⊢; omega))
  obtain ⟨hi, hm⟩ := ck_s hm
  have hlt : ix x2 < 6 := Nat.not_le.mp fun q => hi (Or.inr q)
  cases hm
  exact f
def FPdP_forget : List Nat := [70]
theorem fpP_forget (h0 : PH) {r : PH} (hm : mP_forget h0 = some r) : Fr (FPdP_forget ) r h0 := by
  generalize hSe : FPdP_forget = S
  have hS : ∀ b, b ∈ ([70] : List Nat) → b ∈ S := by rw [← hSe]; exact fun b hb => hb
  generalize hge : h0 = g at ⊢
  have f : Fr S h0 g := by rw [hge]; exact fun _ _ => rfl
  unfold mP_forget at hm
  obtain ⟨h1, e1, hm⟩ := lt_some hm
  replace f : Fr S h1 g := by rw [e1]; exact up_fr f (hS _ (by decide))
  cases hm
  exact f
def FPdO_copyFrom (a0 : Nat) (a1 : Nat) : List Nat := [((a0 + 1) + 1), (a0 + 1), ((a0 + 3) + 1), (a0 + 3), ((a0 + 5) + 1), (a0 + 5), ((a0 + 7) + 1), (a0 + 7), ((a0 + 9) + 1), (a0 + 9), ((a0 + 11) + 1), (a0 + 11), ((a0 + 13) + 1), (a0 + 13), ((a0 + 15) + 1), (a0 + 15), ((a0 + 17) + 1), (a0 + 17), ((a0 + 19) + 1), (a0 + 19), ((a0 + 21) + 1), (a0 + 21), ((a0 + 23) + 1), (a0 + 23), ((a0 + 25) + 1), (a0 + 25), ((a0 + 27) + 1), (a0 + 27)]
theorem fpO_copyFrom (a0 : Nat) (a1 : Nat) (h0 : PH) {r : PH} (hm : mO_copyFrom a0 a1 h0 = some r) : Fr (FPdO_copyFrom a0 a1) r h0 := by
  generalize hSe : FPdO_copyFrom a0 a1 = S
  have hS : ∀ b, b ∈ ([((a0 + 1) + 1), (a0 + 1), ((a0 + 3) + 1), (a0 + 3), ((a0 + 5) + 1), (a0 + 5), ((a0 + 7) + 1), (a0 + 7), ((a0 + 9) + 1), (a0 + 9), ((a0 + 11) + 1), (a0 + 11), ((a0 + 13) + 1), (a0 + 13), ((a0 + 15) + 1), (a0 + 15), ((a0 + 17) + 1), (a0 + 17), ((a0 + 19) + 1), (a0 + 19), ((a0 + 21) + 1), (a0 + 21), ((a0 + 23) + 1), (a0 + 23), ((a0 + 25) + 1), (a0 + 25), ((a0 + 27) + 1), (a0 + 27)] : List Nat) → b ∈ S := by rw [← hSe]; exact fun b hb => hb
  generalize hge : h0 = g at ⊢
  have f : Fr S h0 g := by rw [hge]; exact fun _ _ => rfl
  unfold mO_copyFrom at hm
  obtain ⟨h1, he, hm⟩ := bd_s hm
  replace f := fr_tr f (fpR_copyFrom _ _ _ he) (fun b hb => hS b (by simp only [FPdR_copyFrom, List.mem_cons, List.not_mem_nil, or_false] at hb ⊢; omega))
  obtain ⟨h2, he, hm⟩ := bd_s hm
  replace f := fr_tr f (fpR_copyFrom _ _ _ he) (fun b hb => hS b (by simp only [FPdR_copyFrom, List.mem_cons, List.not_mem_nil, or_false] at hb ⊢; omega))
  obtain ⟨h3, he, hm⟩ := bd_s hm
  replace f := fr_tr f (fpR_copyFrom _ _ _ he) (fun b hb => hS b (by simp only [FPdR_copyFrom, List.mem_cons, List.not_mem_nil, or_false] at hb ⊢; omega))
  obtain ⟨h4, he, hm⟩ := bd_s hm
  replace f := fr_tr f (fpR_copyFrom _ _ _ he) (fun b hb => hS b (by simp only [FPdR_copyFrom, List.mem_cons, List.not_mem_nil, or_false] at hb ⊢; omega))
  obtain ⟨h5, he, hm⟩ := bd_s hm
  replace f := fr_tr f (fpR_copyFrom _ _ _ he) (fun b hb => hS b (by simp only [FPdR_copyFrom, List.mem_cons, List.not_mem_nil, or_false] at hb ⊢; omega))
  obtain ⟨h6, he, hm⟩ := bd_s hm
  replace f := fr_tr f (fpR_copyFrom _ _ _ he) (fun b hb => hS b (by simp only [FPdR_copyFrom, List.mem_cons, List.not_mem_nil, or_false] at hb ⊢; omega))
  obtain ⟨h7, he, hm⟩ := bd_s hm
  replace f := fr_tr f (fpR_copyFrom _ _ _ he) (fun b hb => hS b (by simp only [FPdR_copyFrom, List.mem_cons, List.not_mem_nil, or_false] at hb ⊢; omega))
  obtain ⟨h8, he, hm⟩ := bd_s hm
  replace f := fr_tr f (fpR_copyFrom _ _ _ he) (fun b hb => hS b (by simp only [FPdR_copyFrom, List.mem_cons, List.not_mem_nil, or_false] at hb ⊢; omega))
  obtain ⟨h9, he, hm⟩ := bd_s hm
  replace f := fr_tr f (fpR_copyFrom _ _ _ he) (fun b hb => hS b (by simp only [FPdR_copyFrom, List.mem_cons, List.not_mem_nil, or_false] at hb ⊢; omega))
  obtain ⟨h10, he, hm⟩ := bd_s hm
  replace f := fr_tr f (fpR_copyFrom _ _ _ he) (fun b hb => hS b (by simp only [FPdR_copyFrom, List.mem_cons, List.not_mem_nil, or_false] at hb ⊢; omega))
  obtain ⟨h11, he, hm⟩ := bd_s hm
  replace f := fr_tr f (fpR_copyFrom _ _ _ he) (fun b hb => hS b (by simp only [FPdR_copyFrom, List.mem_cons, List.not_mem_nil, or_false] at hb ⊢; omega))
  obtain ⟨h12, he, hm⟩ := bd_s hm
  replace f := fr_tr f (fpR_copyFrom _ _ _ he) (fun b hb => hS b (by simp only [FPdR_copyFrom, List.mem_cons, List.not_mem_nil, or_false] at hb ⊢; omega))
  obtain ⟨h13, he, hm⟩ := bd_s hm
  replace f := fr_tr f (fpR_copyFrom _ _ _ he) (fun b hb => hS b (by simp only [FPdR_copyFrom, List.mem_cons, List.not_mem_nil, or_false] at hb ⊢; omega))
  obtain ⟨h14, he, hm⟩ := bd_s hm
  replace f := fr_tr f (fpR_copyFrom _ _ _ he) (fun b hb => hS b (by simp only [FPdR_copyFrom, List.mem_cons, List.not_mem_nil, or_false] at hb ⊢; omega))
  cases hm
  exact f
def FPdT_spread (a1 : Nat) (a2 : Nat) (p3 : Int32) (p4 : Int32) : List Nat := [96]
theorem wf_T_spread_L3 (a1 : Nat) (a2 : Nat) (p3 : Int32) (p4 : Int32) (k0 : PH → Option (PH)) (S : List Nat) (g : PH) (r : PH) (hS : ∀ b, b ∈ ([96] : List Nat) → b ∈ S) (kk0 : ∀ (y0 : PH), k0 y0 = some r → Fr S y0 g → Fr S r g) : ∀ (n : Nat) (v5 : Int32) (hv : PH), mT_spread_L3 a1 a2 p3 p4 k0 n v5 hv = some r → Fr S hv g → Fr S r g := by
  intro n
  induction n with
  | zero => intro v5 hv hm; cases hm
  | succ n ih =>
    intro v5 hv hm f
    unfold mT_spread_L3 at hm
    rcases ite_or hm with ⟨hc, hm⟩ | ⟨hc, hm⟩
    · exact kk0 _ hm f
    · refine v_j1 (fun (x2 : Int32) => Fr S r g) hm (fun x2 hm => ?_) (fun j1 kj1 hm => ?_)
      · obtain ⟨-, hm⟩ := ck_s hm
        obtain ⟨h3, e1, hm⟩ := lt_some hm
        replace f : Fr S h3 g := by rw [e1]; exact up_fr f (hS _ (by decide))
        exact ih _ _ hm f
      · rcases ite_or hm with ⟨hc, hm⟩ | ⟨hc, hm⟩
        · exact kj1 _ hm
        · exact kj1 _ hm
theorem wf_T_spread_L48 (a1 : Nat) (a2 : Nat) (p4 : Int32) (p5 : Int32) (k0 : PH → Option (PH)) (S : List Nat) (g : PH) (r : PH) (hS : ∀ b, b ∈ ([96] : List Nat) → b ∈ S) (kk0 : ∀ (y0 : PH), k0 y0 = some r → Fr S y0 g → Fr S r g) : ∀ (n : Nat) (v6 : Int32) (hv : PH), mT_spread_L48 a1 a2 p4 p5 k0 n v6 hv = some r → Fr S hv g → Fr S r g := by
  intro n
  induction n with
  | zero => intro v6 hv hm; cases hm
  | succ n ih =>
    intro v6 hv hm f
    unfold mT_spread_L48 at hm
    rcases ite_or hm with ⟨hc, hm⟩ | ⟨hc, hm⟩
    · exact kk0 _ hm f
    · obtain ⟨r5, -, hm⟩ := bd_s hm
      obtain ⟨r6, -, hm⟩ := bd_s hm
      obtain ⟨r7, -, hm⟩ := bd_s hm
      rcases ite_or hm with ⟨hc, hm⟩ | ⟨hc, hm⟩
      · exact ih _ _ hm f
      · obtain ⟨r8, -, hm⟩ := bd_s hm
        rcases ite_or hm with ⟨hc, hm⟩ | ⟨hc, hm⟩
        · exact ih _ _ hm f
        · obtain ⟨r9, -, hm⟩ := bd_s hm
          obtain ⟨r10, -, hm⟩ := bd_s hm
          obtain ⟨x11, -, hm⟩ := lt_some hm
          obtain ⟨-, hm⟩ := ck_s hm
          obtain ⟨-, hm⟩ := ck_s hm
          obtain ⟨r12, -, hm⟩ := bd_s hm
          obtain ⟨-, hm⟩ := ck_s hm
          obtain ⟨h13, e1, hm⟩ := lt_some hm
          replace f : Fr S h13 g := by rw [e1]; exact up_fr f (hS _ (by decide))
          obtain ⟨-, hm⟩ := ck_s hm
          obtain ⟨-, hm⟩ := ck_s hm
          obtain ⟨r14, -, hm⟩ := bd_s hm
          obtain ⟨-, hm⟩ := ck_s hm
          obtain ⟨h15, e1, hm⟩ := lt_some hm
          replace f : Fr S h15 g := by rw [e1]; exact up_fr f (hS _ (by decide))
          exact ih _ _ hm f
theorem wf_T_spread_L38 (a1 : Nat) (a2 : Nat) (p4 : Int32) (S : List Nat) (g : PH) (r : PH) (hS : ∀ b, b ∈ ([96] : List Nat) → b ∈ S) : ∀ (n : Nat) (v5 : Int32) (hv : PH), mT_spread_L38 a1 a2 p4 n v5 hv = some r → Fr S hv g → Fr S r g := by
  intro n
  induction n with
  | zero => intro v5 hv hm; cases hm
  | succ n ih =>
    intro v5 hv hm f
    unfold mT_spread_L38 at hm
    rcases ite_or hm with ⟨hc, hm⟩ | ⟨hc, hm⟩
    · cases hm
      exact f
    · refine wf_T_spread_L48 _ _ _ _ _ S g _ (fun b hb => hS b ((by decide +kernel : ∀ b, b ∈ ([96] : List Nat) → b ∈ ([96] : List Nat)) b hb)) (fun h16 hm f => ?_) _ _ _ hm f
      · exact ih _ _ hm f
theorem fpT_spread (a1 : Nat) (a2 : Nat) (p3 : Int32) (p4 : Int32) (h0 : PH) {r : PH} (hm : mT_spread a1 a2 p3 p4 h0 = some r) : Fr (FPdT_spread a1 a2 p3 p4) r h0 := by
  generalize hSe : FPdT_spread a1 a2 p3 p4 = S
  have hS : ∀ b, b ∈ ([96] : List Nat) → b ∈ S := by rw [← hSe]; exact fun b hb => hb
  generalize hge : h0 = g at ⊢
  have f : Fr S h0 g := by rw [hge]; exact fun _ _ => rfl
  unfold mT_spread at hm
  refine wf_T_spread_L3 _ _ _ _ _ S g _ (fun b hb => hS b ((by decide +kernel : ∀ b, b ∈ ([96] : List Nat) → b ∈ ([96] : List Nat)) b hb)) (fun h4 hm f => ?_) _ _ _ hm f
  · exact wf_T_spread_L38 _ _ _ S g _ (fun b hb => hS b ((by decide +kernel : ∀ b, b ∈ ([96] : List Nat) → b ∈ ([96] : List Nat)) b hb)) _ _ _ hm f
def FPdT_mostAlone (a1 : Nat) (a2 : Nat) : List Nat := [97]
theorem wf_T_mostAlone_L8 (a2 : Nat) (p3 : Int32) (k0 : PH → Option (Int32 × PH)) (S : List Nat) (g : PH) (r : Int32 × PH) (hS : ∀ b, b ∈ ([97] : List Nat) → b ∈ S) (kk0 : ∀ (y0 : PH), k0 y0 = some r → Fr S y0 g → Fr S r.2 g) : ∀ (n : Nat) (v4 : Int32) (hv : PH), mT_mostAlone_L8 a2 p3 k0 n v4 hv = some r → Fr S hv g → Fr S r.2 g := by
  intro n
  induction n with
  | zero => intro v4 hv hm; cases hm
  | succ n ih =>
    intro v4 hv hm f
    unfold mT_mostAlone_L8 at hm
    rcases ite_or hm with ⟨hc, hm⟩ | ⟨hc, hm⟩
    · exact kk0 _ hm f
    · obtain ⟨r2, -, hm⟩ := bd_s hm
      obtain ⟨-, hm⟩ := ck_s hm
      obtain ⟨h3, e1, hm⟩ := lt_some hm
      replace f : Fr S h3 g := by rw [e1]; exact up_fr f (hS _ (by decide))
      exact ih _ _ hm f
theorem wf_T_mostAlone_L43 (p3 : Int32) (h0 : PH) (S : List Nat) (g : PH) (r : Int32 × PH) (hS : ∀ b, b ∈ ([] : List Nat) → b ∈ S) (f : Fr S h0 g) : ∀ (n : Nat) (v4 : Int32) (v5 : Int32) (v6 : Int32), mT_mostAlone_L43 p3 h0 n v4 v5 v6 = some r → Fr S r.2 g := by
  intro n
  induction n with
  | zero => intro v4 v5 v6 hm; cases hm
  | succ n ih =>
    intro v4 v5 v6 hm
    unfold mT_mostAlone_L43 at hm
    rcases ite_or hm with ⟨hc, hm⟩ | ⟨hc, hm⟩
    · cases hm
      exact f
    · rcases ite_or hm with ⟨hc, hm⟩ | ⟨hc, hm⟩
      · obtain ⟨r5, -, hm⟩ := bd_s hm
        rcases ite_or hm with ⟨hc, hm⟩ | ⟨hc, hm⟩
        · exact ih _ _ _ hm
        · obtain ⟨r6, -, hm⟩ := bd_s hm
          rcases ite_or hm with ⟨hc, hm⟩ | ⟨hc, hm⟩
          · exact ih _ _ _ hm
          · obtain ⟨r7, -, hm⟩ := bd_s hm
            exact ih _ _ _ hm
      · exact ih _ _ _ hm
theorem fpT_mostAlone (a1 : Nat) (a2 : Nat) (h0 : PH) {r : Int32 × PH} (hm : mT_mostAlone a1 a2 h0 = some r) : Fr (FPdT_mostAlone a1 a2) r.2 h0 := by
  generalize hSe : FPdT_mostAlone a1 a2 = S
  have hS : ∀ b, b ∈ ([97] : List Nat) → b ∈ S := by rw [← hSe]; exact fun b hb => hb
  generalize hge : h0 = g at ⊢
  have f : Fr S h0 g := by rw [hge]; exact fun _ _ => rfl
  unfold mT_mostAlone at hm
  obtain ⟨r1, -, hm⟩ := bd_s hm
  refine wf_T_mostAlone_L8 _ _ _ S g _ (fun b hb => hS b ((by decide +kernel : ∀ b, b ∈ ([97] : List Nat) → b ∈ ([97] : List Nat)) b hb)) (fun h4 hm f => ?_) _ _ _ hm f
  · exact wf_T_mostAlone_L43 _ _ S g _ (fun b hb => hS b ((by decide +kernel : ∀ b, b ∈ ([] : List Nat) → b ∈ ([97] : List Nat)) b hb)) f _ _ _ _ hm
def FPdA_take (p1 : Int32) : List Nat := [86, 85]
theorem wf_A_take_L3 (p1 : Int32) (S : List Nat) (g : PH) (r : PH) (hS : ∀ b, b ∈ ([86, 85] : List Nat) → b ∈ S) : ∀ (n : Nat) (v2 : Int32) (hv : PH), mA_take_L3 p1 n v2 hv = some r → Fr S hv g → Fr S r g := by
  intro n
  induction n with
  | zero => intro v2 hv hm; cases hm
  | succ n ih =>
    intro v2 hv hm f
    unfold mA_take_L3 at hm
    rcases ite_or hm with ⟨hc, hm⟩ | ⟨hc, hm⟩
    · cases hm
      exact f
    · rcases ite_or hm with ⟨hc, hm⟩ | ⟨hc, hm⟩
      · exact ih _ _ hm f
      · obtain ⟨-, hm⟩ := ck_s hm
        obtain ⟨h1, e1, hm⟩ := lt_some hm
        replace f : Fr S h1 g := by rw [e1]; exact up_fr f (hS _ (by decide))
        obtain ⟨h2, e1, hm⟩ := lt_some hm
        replace f : Fr S h2 g := by rw [e1]; exact up_fr f (hS _ (by decide))
        exact ih _ _ hm f
theorem fpA_take (p1 : Int32) (h0 : PH) {r : PH} (hm : mA_take p1 h0 = some r) : Fr (FPdA_take p1) r h0 := by
  generalize hSe : FPdA_take p1 = S
  have hS : ∀ b, b ∈ ([86, 85] : List Nat) → b ∈ S := by rw [← hSe]; exact fun b hb => hb
  generalize hge : h0 = g at ⊢
  have f : Fr S h0 g := by rw [hge]; exact fun _ _ => rfl
  unfold mA_take at hm
  exact wf_A_take_L3 _ S g _ (fun b hb => hS b ((by decide +kernel : ∀ b, b ∈ ([86, 85] : List Nat) → b ∈ ([86, 85] : List Nat)) b hb)) _ _ _ hm f
def FPdA_keepToken (p1 : Int32) (p2 : Int32) (p3 : Int32) : List Nat := [87, 88, 89, 85]
theorem fpA_keepToken (p1 : Int32) (p2 : Int32) (p3 : Int32) (h0 : PH) {r : PH} (hm : mA_keepToken p1 p2 p3 h0 = some r) : Fr (FPdA_keepToken p1 p2 p3) r h0 := by
  generalize hSe : FPdA_keepToken p1 p2 p3 = S
  have hS : ∀ b, b ∈ ([87, 88, 89, 85] : List Nat) → b ∈ S := by rw [← hSe]; exact fun b hb => hb
  generalize hge : h0 = g at ⊢
  have f : Fr S h0 g := by rw [hge]; exact fun _ _ => rfl
  unfold mA_keepToken at hm
  rcases ite_or hm with ⟨hc, hm⟩ | ⟨hc, hm⟩
  · cases hm
    exact f
  · obtain ⟨-, hm⟩ := ck_s hm
    obtain ⟨h1, e1, hm⟩ := lt_some hm
    replace f : Fr S h1 g := by rw [e1]; exact up_fr f (hS _ (by decide))
    obtain ⟨-, hm⟩ := ck_s hm
    obtain ⟨h2, e1, hm⟩ := lt_some hm
    replace f : Fr S h2 g := by rw [e1]; exact up_fr f (hS _ (by decide))
    obtain ⟨-, hm⟩ := ck_s hm
    obtain ⟨h3, e1, hm⟩ := lt_some hm
    replace f : Fr S h3 g := by rw [e1]; exact up_fr f (hS _ (by decide))
    obtain ⟨h4, e1, hm⟩ := lt_some hm
    replace f : Fr S h4 g := by rw [e1]; exact up_fr f (hS _ (by decide))
    cases hm
    exact f
def FPdA_scan (s1 : Nat) : List Nat := [85, 87, 88, 89]
theorem wf_A_scan_L9 (s1 : Nat) (k0 : PH → Option (PH)) (S : List Nat) (g : PH) (r : PH) (hS : ∀ b, b ∈ ([87, 88, 89, 85] : List Nat) → b ∈ S) (kk0 : ∀ (y0 : PH), k0 y0 = some r → Fr S y0 g → Fr S r g) : ∀ (n : Nat) (v2 : Int32) (v3 : Int32) (hv : PH), mA_scan_L9 s1 k0 n v2 v3 hv = some r → Fr S hv g → Fr S r g := by
  intro n
  induction n with
  | zero => intro v2 v3 hv hm; cases hm
  | succ n ih =>
    intro v2 v3 hv hm f
    unfold mA_scan_L9 at hm
    rcases ite_or hm with ⟨hc, hm⟩ | ⟨hc, hm⟩
    · exact kk0 _ hm f
    · rcases ite_or hm with ⟨hc, hm⟩ | ⟨hc, hm⟩
      · exact kk0 _ hm f
      · obtain ⟨r2, -, hm⟩ := bd_s hm
        obtain ⟨r3, -, hm⟩ := bd_s hm
        obtain ⟨r4, -, hm⟩ := bd_s hm
        rcases ite_or hm with ⟨hc, hm⟩ | ⟨hc, hm⟩
        · obtain ⟨r5, -, hm⟩ := bd_s hm
          obtain ⟨r6, -, hm⟩ := bd_s hm
          obtain ⟨h7, he, hm⟩ := bd_s hm
          replace f := fr_tr f (fpA_keepToken _ _ _ _ he) (fun b hb => hS b ((by decide +kernel : ∀ b, b ∈ ([87, 88, 89, 85] : List Nat) → b ∈ ([87, 88, 89, 85] : List Nat)) b hb))
          exact ih _ _ _ hm f
        · exact ih _ _ _ hm f
theorem fpA_scan (s1 : Nat) (h0 : PH) {r : PH} (hm : mA_scan s1 h0 = some r) : Fr (FPdA_scan s1) r h0 := by
  generalize hSe : FPdA_scan s1 = S
  have hS : ∀ b, b ∈ ([85, 87, 88, 89] : List Nat) → b ∈ S := by rw [← hSe]; exact fun b hb => hb
  generalize hge : h0 = g at ⊢
  have f : Fr S h0 g := by rw [hge]; exact fun _ _ => rfl
  unfold mA_scan at hm
  obtain ⟨h1, e1, hm⟩ := lt_some hm
  replace f : Fr S h1 g := by rw [e1]; exact up_fr f (hS _ (by decide))
  refine wf_A_scan_L9 _ _ S g _ (fun b hb => hS b ((by decide +kernel : ∀ b, b ∈ ([87, 88, 89, 85] : List Nat) → b ∈ ([85, 87, 88, 89] : List Nat)) b hb)) (fun h8 hm f => ?_) _ _ _ _ hm f
  · obtain ⟨h9, he, hm⟩ := bd_s hm
    replace f := fr_tr f (fpA_keepToken _ _ _ _ he) (fun b hb => hS b ((by decide +kernel : ∀ b, b ∈ ([87, 88, 89, 85] : List Nat) → b ∈ ([85, 87, 88, 89] : List Nat)) b hb))
    cases hm
    exact f
def FPdS_weather (a0 : Nat) : List Nat := [(sT a0)]
theorem wf_S_weather_L10 (a0 : Nat) (S : List Nat) (g : PH) (r : PH) (hS : ∀ b, b ∈ ([(sT a0)] : List Nat) → b ∈ S) : ∀ (n : Nat) (v2 : Int32) (hv : PH), mS_weather_L10 a0 n v2 hv = some r → Fr S hv g → Fr S r g := by
  intro n
  induction n with
  | zero => intro v2 hv hm; cases hm
  | succ n ih =>
    intro v2 hv hm f
    unfold mS_weather_L10 at hm
    rcases ite_or hm with ⟨hc, hm⟩ | ⟨hc, hm⟩
    · cases hm
      exact f
    · obtain ⟨r1, -, hm⟩ := bd_s hm
      rcases ite_or hm with ⟨hc, hm⟩ | ⟨hc, hm⟩
      · obtain ⟨r2, -, hm⟩ := bd_s hm
        rcases ite_or hm with ⟨hc, hm⟩ | ⟨hc, hm⟩
        · obtain ⟨r3, -, hm⟩ := bd_s hm
          obtain ⟨h4, e1, hm⟩ := lt_some hm
          replace f : Fr S h4 g := by rw [e1]; exact up_fr f (hS _ (by first | simp; done | (simp only [List.mem_cons, List.not_mem_nil, or_false]; omega)))
          exact ih _ _ hm f
        · rcases ite_or hm with ⟨hc, hm⟩ | ⟨hc, hm⟩
          · obtain ⟨h5, e1, hm⟩ := lt_some hm
            replace f : Fr S h5 g := by rw [e1]; exact up_fr f (hS _ (by first | simp; done | (simp only [List.mem_cons, List.not_mem_nil, or_false]; omega)))
            exact ih _ _ hm f
          · obtain ⟨h6, e1, hm⟩ := lt_some hm
            replace f : Fr S h6 g := by rw [e1]; exact up_fr f (hS _ (by first | simp; done | (simp only [List.mem_cons, List.not_mem_nil, or_false]; omega)))
            exact ih _ _ hm f
      · exact ih _ _ hm f
theorem fpS_weather (a0 : Nat) (h0 : PH) {r : PH} (hm : mS_weather a0 h0 = some r) : Fr (FPdS_weather a0) r h0 := by
  generalize hSe : FPdS_weather a0 = S
  have hS : ∀ b, b ∈ ([(sT a0)] : List Nat) → b ∈ S := by rw [← hSe]; exact fun b hb => hb
  generalize hge : h0 = g at ⊢
  have f : Fr S h0 g := by rw [hge]; exact fun _ _ => rfl
  unfold mS_weather at hm
  exact wf_S_weather_L10 _ S g _ (fun b hb => hS b (by first | exact absurd hb List.not_mem_nil | (simp only [List.mem_cons, List.not_mem_nil, or_false] at hb ⊢; omega))) _ _ _ hm f
def FPdS_note (a0 : Nat) (p1 : Int32) (p2 : Int32) (p3 : Int32) : List Nat := [17, 16]
theorem fpS_note (a0 : Nat) (p1 : Int32) (p2 : Int32) (p3 : Int32) (h0 : PH) {r : PH} (hm : mS_note a0 p1 p2 p3 h0 = some r) : Fr (FPdS_note a0 p1 p2 p3) r h0 := by
  generalize hSe : FPdS_note a0 p1 p2 p3 = S
  have hS : ∀ b, b ∈ ([17, 16] : List Nat) → b ∈ S := by rw [← hSe]; exact fun b hb => hb
  generalize hge : h0 = g at ⊢
  have f : Fr S h0 g := by rw [hge]; exact fun _ _ => rfl
  unfold mS_note at hm
  rcases ite_or hm with ⟨hc, hm⟩ | ⟨hc, hm⟩
  · cases hm
    exact f
  · obtain ⟨r1, h2, he, hm⟩ := bd2_s hm
    replace f := fr_tr f (fpR_add _ _ _ _ _ _ _ he) (fun b hb => hS b (by simp only [FPdR_add, List.mem_cons, List.not_mem_nil, or_false] at hb ⊢; omega))
    cases hm
    exact f
def FPdS_moveLodgers (a0 : Nat) (p1 : Int32) (p2 : Int32) : List Nat := [((sT a0) + 1), 17, 16]
theorem fpS_moveLodgers (a0 : Nat) (p1 : Int32) (p2 : Int32) (h0 : PH) {r : PH} (hm : mS_moveLodgers a0 p1 p2 h0 = some r) : Fr (FPdS_moveLodgers a0 p1 p2) r h0 := by
  generalize hSe : FPdS_moveLodgers a0 p1 p2 = S
  have hS : ∀ b, b ∈ ([((sT a0) + 1), 17, 16] : List Nat) → b ∈ S := by rw [← hSe]; exact fun b hb => hb
  generalize hge : h0 = g at ⊢
  have f : Fr S h0 g := by rw [hge]; exact fun _ _ => rfl
  unfold mS_moveLodgers at hm
  obtain ⟨r1, -, hm⟩ := bd_s hm
  obtain ⟨h2, he, hm⟩ := bd_s hm
  replace f := fr_tr f (fpB_write _ _ _ _ _ he) (fun b hb => hS b (by simp only [FPdB_write, List.mem_cons, List.not_mem_nil, or_false] at hb ⊢; omega))
  refine v_j1 (fun (h4 : PH) => Fr S h4 g → Fr S r g) hm (fun h4 hm f => ?_) (fun j3 kj3 hm => ?_)
  · obtain ⟨h5, he, hm⟩ := bd_s hm
    replace f := fr_tr f (fpS_note _ _ _ _ _ he) (fun b hb => hS b (by simp only [FPdS_note, List.mem_cons, List.not_mem_nil, or_false] at hb ⊢; omega))
    cases hm
    exact f
  · rcases ite_or hm with ⟨hc, hm⟩ | ⟨hc, hm⟩
    · exact kj3 _ hm f
    · obtain ⟨r6, -, hm⟩ := bd_s hm
      obtain ⟨h7, he, hm⟩ := bd_s hm
      replace f := fr_tr f (fpB_write _ _ _ _ _ he) (fun b hb => hS b (by simp only [FPdB_write, List.mem_cons, List.not_mem_nil, or_false] at hb ⊢; omega))
      exact kj3 _ hm f
def FPdS_leaveIfFallen (a0 : Nat) (p1 : Int32) : List Nat := [((sT a0) + 1), 17, 16]
theorem fpS_leaveIfFallen (a0 : Nat) (p1 : Int32) (h0 : PH) {r : PH} (hm : mS_leaveIfFallen a0 p1 h0 = some r) : Fr (FPdS_leaveIfFallen a0 p1) r h0 := by
  generalize hSe : FPdS_leaveIfFallen a0 p1 = S
  have hS : ∀ b, b ∈ ([((sT a0) + 1), 17, 16] : List Nat) → b ∈ S := by rw [← hSe]; exact fun b hb => hb
  generalize hge : h0 = g at ⊢
  have f : Fr S h0 g := by rw [hge]; exact fun _ _ => rfl
  unfold mS_leaveIfFallen at hm
  obtain ⟨r1, -, hm⟩ := bd_s hm
  rcases ite_or hm with ⟨hc, hm⟩ | ⟨hc, hm⟩
  · obtain ⟨r2, -, hm⟩ := bd_s hm
    rcases ite_or hm with ⟨hc, hm⟩ | ⟨hc, hm⟩
    · obtain ⟨r3, -, hm⟩ := bd_s hm
      obtain ⟨h4, he, hm⟩ := bd_s hm
      replace f := fr_tr f (fpS_moveLodgers _ _ _ _ he) (fun b hb => hS b (by simp only [FPdS_moveLodgers, List.mem_cons, List.not_mem_nil, or_false] at hb ⊢; omega))
      cases hm
      exact f
    · cases hm
      exact f
  · cases hm
    exact f
def FPdS_wed (a0 : Nat) (p1 : Int32) : List Nat := [((sT a0) + 1), 17, 16]
theorem fpS_wed (a0 : Nat) (p1 : Int32) (h0 : PH) {r : PH} (hm : mS_wed a0 p1 h0 = some r) : Fr (FPdS_wed a0 p1) r h0 := by
  generalize hSe : FPdS_wed a0 p1 = S
  have hS : ∀ b, b ∈ ([((sT a0) + 1), 17, 16] : List Nat) → b ∈ S := by rw [← hSe]; exact fun b hb => hb
  generalize hge : h0 = g at ⊢
  have f : Fr S h0 g := by rw [hge]; exact fun _ _ => rfl
  unfold mS_wed at hm
  obtain ⟨h1, he, hm⟩ := bd_s hm
  replace f := fr_tr f (fpB_write _ _ _ _ _ he) (fun b hb => hS b (by simp only [FPdB_write, List.mem_cons, List.not_mem_nil, or_false] at hb ⊢; omega))
  obtain ⟨r2, -, hm⟩ := bd_s hm
  obtain ⟨r3, h4, he, hm⟩ := bd2_s hm
  replace f := fr_tr f (fpB_thin _ _ _ _ _ he) (fun b hb => hS b (by simp only [FPdB_thin, List.mem_cons, List.not_mem_nil, or_false] at hb ⊢; omega))
  obtain ⟨r5, -, hm⟩ := bd_s hm
  obtain ⟨x6, -, hm⟩ := lt_some hm
  obtain ⟨h7, he, hm⟩ := bd_s hm
  replace f := fr_tr f (fpB_write _ _ _ _ _ he) (fun b hb => hS b (by simp only [FPdB_write, List.mem_cons, List.not_mem_nil, or_false] at hb ⊢; omega))
  obtain ⟨h8, he, hm⟩ := bd_s hm
  replace f := fr_tr f (fpS_note _ _ _ _ _ he) (fun b hb => hS b (by simp only [FPdS_note, List.mem_cons, List.not_mem_nil, or_false] at hb ⊢; omega))
  obtain ⟨h9, he, hm⟩ := bd_s hm
  replace f := fr_tr f (fpS_leaveIfFallen _ _ _ he) (fun b hb => hS b (by simp only [FPdS_leaveIfFallen, List.mem_cons, List.not_mem_nil, or_false] at hb ⊢; omega))
  cases hm
  exact f
def FPdS_raze (a0 : Nat) (p1 : Int32) : List Nat := [((sT a0) + 1), 17, 16]
theorem wf_S_raze_L2 (a0 : Nat) (p1 : Int32) (k0 : PH → Option (PH)) (S : List Nat) (g : PH) (r : PH) (hS : ∀ b, b ∈ ([((sT a0) + 1)] : List Nat) → b ∈ S) (kk0 : ∀ (y0 : PH), k0 y0 = some r → Fr S y0 g → Fr S r g) : ∀ (n : Nat) (v2 : Int32) (hv : PH), mS_raze_L2 a0 p1 k0 n v2 hv = some r → Fr S hv g → Fr S r g := by
  intro n
  induction n with
  | zero => intro v2 hv hm; cases hm
  | succ n ih =>
    intro v2 hv hm f
    unfold mS_raze_L2 at hm
    rcases ite_or hm with ⟨hc, hm⟩ | ⟨hc, hm⟩
    · exact kk0 _ hm f
    · obtain ⟨h1, he, hm⟩ := bd_s hm
      replace f := fr_tr f (fpB_write _ _ _ _ _ he) (fun b hb => hS b (by simp only [FPdB_write, List.mem_cons, List.not_mem_nil, or_false] at hb ⊢; omega))
      exact ih _ _ hm f
theorem fpS_raze (a0 : Nat) (p1 : Int32) (h0 : PH) {r : PH} (hm : mS_raze a0 p1 h0 = some r) : Fr (FPdS_raze a0 p1) r h0 := by
  generalize hSe : FPdS_raze a0 p1 = S
  have hS : ∀ b, b ∈ ([((sT a0) + 1), 17, 16] : List Nat) → b ∈ S := by rw [← hSe]; exact fun b hb => hb
  generalize hge : h0 = g at ⊢
  have f : Fr S h0 g := by rw [hge]; exact fun _ _ => rfl
  unfold mS_raze at hm
  refine wf_S_raze_L2 _ _ _ S g _ (fun b hb => hS b (by first | exact absurd hb List.not_mem_nil | (simp only [List.mem_cons, List.not_mem_nil, or_false] at hb ⊢; omega))) (fun h2 hm f => ?_) _ _ _ hm f
  · obtain ⟨h3, he, hm⟩ := bd_s hm
    replace f := fr_tr f (fpS_leaveIfFallen _ _ _ he) (fun b hb => hS b (by simp only [FPdS_leaveIfFallen, List.mem_cons, List.not_mem_nil, or_false] at hb ⊢; omega))
    cases hm
    exact f
def FPdS_officeLine (a0 : Nat) (a1 : Nat) (p2 : Int32) : List Nat := [((sT a0) + 1), 17, 16]
theorem fpS_officeLine (a0 : Nat) (a1 : Nat) (p2 : Int32) (h0 : PH) {r : PH} (hm : mS_officeLine a0 a1 p2 h0 = some r) : Fr (FPdS_officeLine a0 a1 p2) r h0 := by
  generalize hSe : FPdS_officeLine a0 a1 p2 = S
  have hS : ∀ b, b ∈ ([((sT a0) + 1), 17, 16] : List Nat) → b ∈ S := by rw [← hSe]; exact fun b hb => hb
  generalize hge : h0 = g at ⊢
  have f : Fr S h0 g := by rw [hge]; exact fun _ _ => rfl
  unfold mS_officeLine at hm
  obtain ⟨r1, -, hm⟩ := bd_s hm
  obtain ⟨r2, -, hm⟩ := bd_s hm
  obtain ⟨r3, -, hm⟩ := bd_s hm
  rcases ite_or hm with ⟨hc, hm⟩ | ⟨hc, hm⟩
  · obtain ⟨r4, -, hm⟩ := bd_s hm
    obtain ⟨h5, he, hm⟩ := bd_s hm
    replace f := fr_tr f (fpB_write _ _ _ _ _ he) (fun b hb => hS b (by simp only [FPdB_write, List.mem_cons, List.not_mem_nil, or_false] at hb ⊢; omega))
    cases hm
    exact f
  · rcases ite_or hm with ⟨hc, hm⟩ | ⟨hc, hm⟩
    · obtain ⟨r6, -, hm⟩ := bd_s hm
      obtain ⟨h7, he, hm⟩ := bd_s hm
      replace f := fr_tr f (fpB_thicken _ _ _ _ _ he) (fun b hb => hS b (by simp only [FPdB_thicken, List.mem_cons, List.not_mem_nil, or_false] at hb ⊢; omega))
      cases hm
      exact f
    · rcases ite_or hm with ⟨hc, hm⟩ | ⟨hc, hm⟩
      · obtain ⟨r8, -, hm⟩ := bd_s hm
        rcases ite_or hm with ⟨hc, hm⟩ | ⟨hc, hm⟩
        · cases hm
          exact f
        · obtain ⟨h9, he, hm⟩ := bd_s hm
          replace f := fr_tr f (fpS_wed _ _ _ he) (fun b hb => hS b (by simp only [FPdS_wed, List.mem_cons, List.not_mem_nil, or_false] at hb ⊢; omega))
          cases hm
          exact f
      · obtain ⟨r10, -, hm⟩ := bd_s hm
        rcases ite_or hm with ⟨hc, hm⟩ | ⟨hc, hm⟩
        · cases hm
          exact f
        · obtain ⟨h11, he, hm⟩ := bd_s hm
          replace f := fr_tr f (fpS_raze _ _ _ he) (fun b hb => hS b (by simp only [FPdS_raze, List.mem_cons, List.not_mem_nil, or_false] at hb ⊢; omega))
          cases hm
          exact f
def FPdS_noteIfAny (a0 : Nat) (p1 : Int32) (p2 : Int32) (p3 : Int32) : List Nat := [17, 16]
theorem fpS_noteIfAny (a0 : Nat) (p1 : Int32) (p2 : Int32) (p3 : Int32) (h0 : PH) {r : PH} (hm : mS_noteIfAny a0 p1 p2 p3 h0 = some r) : Fr (FPdS_noteIfAny a0 p1 p2 p3) r h0 := by
  generalize hSe : FPdS_noteIfAny a0 p1 p2 p3 = S
  have hS : ∀ b, b ∈ ([17, 16] : List Nat) → b ∈ S := by rw [← hSe]; exact fun b hb => hb
  generalize hge : h0 = g at ⊢
  have f : Fr S h0 g := by rw [hge]; exact fun _ _ => rfl
  unfold mS_noteIfAny at hm
  rcases ite_or hm with ⟨hc, hm⟩ | ⟨hc, hm⟩
  · cases hm
    exact f
  · obtain ⟨h1, he, hm⟩ := bd_s hm
    replace f := fr_tr f (fpS_note _ _ _ _ _ he) (fun b hb => hS b ((by decide +kernel : ∀ b, b ∈ ([17, 16] : List Nat) → b ∈ ([17, 16] : List Nat)) b hb))
    cases hm
    exact f
def FPdS_payRent (a0 : Nat) (p1 : Int32) : List Nat := [34, 36, 35, (sT a0), 17, 16, ((sT a0) + 1)]
theorem wf_S_payRent_L27 (a0 : Nat) (p1 : Int32) (p2 : Int32) (k0 : Int32 → PH → Option (PH)) (S : List Nat) (g : PH) (r : PH) (hS : ∀ b, b ∈ ([((sT a0) + 1)] : List Nat) → b ∈ S) (kk0 : ∀ (y0 : Int32) (y1 : PH), k0 y0 y1 = some r → Fr S y1 g → Fr S r g) : ∀ (n : Nat) (v3 : Int32) (v4 : Int32) (hv : PH), mS_payRent_L27 a0 p1 p2 k0 n v3 v4 hv = some r → Fr S hv g → Fr S r g := by
  intro n
  induction n with
  | zero => intro v3 v4 hv hm; cases hm
  | succ n ih =>
    intro v3 v4 hv hm f
    unfold mS_payRent_L27 at hm
    rcases ite_or hm with ⟨hc, hm⟩ | ⟨hc, hm⟩
    · exact kk0 _ _ hm f
    · obtain ⟨r4, -, hm⟩ := bd_s hm
      rcases ite_or hm with ⟨hc, hm⟩ | ⟨hc, hm⟩
      · exact kk0 _ _ hm f
      · obtain ⟨r5, -, hm⟩ := bd_s hm
        obtain ⟨r6, h7, he, hm⟩ := bd2_s hm
        replace f := fr_tr f (fpB_thin _ _ _ _ _ he) (fun b hb => hS b (by simp only [FPdB_thin, List.mem_cons, List.not_mem_nil, or_false] at hb ⊢; omega))
        obtain ⟨x8, -, hm⟩ := lt_some hm
        exact ih _ _ _ hm f
theorem fpS_payRent (a0 : Nat) (p1 : Int32) (h0 : PH) {r : PH} (hm : mS_payRent a0 p1 h0 = some r) : Fr (FPdS_payRent a0 p1) r h0 := by
  generalize hSe : FPdS_payRent a0 p1 = S
  have hS : ∀ b, b ∈ ([34, 36, 35, (sT a0), 17, 16, ((sT a0) + 1)] : List Nat) → b ∈ S := by rw [← hSe]; exact fun b hb => hb
  generalize hge : h0 = g at ⊢
  have f : Fr S h0 g := by rw [hge]; exact fun _ _ => rfl
  unfold mS_payRent at hm
  obtain ⟨r1, -, hm⟩ := bd_s hm
  obtain ⟨r2, h3, he, hm⟩ := bd2_s hm
  replace f := fr_tr f (fpW_tells _ _ _ _ _ he) (fun b hb => hS b (by simp only [FPdW_tells, List.mem_cons, List.not_mem_nil, or_false] at hb ⊢; omega))
  refine wf_S_payRent_L27 _ _ _ _ S g _ (fun b hb => hS b (by first | exact absurd hb List.not_mem_nil | (simp only [List.mem_cons, List.not_mem_nil, or_false] at hb ⊢; omega))) (fun x9 h10 hm f => ?_) _ _ _ _ hm f
  · obtain ⟨h11, e1, hm⟩ := lt_some hm
    replace f : Fr S h11 g := by rw [e1]; exact up_fr f (hS _ (by first | simp; done | (simp only [List.mem_cons, List.not_mem_nil, or_false]; omega)))
    obtain ⟨h12, he, hm⟩ := bd_s hm
    replace f := fr_tr f (fpS_noteIfAny _ _ _ _ _ he) (fun b hb => hS b (by simp only [FPdS_noteIfAny, List.mem_cons, List.not_mem_nil, or_false] at hb ⊢; omega))
    obtain ⟨x13, -, hm⟩ := lt_some hm
    obtain ⟨r14, -, hm⟩ := bd_s hm
    obtain ⟨h15, he, hm⟩ := bd_s hm
    replace f := fr_tr f (fpB_write _ _ _ _ _ he) (fun b hb => hS b (by simp only [FPdB_write, List.mem_cons, List.not_mem_nil, or_false] at hb ⊢; omega))
    obtain ⟨h16, he, hm⟩ := bd_s hm
    replace f := fr_tr f (fpS_noteIfAny _ _ _ _ _ he) (fun b hb => hS b (by simp only [FPdS_noteIfAny, List.mem_cons, List.not_mem_nil, or_false] at hb ⊢; omega))
    obtain ⟨h17, he, hm⟩ := bd_s hm
    replace f := fr_tr f (fpS_leaveIfFallen _ _ _ he) (fun b hb => hS b (by simp only [FPdS_leaveIfFallen, List.mem_cons, List.not_mem_nil, or_false] at hb ⊢; omega))
    cases hm
    exact f
def FPdS_ratsGnaw (a0 : Nat) (p1 : Int32) : List Nat := [(sT a0)]
theorem fpS_ratsGnaw (a0 : Nat) (p1 : Int32) (h0 : PH) {r : Int32 × PH} (hm : mS_ratsGnaw a0 p1 h0 = some r) : Fr (FPdS_ratsGnaw a0 p1) r.2 h0 := by
  generalize hSe : FPdS_ratsGnaw a0 p1 = S
  have hS : ∀ b, b ∈ ([(sT a0)] : List Nat) → b ∈ S := by rw [← hSe]; exact fun b hb => hb
  generalize hge : h0 = g at ⊢
  have f : Fr S h0 g := by rw [hge]; exact fun _ _ => rfl
  unfold mS_ratsGnaw at hm
  rcases ite_or hm with ⟨hc, hm⟩ | ⟨hc, hm⟩
  · rcases ite_or hm with ⟨hc, hm⟩ | ⟨hc, hm⟩
    · cases hm
      exact f
    · cases hm
      exact f
  · rcases ite_or hm with ⟨hc, hm⟩ | ⟨hc, hm⟩
    · cases hm
      exact f
    · obtain ⟨r1, h2, he, hm⟩ := bd2_s hm
      replace f := fr_tr f (fpB_draw _ _ _ he) (fun b hb => hS b (by simp only [FPdB_draw, List.mem_cons, List.not_mem_nil, or_false] at hb ⊢; omega))
      rcases ite_or hm with ⟨hc, hm⟩ | ⟨hc, hm⟩
      · cases hm
        exact f
      · cases hm
        exact f
def FPdS_gnaw (a0 : Nat) (p1 : Int32) : List Nat := [(sT a0), 17, 16, 34, 36, 35, ((sT a0) + 1)]
theorem wf_S_gnaw_L4 (a0 : Nat) (p1 : Int32) (k0 : Int32 → PH → Option (PH)) (S : List Nat) (g : PH) (r : PH) (hS : ∀ b, b ∈ ([34, 36, 35, (sT a0), ((sT a0) + 1)] : List Nat) → b ∈ S) (kk0 : ∀ (y0 : Int32) (y1 : PH), k0 y0 y1 = some r → Fr S y1 g → Fr S r g) : ∀ (n : Nat) (v2 : Int32) (v3 : Int32) (hv : PH), mS_gnaw_L4 a0 p1 k0 n v2 v3 hv = some r → Fr S hv g → Fr S r g := by
  intro n
  induction n with
  | zero => intro v2 v3 hv hm; cases hm
  | succ n ih =>
    intro v2 v3 hv hm f
    unfold mS_gnaw_L4 at hm
    rcases ite_or hm with ⟨hc, hm⟩ | ⟨hc, hm⟩
    · exact kk0 _ _ hm f
    · obtain ⟨r1, -, hm⟩ := bd_s hm
      rcases ite_or hm with ⟨hc, hm⟩ | ⟨hc, hm⟩
      · exact ih _ _ _ hm f
      · obtain ⟨r2, h3, he, hm⟩ := bd2_s hm
        replace f := fr_tr f (fpW_tells _ _ _ _ _ he) (fun b hb => hS b (by simp only [FPdW_tells, List.mem_cons, List.not_mem_nil, or_false] at hb ⊢; omega))
        obtain ⟨r4, h5, he, hm⟩ := bd2_s hm
        replace f := fr_tr f (fpS_ratsGnaw _ _ _ he) (fun b hb => hS b (by simp only [FPdS_ratsGnaw, List.mem_cons, List.not_mem_nil, or_false] at hb ⊢; omega))
        rcases ite_or hm with ⟨hc, hm⟩ | ⟨hc, hm⟩
        · exact ih _ _ _ hm f
        · obtain ⟨r6, h7, he, hm⟩ := bd2_s hm
          replace f := fr_tr f (fpB_thin _ _ _ _ _ he) (fun b hb => hS b (by simp only [FPdB_thin, List.mem_cons, List.not_mem_nil, or_false] at hb ⊢; omega))
          obtain ⟨x8, -, hm⟩ := lt_some hm
          exact ih _ _ _ hm f
theorem fpS_gnaw (a0 : Nat) (p1 : Int32) (h0 : PH) {r : PH} (hm : mS_gnaw a0 p1 h0 = some r) : Fr (FPdS_gnaw a0 p1) r h0 := by
  generalize hSe : FPdS_gnaw a0 p1 = S
  have hS : ∀ b, b ∈ ([(sT a0), 17, 16, 34, 36, 35, ((sT a0) + 1)] : List Nat) → b ∈ S := by rw [← hSe]; exact fun b hb => hb
  generalize hge : h0 = g at ⊢
  have f : Fr S h0 g := by rw [hge]; exact fun _ _ => rfl
  unfold mS_gnaw at hm
  refine wf_S_gnaw_L4 _ _ _ S g _ (fun b hb => hS b (by first | exact absurd hb List.not_mem_nil | (simp only [List.mem_cons, List.not_mem_nil, or_false] at hb ⊢; omega))) (fun x9 h10 hm f => ?_) _ _ _ _ hm f
  · obtain ⟨h11, e1, hm⟩ := lt_some hm
    replace f : Fr S h11 g := by rw [e1]; exact up_fr f (hS _ (by first | simp; done | (simp only [List.mem_cons, List.not_mem_nil, or_false]; omega)))
    obtain ⟨h12, he, hm⟩ := bd_s hm
    replace f := fr_tr f (fpS_noteIfAny _ _ _ _ _ he) (fun b hb => hS b (by simp only [FPdS_noteIfAny, List.mem_cons, List.not_mem_nil, or_false] at hb ⊢; omega))
    cases hm
    exact f
def FPdS_melt (a0 : Nat) (p1 : Int32) : List Nat := [17, 16, 34, 36, 35, ((sT a0) + 1)]
theorem wf_S_melt_L15 (a0 : Nat) (p1 : Int32) (k0 : Int32 → PH → Option (PH)) (S : List Nat) (g : PH) (r : PH) (hS : ∀ b, b ∈ ([34, 36, 35, ((sT a0) + 1)] : List Nat) → b ∈ S) (kk0 : ∀ (y0 : Int32) (y1 : PH), k0 y0 y1 = some r → Fr S y1 g → Fr S r g) : ∀ (n : Nat) (v2 : Int32) (v3 : Int32) (hv : PH), mS_melt_L15 a0 p1 k0 n v2 v3 hv = some r → Fr S hv g → Fr S r g := by
  intro n
  induction n with
  | zero => intro v2 v3 hv hm; cases hm
  | succ n ih =>
    intro v2 v3 hv hm f
    unfold mS_melt_L15 at hm
    rcases ite_or hm with ⟨hc, hm⟩ | ⟨hc, hm⟩
    · exact kk0 _ _ hm f
    · obtain ⟨r1, -, hm⟩ := bd_s hm
      rcases ite_or hm with ⟨hc, hm⟩ | ⟨hc, hm⟩
      · exact ih _ _ _ hm f
      · obtain ⟨r2, h3, he, hm⟩ := bd2_s hm
        replace f := fr_tr f (fpW_tells _ _ _ _ _ he) (fun b hb => hS b (by simp only [FPdW_tells, List.mem_cons, List.not_mem_nil, or_false] at hb ⊢; omega))
        obtain ⟨r4, h5, he, hm⟩ := bd2_s hm
        replace f := fr_tr f (fpB_thin _ _ _ _ _ he) (fun b hb => hS b (by simp only [FPdB_thin, List.mem_cons, List.not_mem_nil, or_false] at hb ⊢; omega))
        obtain ⟨x6, -, hm⟩ := lt_some hm
        exact ih _ _ _ hm f
theorem fpS_melt (a0 : Nat) (p1 : Int32) (h0 : PH) {r : PH} (hm : mS_melt a0 p1 h0 = some r) : Fr (FPdS_melt a0 p1) r h0 := by
  generalize hSe : FPdS_melt a0 p1 = S
  have hS : ∀ b, b ∈ ([17, 16, 34, 36, 35, ((sT a0) + 1)] : List Nat) → b ∈ S := by rw [← hSe]; exact fun b hb => hb
  generalize hge : h0 = g at ⊢
  have f : Fr S h0 g := by rw [hge]; exact fun _ _ => rfl
  unfold mS_melt at hm
  rcases ite_or hm with ⟨hc, hm⟩ | ⟨hc, hm⟩
  · refine wf_S_melt_L15 _ _ _ S g _ (fun b hb => hS b (by first | exact absurd hb List.not_mem_nil | (simp only [List.mem_cons, List.not_mem_nil, or_false] at hb ⊢; omega))) (fun x7 h8 hm f => ?_) _ _ _ _ hm f
    · obtain ⟨h9, he, hm⟩ := bd_s hm
      replace f := fr_tr f (fpS_noteIfAny _ _ _ _ _ he) (fun b hb => hS b (by simp only [FPdS_noteIfAny, List.mem_cons, List.not_mem_nil, or_false] at hb ⊢; omega))
      cases hm
      exact f
  · cases hm
    exact f
def FPdS_harden (a0 : Nat) : List Nat := [((sT a0) + 1)]
theorem wf_S_harden_L2 (a0 : Nat) (S : List Nat) (g : PH) (r : PH) (hS : ∀ b, b ∈ ([((sT a0) + 1)] : List Nat) → b ∈ S) : ∀ (n : Nat) (v1 : Int32) (hv : PH), mS_harden_L2 a0 n v1 hv = some r → Fr S hv g → Fr S r g := by
  intro n
  induction n with
  | zero => intro v1 hv hm; cases hm
  | succ n ih =>
    intro v1 hv hm f
    unfold mS_harden_L2 at hm
    rcases ite_or hm with ⟨hc, hm⟩ | ⟨hc, hm⟩
    · cases hm
      exact f
    · rcases ite_or hm with ⟨hc, hm⟩ | ⟨hc, hm⟩
      · obtain ⟨r1, -, hm⟩ := bd_s hm
        rcases ite_or hm with ⟨hc, hm⟩ | ⟨hc, hm⟩
        · exact ih _ _ hm f
        · obtain ⟨r2, -, hm⟩ := bd_s hm
          obtain ⟨h3, he, hm⟩ := bd_s hm
          replace f := fr_tr f (fpB_write _ _ _ _ _ he) (fun b hb => hS b (by simp only [FPdB_write, List.mem_cons, List.not_mem_nil, or_false] at hb ⊢; omega))
          exact ih _ _ hm f
      · exact ih _ _ hm f
theorem fpS_harden (a0 : Nat) (h0 : PH) {r : PH} (hm : mS_harden a0 h0 = some r) : Fr (FPdS_harden a0) r h0 := by
  generalize hSe : FPdS_harden a0 = S
  have hS : ∀ b, b ∈ ([((sT a0) + 1)] : List Nat) → b ∈ S := by rw [← hSe]; exact fun b hb => hb
  generalize hge : h0 = g at ⊢
  have f : Fr S h0 g := by rw [hge]; exact fun _ _ => rfl
  unfold mS_harden at hm
  exact wf_S_harden_L2 _ S g _ (fun b hb => hS b (by first | exact absurd hb List.not_mem_nil | (simp only [List.mem_cons, List.not_mem_nil, or_false] at hb ⊢; omega))) _ _ _ hm f
def FPdS_grow (a0 : Nat) : List Nat := [(sT a0), ((sT a0) + 1)]
theorem wf_S_grow_L2 (a0 : Nat) (k0 : PH → Option (PH)) (S : List Nat) (g : PH) (r : PH) (hS : ∀ b, b ∈ ([((sT a0) + 1)] : List Nat) → b ∈ S) (kk0 : ∀ (y0 : PH), k0 y0 = some r → Fr S y0 g → Fr S r g) : ∀ (n : Nat) (v1 : Int32) (hv : PH), mS_grow_L2 a0 k0 n v1 hv = some r → Fr S hv g → Fr S r g := by
  intro n
  induction n with
  | zero => intro v1 hv hm; cases hm
  | succ n ih =>
    intro v1 hv hm f
    unfold mS_grow_L2 at hm
    rcases ite_or hm with ⟨hc, hm⟩ | ⟨hc, hm⟩
    · exact kk0 _ hm f
    · obtain ⟨r1, -, hm⟩ := bd_s hm
      rcases ite_or hm with ⟨hc, hm⟩ | ⟨hc, hm⟩
      · exact ih _ _ hm f
      · obtain ⟨r2, -, hm⟩ := bd_s hm
        obtain ⟨h3, he, hm⟩ := bd_s hm
        replace f := fr_tr f (fpB_write _ _ _ _ _ he) (fun b hb => hS b (by simp only [FPdB_write, List.mem_cons, List.not_mem_nil, or_false] at hb ⊢; omega))
        exact ih _ _ hm f
theorem fpS_grow (a0 : Nat) (h0 : PH) {r : PH} (hm : mS_grow a0 h0 = some r) : Fr (FPdS_grow a0) r h0 := by
  generalize hSe : FPdS_grow a0 = S
  have hS : ∀ b, b ∈ ([(sT a0), ((sT a0) + 1)] : List Nat) → b ∈ S := by rw [← hSe]; exact fun b hb => hb
  generalize hge : h0 = g at ⊢
  have f : Fr S h0 g := by rw [hge]; exact fun _ _ => rfl
  unfold mS_grow at hm
  refine wf_S_grow_L2 _ _ S g _ (fun b hb => hS b (by first | exact absurd hb List.not_mem_nil | (simp only [List.mem_cons, List.not_mem_nil, or_false] at hb ⊢; omega))) (fun h4 hm f => ?_) _ _ _ hm f
  · obtain ⟨h5, e1, hm⟩ := lt_some hm
    replace f : Fr S h5 g := by rw [e1]; exact up_fr f (hS _ (by first | simp; done | (simp only [List.mem_cons, List.not_mem_nil, or_false]; omega)))
    cases hm
    exact f
def FPdS_pass (a0 : Nat) : List Nat := [(sT a0), ((sT a0) + 1), 17, 16, 34, 36, 35]
theorem wf_S_pass_L6 (a0 : Nat) (k0 : PH → Option (Int32 × PH)) (S : List Nat) (g : PH) (r : Int32 × PH) (hS : ∀ b, b ∈ ([((sT a0) + 1), 17, 16] : List Nat) → b ∈ S) (kk0 : ∀ (y0 : PH), k0 y0 = some r → Fr S y0 g → Fr S r.2 g) : ∀ (n : Nat) (v1 : Int32) (hv : PH), mS_pass_L6 a0 k0 n v1 hv = some r → Fr S hv g → Fr S r.2 g := by
  intro n
  induction n with
  | zero => intro v1 hv hm; cases hm
  | succ n ih =>
    intro v1 hv hm f
    unfold mS_pass_L6 at hm
    rcases ite_or hm with ⟨hc, hm⟩ | ⟨hc, hm⟩
    · exact kk0 _ hm f
    · obtain ⟨r2, -, hm⟩ := bd_s hm
      rcases ite_or hm with ⟨hc, hm⟩ | ⟨hc, hm⟩
      · obtain ⟨h3, he, hm⟩ := bd_s hm
        replace f := fr_tr f (fpS_officeLine _ _ _ _ he) (fun b hb => hS b (by simp only [FPdS_officeLine, List.mem_cons, List.not_mem_nil, or_false] at hb ⊢; omega))
        exact ih _ _ hm f
      · exact ih _ _ hm f
theorem wf_S_pass_L70 (a0 : Nat) (p1 : Int32) (k0 : PH → Option (Int32 × PH)) (S : List Nat) (g : PH) (r : Int32 × PH) (hS : ∀ b, b ∈ ([34, 36, 35, (sT a0), 17, 16, ((sT a0) + 1)] : List Nat) → b ∈ S) (kk0 : ∀ (y0 : PH), k0 y0 = some r → Fr S y0 g → Fr S r.2 g) : ∀ (n : Nat) (v2 : Int32) (hv : PH), mS_pass_L70 a0 p1 k0 n v2 hv = some r → Fr S hv g → Fr S r.2 g := by
  intro n
  induction n with
  | zero => intro v2 hv hm; cases hm
  | succ n ih =>
    intro v2 hv hm f
    unfold mS_pass_L70 at hm
    rcases ite_or hm with ⟨hc, hm⟩ | ⟨hc, hm⟩
    · exact kk0 _ hm f
    · obtain ⟨r6, -, hm⟩ := bd_s hm
      rcases ite_or hm with ⟨hc, hm⟩ | ⟨hc, hm⟩
      · exact ih _ _ hm f
      · obtain ⟨r7, -, hm⟩ := bd_s hm
        rcases ite_or hm with ⟨hc, hm⟩ | ⟨hc, hm⟩
        · exact ih _ _ hm f
        · obtain ⟨h8, he, hm⟩ := bd_s hm
          replace f := fr_tr f (fpS_payRent _ _ _ he) (fun b hb => hS b (by simp only [FPdS_payRent, List.mem_cons, List.not_mem_nil, or_false] at hb ⊢; omega))
          exact ih _ _ hm f
theorem wf_S_pass_L118 (a0 : Nat) (p1 : Int32) (k0 : PH → Option (Int32 × PH)) (S : List Nat) (g : PH) (r : Int32 × PH) (hS : ∀ b, b ∈ ([(sT a0), 17, 16, 34, 36, 35, ((sT a0) + 1)] : List Nat) → b ∈ S) (kk0 : ∀ (y0 : PH), k0 y0 = some r → Fr S y0 g → Fr S r.2 g) : ∀ (n : Nat) (v2 : Int32) (hv : PH), mS_pass_L118 a0 p1 k0 n v2 hv = some r → Fr S hv g → Fr S r.2 g := by
  intro n
  induction n with
  | zero => intro v2 hv hm; cases hm
  | succ n ih =>
    intro v2 hv hm f
    unfold mS_pass_L118 at hm
    rcases ite_or hm with ⟨hc, hm⟩ | ⟨hc, hm⟩
    · exact kk0 _ hm f
    · obtain ⟨h10, he, hm⟩ := bd_s hm
      replace f := fr_tr f (fpS_gnaw _ _ _ he) (fun b hb => hS b (by simp only [FPdS_gnaw, List.mem_cons, List.not_mem_nil, or_false] at hb ⊢; omega))
      exact ih _ _ hm f
theorem wf_S_pass_L142 (a0 : Nat) (p1 : Int32) (k0 : PH → Option (Int32 × PH)) (S : List Nat) (g : PH) (r : Int32 × PH) (hS : ∀ b, b ∈ ([17, 16, 34, 36, 35, ((sT a0) + 1)] : List Nat) → b ∈ S) (kk0 : ∀ (y0 : PH), k0 y0 = some r → Fr S y0 g → Fr S r.2 g) : ∀ (n : Nat) (v2 : Int32) (hv : PH), mS_pass_L142 a0 p1 k0 n v2 hv = some r → Fr S hv g → Fr S r.2 g := by
  intro n
  induction n with
  | zero => intro v2 hv hm; cases hm
  | succ n ih =>
    intro v2 hv hm f
    unfold mS_pass_L142 at hm
    rcases ite_or hm with ⟨hc, hm⟩ | ⟨hc, hm⟩
    · exact kk0 _ hm f
    · obtain ⟨h12, he, hm⟩ := bd_s hm
      replace f := fr_tr f (fpS_melt _ _ _ he) (fun b hb => hS b (by simp only [FPdS_melt, List.mem_cons, List.not_mem_nil, or_false] at hb ⊢; omega))
      exact ih _ _ hm f
theorem wf_S_pass_L180 (a0 : Nat) (p2 : Int32) (k0 : PH → Option (Int32 × PH)) (S : List Nat) (g : PH) (r : Int32 × PH) (hS : ∀ b, b ∈ ([((sT a0) + 1), 17, 16] : List Nat) → b ∈ S) (kk0 : ∀ (y0 : PH), k0 y0 = some r → Fr S y0 g → Fr S r.2 g) : ∀ (n : Nat) (v3 : Int32) (hv : PH), mS_pass_L180 a0 p2 k0 n v3 hv = some r → Fr S hv g → Fr S r.2 g := by
  intro n
  induction n with
  | zero => intro v3 hv hm; cases hm
  | succ n ih =>
    intro v3 hv hm f
    unfold mS_pass_L180 at hm
    rcases ite_or hm with ⟨hc, hm⟩ | ⟨hc, hm⟩
    · exact kk0 _ hm f
    · obtain ⟨h17, he, hm⟩ := bd_s hm
      replace f := fr_tr f (fpS_leaveIfFallen _ _ _ he) (fun b hb => hS b (by simp only [FPdS_leaveIfFallen, List.mem_cons, List.not_mem_nil, or_false] at hb ⊢; omega))
      exact ih _ _ hm f
theorem fpS_pass (a0 : Nat) (h0 : PH) {r : Int32 × PH} (hm : mS_pass a0 h0 = some r) : Fr (FPdS_pass a0) r.2 h0 := by
  generalize hSe : FPdS_pass a0 = S
  have hS : ∀ b, b ∈ ([(sT a0), ((sT a0) + 1), 17, 16, 34, 36, 35] : List Nat) → b ∈ S := by rw [← hSe]; exact fun b hb => hb
  generalize hge : h0 = g at ⊢
  have f : Fr S h0 g := by rw [hge]; exact fun _ _ => rfl
  unfold mS_pass at hm
  obtain ⟨h1, he, hm⟩ := bd_s hm
  replace f := fr_tr f (fpS_weather _ _ he) (fun b hb => hS b (by simp only [FPdS_weather, List.mem_cons, List.not_mem_nil, or_false] at hb ⊢; omega))
  refine wf_S_pass_L6 _ _ S g _ (fun b hb => hS b (by first | exact absurd hb List.not_mem_nil | (simp only [List.mem_cons, List.not_mem_nil, or_false] at hb ⊢; omega))) (fun h4 hm f => ?_) _ _ _ hm f
  · obtain ⟨r5, -, hm⟩ := bd_s hm
    refine wf_S_pass_L70 _ _ _ S g _ (fun b hb => hS b (by first | exact absurd hb List.not_mem_nil | (simp only [List.mem_cons, List.not_mem_nil, or_false] at hb ⊢; omega))) (fun h9 hm f => ?_) _ _ _ hm f
    · refine wf_S_pass_L118 _ _ _ S g _ (fun b hb => hS b (by first | exact absurd hb List.not_mem_nil | (simp only [List.mem_cons, List.not_mem_nil, or_false] at hb ⊢; omega))) (fun h11 hm f => ?_) _ _ _ hm f
      · refine wf_S_pass_L142 _ _ _ S g _ (fun b hb => hS b (by first | exact absurd hb List.not_mem_nil | (simp only [List.mem_cons, List.not_mem_nil, or_false] at hb ⊢; omega))) (fun h13 hm f => ?_) _ _ _ hm f
        · obtain ⟨r14, -, hm⟩ := bd_s hm
          obtain ⟨x15, -, hm⟩ := lt_some hm
          obtain ⟨h16, he, hm⟩ := bd_s hm
          replace f := fr_tr f (fpS_harden _ _ he) (fun b hb => hS b (by simp only [FPdS_harden, List.mem_cons, List.not_mem_nil, or_false] at hb ⊢; omega))
          refine wf_S_pass_L180 _ _ _ S g _ (fun b hb => hS b (by first | exact absurd hb List.not_mem_nil | (simp only [List.mem_cons, List.not_mem_nil, or_false] at hb ⊢; omega))) (fun h18 hm f => ?_) _ _ _ hm f
          · obtain ⟨h19, he, hm⟩ := bd_s hm
            replace f := fr_tr f (fpS_grow _ _ he) (fun b hb => hS b (by simp only [FPdS_grow, List.mem_cons, List.not_mem_nil, or_false] at hb ⊢; omega))
            cases hm
            exact f
def FPdS_nibble (a0 : Nat) (p1 : Int32) (p2 : Int32) (p3 : Int32) : List Nat := [((sT a0) + 1), (sT a0), 17, 16]
theorem fpS_nibble (a0 : Nat) (p1 : Int32) (p2 : Int32) (p3 : Int32) (h0 : PH) {r : PH} (hm : mS_nibble a0 p1 p2 p3 h0 = some r) : Fr (FPdS_nibble a0 p1 p2 p3) r h0 := by
  generalize hSe : FPdS_nibble a0 p1 p2 p3 = S
  have hS : ∀ b, b ∈ ([((sT a0) + 1), (sT a0), 17, 16] : List Nat) → b ∈ S := by rw [← hSe]; exact fun b hb => hb
  generalize hge : h0 = g at ⊢
  have f : Fr S h0 g := by rw [hge]; exact fun _ _ => rfl
  unfold mS_nibble at hm
  obtain ⟨r1, h2, he, hm⟩ := bd2_s hm
  replace f := fr_tr f (fpB_thin _ _ _ _ _ he) (fun b hb => hS b (by simp only [FPdB_thin, List.mem_cons, List.not_mem_nil, or_false] at hb ⊢; omega))
  obtain ⟨h3, e1, hm⟩ := lt_some hm
  replace f : Fr S h3 g := by rw [e1]; exact up_fr f (hS _ (by first | simp; done | (simp only [List.mem_cons, List.not_mem_nil, or_false]; omega)))
  obtain ⟨h4, he, hm⟩ := bd_s hm
  replace f := fr_tr f (fpS_note _ _ _ _ _ he) (fun b hb => hS b (by simp only [FPdS_note, List.mem_cons, List.not_mem_nil, or_false] at hb ⊢; omega))
  obtain ⟨h5, he, hm⟩ := bd_s hm
  replace f := fr_tr f (fpS_leaveIfFallen _ _ _ he) (fun b hb => hS b (by simp only [FPdS_leaveIfFallen, List.mem_cons, List.not_mem_nil, or_false] at hb ⊢; omega))
  cases hm
  exact f
def FPdS_actByHand (a0 : Nat) (p1 : Int32) (p2 : Int32) (p3 : Int32) : List Nat := [((sT a0) + 1), 17, 16, (sT a0)]
theorem fpS_actByHand (a0 : Nat) (p1 : Int32) (p2 : Int32) (p3 : Int32) (h0 : PH) {r : PH} (hm : mS_actByHand a0 p1 p2 p3 h0 = some r) : Fr (FPdS_actByHand a0 p1 p2 p3) r h0 := by
  generalize hSe : FPdS_actByHand a0 p1 p2 p3 = S
  have hS : ∀ b, b ∈ ([((sT a0) + 1), 17, 16, (sT a0)] : List Nat) → b ∈ S := by rw [← hSe]; exact fun b hb => hb
  generalize hge : h0 = g at ⊢
  have f : Fr S h0 g := by rw [hge]; exact fun _ _ => rfl
  unfold mS_actByHand at hm
  obtain ⟨r1, -, hm⟩ := bd_s hm
  rcases ite_or hm with ⟨hc, hm⟩ | ⟨hc, hm⟩
  · obtain ⟨r2, -, hm⟩ := bd_s hm
    rcases ite_or hm with ⟨hc, hm⟩ | ⟨hc, hm⟩
    · rcases ite_or hm with ⟨hc, hm⟩ | ⟨hc, hm⟩
      · obtain ⟨h3, he, hm⟩ := bd_s hm
        replace f := fr_tr f (fpS_wed _ _ _ he) (fun b hb => hS b (by simp only [FPdS_wed, List.mem_cons, List.not_mem_nil, or_false] at hb ⊢; omega))
        cases hm
        exact f
      · rcases ite_or hm with ⟨hc, hm⟩ | ⟨hc, hm⟩
        · obtain ⟨h4, he, hm⟩ := bd_s hm
          replace f := fr_tr f (fpS_moveLodgers _ _ _ _ he) (fun b hb => hS b (by simp only [FPdS_moveLodgers, List.mem_cons, List.not_mem_nil, or_false] at hb ⊢; omega))
          cases hm
          exact f
        · rcases ite_or hm with ⟨hc, hm⟩ | ⟨hc, hm⟩
          · obtain ⟨h5, he, hm⟩ := bd_s hm
            replace f := fr_tr f (fpS_raze _ _ _ he) (fun b hb => hS b (by simp only [FPdS_raze, List.mem_cons, List.not_mem_nil, or_false] at hb ⊢; omega))
            cases hm
            exact f
          · cases hm
            exact f
    · obtain ⟨h6, he, hm⟩ := bd_s hm
      replace f := fr_tr f (fpB_thicken _ _ _ _ _ he) (fun b hb => hS b (by simp only [FPdB_thicken, List.mem_cons, List.not_mem_nil, or_false] at hb ⊢; omega))
      cases hm
      exact f
  · obtain ⟨h7, he, hm⟩ := bd_s hm
    replace f := fr_tr f (fpS_nibble _ _ _ _ _ he) (fun b hb => hS b (by simp only [FPdS_nibble, List.mem_cons, List.not_mem_nil, or_false] at hb ⊢; omega))
    cases hm
    exact f
def FPdD_forgetFault : List Nat := [90]
theorem fpD_forgetFault (h0 : PH) {r : PH} (hm : mD_forgetFault h0 = some r) : Fr (FPdD_forgetFault ) r h0 := by
  generalize hSe : FPdD_forgetFault = S
  have hS : ∀ b, b ∈ ([90] : List Nat) → b ∈ S := by rw [← hSe]; exact fun b hb => hb
  generalize hge : h0 = g at ⊢
  have f : Fr S h0 g := by rw [hge]; exact fun _ _ => rfl
  unfold mD_forgetFault at hm
  obtain ⟨h1, e1, hm⟩ := lt_some hm
  replace f : Fr S h1 g := by rw [e1]; exact up_fr f (hS _ (by decide))
  obtain ⟨h2, e1, hm⟩ := lt_some hm
  replace f : Fr S h2 g := by rw [e1]; exact up_fr f (hS _ (by decide))
  cases hm
  exact f
def FPdD_advance : List Nat := [90]
theorem fpD_advance (h0 : PH) {r : PH} (hm : mD_advance h0 = some r) : Fr (FPdD_advance ) r h0 := by
  generalize hSe : FPdD_advance = S
  have hS : ∀ b, b ∈ ([90] : List Nat) → b ∈ S := by rw [← hSe]; exact fun b hb => hb
  generalize hge : h0 = g at ⊢
  have f : Fr S h0 g := by rw [hge]; exact fun _ _ => rfl
  unfold mD_advance at hm
  obtain ⟨h1, e1, hm⟩ := lt_some hm
  replace f : Fr S h1 g := by rw [e1]; exact up_fr f (hS _ (by decide))
  refine v_j1 (fun (x3 : Int32) => Fr S r g) hm (fun x3 hm => ?_) (fun j2 kj2 hm => ?_)
  · refine v_j1 (fun (x5 : Int32) => Fr S r g) hm (fun x5 hm => ?_) (fun j4 kj4 hm => ?_)
    · obtain ⟨h6, e1, hm⟩ := lt_some hm
      replace f : Fr S h6 g := by rw [e1]; exact up_fr f (hS _ (by decide))
      refine v_j1 (fun (x8 : Int32) => Fr S r g) hm (fun x8 hm => ?_) (fun j7 kj7 hm => ?_)
      · obtain ⟨h9, e1, hm⟩ := lt_some hm
        replace f : Fr S h9 g := by rw [e1]; exact up_fr f (hS _ (by decide))
        cases hm
        exact f
      · rcases ite_or hm with ⟨hc, hm⟩ | ⟨hc, hm⟩
        · exact kj7 _ hm
        · obtain ⟨-, hm⟩ := ck_s hm
          exact kj7 _ hm
    · rcases ite_or hm with ⟨hc, hm⟩ | ⟨hc, hm⟩
      · exact kj4 _ hm
      · obtain ⟨-, hm⟩ := ck_s hm
        exact kj4 _ hm
  · rcases ite_or hm with ⟨hc, hm⟩ | ⟨hc, hm⟩
    · exact kj2 _ hm
    · rcases ite_or hm with ⟨hc, hm⟩ | ⟨hc, hm⟩
      · exact kj2 _ hm
      · rcases ite_or hm with ⟨hc, hm⟩ | ⟨hc, hm⟩
        · exact kj2 _ hm
        · exact kj2 _ hm
def FPdD_refuse (p1 : Int32) : List Nat := [90]
theorem fpD_refuse (p1 : Int32) (h0 : PH) {r : Int32 × PH} (hm : mD_refuse p1 h0 = some r) : Fr (FPdD_refuse p1) r.2 h0 := by
  generalize hSe : FPdD_refuse p1 = S
  have hS : ∀ b, b ∈ ([90] : List Nat) → b ∈ S := by rw [← hSe]; exact fun b hb => hb
  generalize hge : h0 = g at ⊢
  have f : Fr S h0 g := by rw [hge]; exact fun _ _ => rfl
  unfold mD_refuse at hm
  obtain ⟨h1, e1, hm⟩ := lt_some hm
  replace f : Fr S h1 g := by rw [e1]; exact up_fr f (hS _ (by decide))
  refine v_j1 (fun (x3 : Int32) => Fr S r.2 g) hm (fun x3 hm => ?_) (fun j2 kj2 hm => ?_)
  · obtain ⟨h4, e1, hm⟩ := lt_some hm
    replace f : Fr S h4 g := by rw [e1]; exact up_fr f (hS _ (by decide))
    cases hm
    exact f
  · rcases ite_or hm with ⟨hc, hm⟩ | ⟨hc, hm⟩
    · exact kj2 _ hm
    · rcases ite_or hm with ⟨hc, hm⟩ | ⟨hc, hm⟩
      · exact kj2 _ hm
      · rcases ite_or hm with ⟨hc, hm⟩ | ⟨hc, hm⟩
        · exact kj2 _ hm
        · obtain ⟨-, hm⟩ := ck_s hm
          exact kj2 _ hm
def FPdD_unit : List Nat := [90, 94, 93]
theorem fpD_unit (h0 : PH) {r : Int32 × PH} (hm : mD_unit h0 = some r) : Fr (FPdD_unit ) r.2 h0 := by
  generalize hSe : FPdD_unit = S
  have hS : ∀ b, b ∈ ([90, 94, 93] : List Nat) → b ∈ S := by rw [← hSe]; exact fun b hb => hb
  generalize hge : h0 = g at ⊢
  have f : Fr S h0 g := by rw [hge]; exact fun _ _ => rfl
  unfold mD_unit at hm
  refine v_j1 (fun (h2 : PH) => Fr S h2 g → Fr S r.2 g) hm (fun h2 hm f => ?_) (fun j1 kj1 hm => ?_)
  · obtain ⟨h3, he, hm⟩ := bd_s hm
    replace f := fr_tr f (fpD_advance _ he) (fun b hb => hS b ((by decide +kernel : ∀ b, b ∈ ([90] : List Nat) → b ∈ ([90, 94, 93] : List Nat)) b hb))
    cases hm
    exact f
  · rcases ite_or hm with ⟨hc, hm⟩ | ⟨hc, hm⟩
    · obtain ⟨r4, h5, he, hm⟩ := bd2_s hm
      replace f := fr_tr f (fpR_add _ _ _ _ _ _ _ he) (fun b hb => hS b (by simp only [FPdR_add, List.mem_cons, List.not_mem_nil, or_false] at hb ⊢; omega))
      exact kj1 _ hm f
    · refine v_j0 (Fr S r.2 g) hm (fun hm => ?_) (fun j6 kj6 hm => ?_)
      · obtain ⟨r7, h8, he, hm⟩ := bd2_s hm
        replace f := fr_tr f (fpD_refuse _ _ he) (fun b hb => hS b ((by decide +kernel : ∀ b, b ∈ ([90] : List Nat) → b ∈ ([90, 94, 93] : List Nat)) b hb))
        cases hm
        exact f
      · rcases ite_or hm with ⟨hc, hm⟩ | ⟨hc, hm⟩
        · rcases ite_or hm with ⟨hc, hm⟩ | ⟨hc, hm⟩
          · exact kj6 hm
          · obtain ⟨r9, h10, he, hm⟩ := bd2_s hm
            replace f := fr_tr f (fpR_add _ _ _ _ _ _ _ he) (fun b hb => hS b (by simp only [FPdR_add, List.mem_cons, List.not_mem_nil, or_false] at hb ⊢; omega))
            exact kj1 _ hm f
        · exact kj6 hm
def FPdD_takesNumber (p1 : Int32) (p2 : Int32) : List Nat := [90]
theorem fpD_takesNumber (p1 : Int32) (p2 : Int32) (h0 : PH) {r : Int32 × PH} (hm : mD_takesNumber p1 p2 h0 = some r) : Fr (FPdD_takesNumber p1 p2) r.2 h0 := by
  generalize hSe : FPdD_takesNumber p1 p2 = S
  have hS : ∀ b, b ∈ ([90] : List Nat) → b ∈ S := by rw [← hSe]; exact fun b hb => hb
  generalize hge : h0 = g at ⊢
  have f : Fr S h0 g := by rw [hge]; exact fun _ _ => rfl
  unfold mD_takesNumber at hm
  rcases ite_or hm with ⟨hc, hm⟩ | ⟨hc, hm⟩
  · obtain ⟨r1, -, hm⟩ := bd_s hm
    rcases ite_or hm with ⟨hc, hm⟩ | ⟨hc, hm⟩
    · obtain ⟨r2, h3, he, hm⟩ := bd2_s hm
      replace f := fr_tr f (fpD_refuse _ _ he) (fun b hb => hS b ((by decide +kernel : ∀ b, b ∈ ([90] : List Nat) → b ∈ ([90] : List Nat)) b hb))
      cases hm
      exact f
    · obtain ⟨h4, e1, hm⟩ := lt_some hm
      replace f : Fr S h4 g := by rw [e1]; exact up_fr f (hS _ (by decide))
      obtain ⟨h5, he, hm⟩ := bd_s hm
      replace f := fr_tr f (fpD_advance _ he) (fun b hb => hS b ((by decide +kernel : ∀ b, b ∈ ([90] : List Nat) → b ∈ ([90] : List Nat)) b hb))
      cases hm
      exact f
  · obtain ⟨r6, h7, he, hm⟩ := bd2_s hm
    replace f := fr_tr f (fpD_refuse _ _ he) (fun b hb => hS b ((by decide +kernel : ∀ b, b ∈ ([90] : List Nat) → b ∈ ([90] : List Nat)) b hb))
    cases hm
    exact f
def FPdD_emit (p1 : Int32) (p2 : Int32) : List Nat := [94, 93]
theorem fpD_emit (p1 : Int32) (p2 : Int32) (h0 : PH) {r : Int32 × PH} (hm : mD_emit p1 p2 h0 = some r) : Fr (FPdD_emit p1 p2) r.2 h0 := by
  generalize hSe : FPdD_emit p1 p2 = S
  have hS : ∀ b, b ∈ ([94, 93] : List Nat) → b ∈ S := by rw [← hSe]; exact fun b hb => hb
  generalize hge : h0 = g at ⊢
  have f : Fr S h0 g := by rw [hge]; exact fun _ _ => rfl
  unfold mD_emit at hm
  obtain ⟨r1, h2, he, hm⟩ := bd2_s hm
  replace f := fr_tr f (fpR_add _ _ _ _ _ _ _ he) (fun b hb => hS b (by simp only [FPdR_add, List.mem_cons, List.not_mem_nil, or_false] at hb ⊢; omega))
  cases hm
  exact f
def FPdD_expression : List Nat := [90, 94, 93]
theorem wf_D_expression_L13 (k0 : Int32 → PH → Option (Int32 × PH)) (S : List Nat) (g : PH) (r : Int32 × PH) (hS : ∀ b, b ∈ ([90, 94, 93] : List Nat) → b ∈ S) (kk0 : ∀ (y0 : Int32) (y1 : PH), k0 y0 y1 = some r → Fr S y1 g → Fr S r.2 g) : ∀ (n : Nat) (v1 : Int32) (v2 : Int32) (hv : PH), mD_expression_L13 k0 n v1 v2 hv = some r → Fr S hv g → Fr S r.2 g := by
  intro n
  induction n with
  | zero => intro v1 v2 hv hm; cases hm
  | succ n ih =>
    intro v1 v2 hv hm f
    unfold mD_expression_L13 at hm
    rcases ite_or hm with ⟨hc, hm⟩ | ⟨hc, hm⟩
    · exact kk0 _ _ hm f
    · obtain ⟨r3, -, hm⟩ := bd_s hm
      refine v_j0 (Fr S r.2 g) hm (fun hm => ?_) (fun j4 kj4 hm => ?_)
      · obtain ⟨x5, -, hm⟩ := lt_some hm
        obtain ⟨h6, he, hm⟩ := bd_s hm
        replace f := fr_tr f (fpD_advance _ he) (fun b hb => hS b ((by decide +kernel : ∀ b, b ∈ ([90] : List Nat) → b ∈ ([90, 94, 93] : List Nat)) b hb))
        rcases ite_or hm with ⟨hc, hm⟩ | ⟨hc, hm⟩
        · obtain ⟨r7, h8, he, hm⟩ := bd2_s hm
          replace f := fr_tr f (fpD_takesNumber _ _ _ he) (fun b hb => hS b ((by decide +kernel : ∀ b, b ∈ ([90] : List Nat) → b ∈ ([90, 94, 93] : List Nat)) b hb))
          rcases ite_or hm with ⟨hc, hm⟩ | ⟨hc, hm⟩
          · cases hm
            exact f
          · obtain ⟨r9, h10, he, hm⟩ := bd2_s hm
            replace f := fr_tr f (fpD_emit _ _ _ he) (fun b hb => hS b ((by decide +kernel : ∀ b, b ∈ ([94, 93] : List Nat) → b ∈ ([90, 94, 93] : List Nat)) b hb))
            exact ih _ _ _ hm f
        · refine v_j2 (fun (x12 : Int32) (h13 : PH) => Fr S h13 g → Fr S r.2 g) hm (fun x12 h13 hm f => ?_) (fun j11 kj11 hm => ?_)
          · obtain ⟨r14, h15, he, hm⟩ := bd2_s hm
            replace f := fr_tr f (fpD_unit _ he) (fun b hb => hS b ((by decide +kernel : ∀ b, b ∈ ([90, 94, 93] : List Nat) → b ∈ ([90, 94, 93] : List Nat)) b hb))
            rcases ite_or hm with ⟨hc, hm⟩ | ⟨hc, hm⟩
            · cases hm
              exact f
            · rcases ite_or hm with ⟨hc, hm⟩ | ⟨hc, hm⟩
              · obtain ⟨r16, h17, he, hm⟩ := bd2_s hm
                replace f := fr_tr f (fpD_emit _ _ _ he) (fun b hb => hS b ((by decide +kernel : ∀ b, b ∈ ([94, 93] : List Nat) → b ∈ ([90, 94, 93] : List Nat)) b hb))
                exact ih _ _ _ hm f
              · exact ih _ _ _ hm f
          · rcases ite_or hm with ⟨hc, hm⟩ | ⟨hc, hm⟩
            · exact kj11 _ _ hm f
            · refine v_j1 (fun (h19 : PH) => Fr S h19 g → Fr S r.2 g) hm (fun h19 hm f => ?_) (fun j18 kj18 hm => ?_)
              · rcases ite_or hm with ⟨hc, hm⟩ | ⟨hc, hm⟩
                · exact kj11 _ _ hm f
                · exact kj11 _ _ hm f
              · rcases ite_or hm with ⟨hc, hm⟩ | ⟨hc, hm⟩
                · exact kj18 _ hm f
                · obtain ⟨r20, h21, he, hm⟩ := bd2_s hm
                  replace f := fr_tr f (fpD_emit _ _ _ he) (fun b hb => hS b ((by decide +kernel : ∀ b, b ∈ ([94, 93] : List Nat) → b ∈ ([90, 94, 93] : List Nat)) b hb))
                  exact kj18 _ hm f
      · rcases ite_or hm with ⟨hc, hm⟩ | ⟨hc, hm⟩
        · obtain ⟨r22, -, hm⟩ := bd_s hm
          rcases ite_or hm with ⟨hc, hm⟩ | ⟨hc, hm⟩
          · obtain ⟨r23, -, hm⟩ := bd_s hm
            rcases ite_or hm with ⟨hc, hm⟩ | ⟨hc, hm⟩
            · obtain ⟨r24, -, hm⟩ := bd_s hm
              rcases ite_or hm with ⟨hc, hm⟩ | ⟨hc, hm⟩
              · exact kk0 _ _ hm f
              · exact kj4 hm
            · exact kj4 hm
          · exact kj4 hm
        · exact kj4 hm
theorem fpD_expression (h0 : PH) {r : Int32 × PH} (hm : mD_expression h0 = some r) : Fr (FPdD_expression ) r.2 h0 := by
  generalize hSe : FPdD_expression = S
  have hS : ∀ b, b ∈ ([90, 94, 93] : List Nat) → b ∈ S := by rw [← hSe]; exact fun b hb => hb
  generalize hge : h0 = g at ⊢
  have f : Fr S h0 g := by rw [hge]; exact fun _ _ => rfl
  unfold mD_expression at hm
  obtain ⟨r1, h2, he, hm⟩ := bd2_s hm
  replace f := fr_tr f (fpD_unit _ he) (fun b hb => hS b ((by decide +kernel : ∀ b, b ∈ ([90, 94, 93] : List Nat) → b ∈ ([90, 94, 93] : List Nat)) b hb))
  rcases ite_or hm with ⟨hc, hm⟩ | ⟨hc, hm⟩
  · cases hm
    exact f
  · refine wf_D_expression_L13 _ S g _ (fun b hb => hS b ((by decide +kernel : ∀ b, b ∈ ([90, 94, 93] : List Nat) → b ∈ ([90, 94, 93] : List Nat)) b hb)) (fun x25 h26 hm f => ?_) _ _ _ _ hm f
    · rcases ite_or hm with ⟨hc, hm⟩ | ⟨hc, hm⟩
      · cases hm
        exact f
      · obtain ⟨r27, h28, he, hm⟩ := bd2_s hm
        replace f := fr_tr f (fpD_emit _ _ _ he) (fun b hb => hS b ((by decide +kernel : ∀ b, b ∈ ([94, 93] : List Nat) → b ∈ ([90, 94, 93] : List Nat)) b hb))
        rcases ite_or hm with ⟨hc, hm⟩ | ⟨hc, hm⟩
        · cases hm
          exact f
        · cases hm
          exact f
def FPdD_takesSign (p1 : Int32) : List Nat := [90]
theorem fpD_takesSign (p1 : Int32) (h0 : PH) {r : Int32 × PH} (hm : mD_takesSign p1 h0 = some r) : Fr (FPdD_takesSign p1) r.2 h0 := by
  generalize hSe : FPdD_takesSign p1 = S
  have hS : ∀ b, b ∈ ([90] : List Nat) → b ∈ S := by rw [← hSe]; exact fun b hb => hb
  generalize hge : h0 = g at ⊢
  have f : Fr S h0 g := by rw [hge]; exact fun _ _ => rfl
  unfold mD_takesSign at hm
  obtain ⟨r1, -, hm⟩ := bd_s hm
  rcases ite_or hm with ⟨hc, hm⟩ | ⟨hc, hm⟩
  · obtain ⟨r2, h3, he, hm⟩ := bd2_s hm
    replace f := fr_tr f (fpD_refuse _ _ he) (fun b hb => hS b ((by decide +kernel : ∀ b, b ∈ ([90] : List Nat) → b ∈ ([90] : List Nat)) b hb))
    cases hm
    exact f
  · obtain ⟨h4, he, hm⟩ := bd_s hm
    replace f := fr_tr f (fpD_advance _ he) (fun b hb => hS b ((by decide +kernel : ∀ b, b ∈ ([90] : List Nat) → b ∈ ([90] : List Nat)) b hb))
    cases hm
    exact f
def FPdD_condition (p1 : Int32) : List Nat := [94, 93, 90]
theorem wf_D_condition_L14 (p1 : Int32) (f1 : Int32 → PH → Option (Int32 × PH)) (k0 : Int32 → PH → Option (Int32 × PH)) (S : List Nat) (g : PH) (r : Int32 × PH) (g1 : ∀ (z0 : Int32) (z1 : PH) (zr : Int32 × PH), f1 z0 z1 = some zr → Fr S zr.2 z1) (hS : ∀ b, b ∈ ([90, 94, 93] : List Nat) → b ∈ S) (kk0 : ∀ (y0 : Int32) (y1 : PH), k0 y0 y1 = some r → Fr S y1 g → Fr S r.2 g) : ∀ (n : Nat) (v2 : Int32) (v3 : Int32) (hv : PH), mD_condition_L14 p1 f1 k0 n v2 v3 hv = some r → Fr S hv g → Fr S r.2 g := by
  intro n
  induction n with
  | zero => intro v2 v3 hv hm; cases hm
  | succ n ih =>
    intro v2 v3 hv hm f
    unfold mD_condition_L14 at hm
    rcases ite_or hm with ⟨hc, hm⟩ | ⟨hc, hm⟩
    · exact kk0 _ _ hm f
    · obtain ⟨r3, -, hm⟩ := bd_s hm
      refine v_j0 (Fr S r.2 g) hm (fun hm => ?_) (fun j4 kj4 hm => ?_)
      · obtain ⟨r5, -, hm⟩ := bd_s hm
        obtain ⟨h6, he, hm⟩ := bd_s hm
        replace f := fr_tr f (fpD_advance _ he) (fun b hb => hS b ((by decide +kernel : ∀ b, b ∈ ([90] : List Nat) → b ∈ ([90, 94, 93] : List Nat)) b hb))
        refine v_j2 (fun (x8 : Int32) (h9 : PH) => Fr S h9 g → Fr S r.2 g) hm (fun x8 h9 hm f => ?_) (fun j7 kj7 hm => ?_)
        · obtain ⟨r10, h11, he, hm⟩ := bd2_s hm
          replace f := fr_tr f (g1 _ _ _ he) (fun b hb => hb)
          rcases ite_or hm with ⟨hc, hm⟩ | ⟨hc, hm⟩
          · cases hm
            exact f
          · rcases ite_or hm with ⟨hc, hm⟩ | ⟨hc, hm⟩
            · exact ih _ _ _ hm f
            · obtain ⟨r12, h13, he, hm⟩ := bd2_s hm
              replace f := fr_tr f (fpD_emit _ _ _ he) (fun b hb => hS b ((by decide +kernel : ∀ b, b ∈ ([94, 93] : List Nat) → b ∈ ([90, 94, 93] : List Nat)) b hb))
              exact ih _ _ _ hm f
        · rcases ite_or hm with ⟨hc, hm⟩ | ⟨hc, hm⟩
          · rcases ite_or hm with ⟨hc, hm⟩ | ⟨hc, hm⟩
            · exact kj7 _ _ hm f
            · obtain ⟨r14, h15, he, hm⟩ := bd2_s hm
              replace f := fr_tr f (fpD_emit _ _ _ he) (fun b hb => hS b ((by decide +kernel : ∀ b, b ∈ ([94, 93] : List Nat) → b ∈ ([90, 94, 93] : List Nat)) b hb))
              exact kj7 _ _ hm f
          · exact kj7 _ _ hm f
      · rcases ite_or hm with ⟨hc, hm⟩ | ⟨hc, hm⟩
        · obtain ⟨r16, -, hm⟩ := bd_s hm
          rcases ite_or hm with ⟨hc, hm⟩ | ⟨hc, hm⟩
          · exact kk0 _ _ hm f
          · exact kj4 hm
        · exact kj4 hm
theorem fpD_condition_F (f1 : Int32 → PH → Option (Int32 × PH)) (p1 : Int32) (h0 : PH) {r : Int32 × PH} (S : List Nat) (hS : ∀ b, b ∈ FPdD_condition p1 → b ∈ S) (g1 : ∀ (z0 : Int32) (z1 : PH) (zr : Int32 × PH), f1 z0 z1 = some zr → Fr S zr.2 z1) (hm : mD_condition_F f1 p1 h0 = some r) : Fr S r.2 h0 := by
  replace hS : ∀ b, b ∈ ([94, 93, 90] : List Nat) → b ∈ S := hS
  generalize hge : h0 = g at ⊢
  have f : Fr S h0 g := by rw [hge]; exact fun _ _ => rfl
  unfold mD_condition_F at hm
  obtain ⟨r1, h2, he, hm⟩ := bd2_s hm
  replace f := fr_tr f (g1 _ _ _ he) (fun b hb => hb)
  rcases ite_or hm with ⟨hc, hm⟩ | ⟨hc, hm⟩
  · cases hm
    exact f
  · refine wf_D_condition_L14 _ _ _ S g _ g1 (fun b hb => hS b ((by decide +kernel : ∀ b, b ∈ ([90, 94, 93] : List Nat) → b ∈ ([94, 93, 90] : List Nat)) b hb)) (fun x17 h18 hm f => ?_) _ _ _ _ hm f
    · rcases ite_or hm with ⟨hc, hm⟩ | ⟨hc, hm⟩
      · cases hm
        exact f
      · obtain ⟨r19, h20, he, hm⟩ := bd2_s hm
        replace f := fr_tr f (fpD_emit _ _ _ he) (fun b hb => hS b ((by decide +kernel : ∀ b, b ∈ ([94, 93] : List Nat) → b ∈ ([94, 93, 90] : List Nat)) b hb))
        rcases ite_or hm with ⟨hc, hm⟩ | ⟨hc, hm⟩
        · cases hm
          exact f
        · cases hm
          exact f
def FPdD_clause (p1 : Int32) : List Nat := [94, 93, 90]
theorem fpD_clause_F (f0 : Int32 → PH → Option (Int32 × PH)) (f1 : Int32 → PH → Option (Int32 × PH)) (p1 : Int32) (h0 : PH) {r : Int32 × PH} (S : List Nat) (hS : ∀ b, b ∈ FPdD_clause p1 → b ∈ S) (g0 : ∀ (z0 : Int32) (z1 : PH) (zr : Int32 × PH), f0 z0 z1 = some zr → Fr S zr.2 z1) (g1 : ∀ (z0 : Int32) (z1 : PH) (zr : Int32 × PH), f1 z0 z1 = some zr → Fr S zr.2 z1) (hm : mD_clause_F f0 f1 p1 h0 = some r) : Fr S r.2 h0 := by
  replace hS : ∀ b, b ∈ ([94, 93, 90] : List Nat) → b ∈ S := hS
  generalize hge : h0 = g at ⊢
  have f : Fr S h0 g := by rw [hge]; exact fun _ _ => rfl
  unfold mD_clause_F at hm
  obtain ⟨r1, -, hm⟩ := bd_s hm
  refine v_j0 (Fr S r.2 g) hm (fun hm => ?_) (fun j2 kj2 hm => ?_)
  · rcases ite_or hm with ⟨hc, hm⟩ | ⟨hc, hm⟩
    · obtain ⟨h3, he, hm⟩ := bd_s hm
      replace f := fr_tr f (fpD_advance _ he) (fun b hb => hS b ((by decide +kernel : ∀ b, b ∈ ([90] : List Nat) → b ∈ ([94, 93, 90] : List Nat)) b hb))
      rcases ite_or hm with ⟨hc, hm⟩ | ⟨hc, hm⟩
      · obtain ⟨r4, h5, he, hm⟩ := bd2_s hm
        replace f := fr_tr f (g0 _ _ _ he) (fun b hb => hb)
        rcases ite_or hm with ⟨hc, hm⟩ | ⟨hc, hm⟩
        · cases hm
          exact f
        · obtain ⟨r6, h7, he, hm⟩ := bd2_s hm
          replace f := fr_tr f (fpD_takesSign _ _ he) (fun b hb => hS b ((by decide +kernel : ∀ b, b ∈ ([90] : List Nat) → b ∈ ([94, 93, 90] : List Nat)) b hb))
          rcases ite_or hm with ⟨hc, hm⟩ | ⟨hc, hm⟩
          · cases hm
            exact f
          · cases hm
            exact f
      · obtain ⟨r8, h9, he, hm⟩ := bd2_s hm
        replace f := fr_tr f (g1 _ _ _ he) (fun b hb => hb)
        rcases ite_or hm with ⟨hc, hm⟩ | ⟨hc, hm⟩
        · cases hm
          exact f
        · obtain ⟨r10, h11, he, hm⟩ := bd2_s hm
          replace f := fr_tr f (fpD_emit _ _ _ he) (fun b hb => hS b ((by decide +kernel : ∀ b, b ∈ ([94, 93] : List Nat) → b ∈ ([94, 93, 90] : List Nat)) b hb))
          rcases ite_or hm with ⟨hc, hm⟩ | ⟨hc, hm⟩
          · cases hm
            exact f
          · cases hm
            exact f
    · obtain ⟨r12, h13, he, hm⟩ := bd2_s hm
      replace f := fr_tr f (fpD_refuse _ _ he) (fun b hb => hS b ((by decide +kernel : ∀ b, b ∈ ([90] : List Nat) → b ∈ ([94, 93, 90] : List Nat)) b hb))
      cases hm
      exact f
  · rcases ite_or hm with ⟨hc, hm⟩ | ⟨hc, hm⟩
    · obtain ⟨r14, -, hm⟩ := bd_s hm
      rcases ite_or hm with ⟨hc, hm⟩ | ⟨hc, hm⟩
      · obtain ⟨r15, h16, he, hm⟩ := bd2_s hm
        replace f := fr_tr f (fpD_expression _ he) (fun b hb => hS b ((by decide +kernel : ∀ b, b ∈ ([90, 94, 93] : List Nat) → b ∈ ([94, 93, 90] : List Nat)) b hb))
        rcases ite_or hm with ⟨hc, hm⟩ | ⟨hc, hm⟩
        · cases hm
          exact f
        · obtain ⟨x17, -, hm⟩ := lt_some hm
          obtain ⟨r18, -, hm⟩ := bd_s hm
          refine v_j0 (Fr S r.2 g) hm (fun hm => ?_) (fun j19 kj19 hm => ?_)
          · obtain ⟨h20, he, hm⟩ := bd_s hm
            replace f := fr_tr f (fpD_advance _ he) (fun b hb => hS b ((by decide +kernel : ∀ b, b ∈ ([90] : List Nat) → b ∈ ([94, 93, 90] : List Nat)) b hb))
            obtain ⟨r21, h22, he, hm⟩ := bd2_s hm
            replace f := fr_tr f (fpD_expression _ he) (fun b hb => hS b ((by decide +kernel : ∀ b, b ∈ ([90, 94, 93] : List Nat) → b ∈ ([94, 93, 90] : List Nat)) b hb))
            rcases ite_or hm with ⟨hc, hm⟩ | ⟨hc, hm⟩
            · cases hm
              exact f
            · refine v_j1 (fun (x24 : Int32) => Fr S r.2 g) hm (fun x24 hm => ?_) (fun j23 kj23 hm => ?_)
              · obtain ⟨r25, h26, he, hm⟩ := bd2_s hm
                replace f := fr_tr f (fpD_emit _ _ _ he) (fun b hb => hS b ((by decide +kernel : ∀ b, b ∈ ([94, 93] : List Nat) → b ∈ ([94, 93, 90] : List Nat)) b hb))
                rcases ite_or hm with ⟨hc, hm⟩ | ⟨hc, hm⟩
                · cases hm
                  exact f
                · cases hm
                  exact f
              · rcases ite_or hm with ⟨hc, hm⟩ | ⟨hc, hm⟩
                · exact kj23 _ hm
                · rcases ite_or hm with ⟨hc, hm⟩ | ⟨hc, hm⟩
                  · exact kj23 _ hm
                  · exact kj23 _ hm
          · rcases ite_or hm with ⟨hc, hm⟩ | ⟨hc, hm⟩
            · obtain ⟨r27, -, hm⟩ := bd_s hm
              rcases ite_or hm with ⟨hc, hm⟩ | ⟨hc, hm⟩
              · obtain ⟨r28, -, hm⟩ := bd_s hm
                rcases ite_or hm with ⟨hc, hm⟩ | ⟨hc, hm⟩
                · obtain ⟨r29, h30, he, hm⟩ := bd2_s hm
                  replace f := fr_tr f (fpD_refuse _ _ he) (fun b hb => hS b ((by decide +kernel : ∀ b, b ∈ ([90] : List Nat) → b ∈ ([94, 93, 90] : List Nat)) b hb))
                  cases hm
                  exact f
                · exact kj19 hm
              · exact kj19 hm
            · exact kj19 hm
      · exact kj2 hm
    · exact kj2 hm
theorem fpD_cc : ∀ (n : Nat) (b : Bool) (p1 : Int32) (h0 : PH) {r : Int32 × PH}, mD_cc n b p1 h0 = some r → Fr (FPdD_condition p1) r.2 h0 := by
  intro n
  induction n with
  | zero => intro b p1 h0 r hm; cases hm
  | succ n ih =>
    intro b p1 h0 r hm
    cases b with
    | true => exact fpD_condition_F (mD_cc n false) p1 h0 _ (fun b hb => hb) (fun z h r e => ih false z h e) hm
    | false => exact fpD_clause_F (mD_cc n true) (mD_cc n false) p1 h0 _ (fun b hb => hb) (fun z h r e => ih true z h e) (fun z h r e => ih false z h e) hm
theorem fpD_condition (n : Nat) (p1 : Int32) (h0 : PH) {r : Int32 × PH} (hm : mD_condition n p1 h0 = some r) : Fr (FPdD_condition p1) r.2 h0 := fpD_cc n true p1 h0 hm
theorem fpD_clause (n : Nat) (p1 : Int32) (h0 : PH) {r : Int32 × PH} (hm : mD_clause n p1 h0 = some r) : Fr (FPdD_clause p1) r.2 h0 := fpD_cc n false p1 h0 hm
def FPdD_lawLine : List Nat := [90, 94, 93, 92, 91]
theorem fpD_lawLine (h0 : PH) {r : Int32 × PH} (hm : mD_lawLine h0 = some r) : Fr (FPdD_lawLine ) r.2 h0 := by
  generalize hSe : FPdD_lawLine = S
  have hS : ∀ b, b ∈ ([90, 94, 93, 92, 91] : List Nat) → b ∈ S := by rw [← hSe]; exact fun b hb => hb
  generalize hge : h0 = g at ⊢
  have f : Fr S h0 g := by rw [hge]; exact fun _ _ => rfl
  unfold mD_lawLine at hm
  obtain ⟨x1, -, hm⟩ := lt_some hm
  obtain ⟨h2, he, hm⟩ := bd_s hm
  replace f := fr_tr f (fpD_advance _ he) (fun b hb => hS b ((by decide +kernel : ∀ b, b ∈ ([90] : List Nat) → b ∈ ([90, 94, 93, 92, 91] : List Nat)) b hb))
  obtain ⟨x3, -, hm⟩ := lt_some hm
  obtain ⟨r4, h5, he, hm⟩ := bd2_s hm
  replace f := fr_tr f (fpD_expression _ he) (fun b hb => hS b ((by decide +kernel : ∀ b, b ∈ ([90, 94, 93] : List Nat) → b ∈ ([90, 94, 93, 92, 91] : List Nat)) b hb))
  rcases ite_or hm with ⟨hc, hm⟩ | ⟨hc, hm⟩
  · cases hm
    exact f
  · obtain ⟨x6, -, hm⟩ := lt_some hm
    obtain ⟨r7, -, hm⟩ := bd_s hm
    refine v_j1 (fun (h9 : PH) => Fr S h9 g → Fr S r.2 g) hm (fun h9 hm f => ?_) (fun j8 kj8 hm => ?_)
    · obtain ⟨r10, h11, he, hm⟩ := bd2_s hm
      replace f := fr_tr f (fpD_takesSign _ _ he) (fun b hb => hS b ((by decide +kernel : ∀ b, b ∈ ([90] : List Nat) → b ∈ ([90, 94, 93, 92, 91] : List Nat)) b hb))
      rcases ite_or hm with ⟨hc, hm⟩ | ⟨hc, hm⟩
      · cases hm
        exact f
      · obtain ⟨r12, h13, he, hm⟩ := bd2_s hm
        replace f := fr_tr f (fpR_add _ _ _ _ _ _ _ he) (fun b hb => hS b (by simp only [FPdR_add, List.mem_cons, List.not_mem_nil, or_false] at hb ⊢; omega))
        rcases ite_or hm with ⟨hc, hm⟩ | ⟨hc, hm⟩
        · cases hm
          exact f
        · cases hm
          exact f
    · rcases ite_or hm with ⟨hc, hm⟩ | ⟨hc, hm⟩
      · exact kj8 _ hm f
      · obtain ⟨h14, he, hm⟩ := bd_s hm
        replace f := fr_tr f (fpD_advance _ he) (fun b hb => hS b ((by decide +kernel : ∀ b, b ∈ ([90] : List Nat) → b ∈ ([90, 94, 93, 92, 91] : List Nat)) b hb))
        obtain ⟨r15, h16, he, hm⟩ := bd2_s hm
        replace f := fr_tr f (fpD_condition _ _ _ he) (fun b hb => hS b ((by decide +kernel : ∀ b, b ∈ ([94, 93, 90] : List Nat) → b ∈ ([90, 94, 93, 92, 91] : List Nat)) b hb))
        rcases ite_or hm with ⟨hc, hm⟩ | ⟨hc, hm⟩
        · cases hm
          exact f
        · exact kj8 _ hm f
def FPdD_skyLine : List Nat := [90, 92, 91]
theorem fpD_skyLine (h0 : PH) {r : Int32 × PH} (hm : mD_skyLine h0 = some r) : Fr (FPdD_skyLine ) r.2 h0 := by
  generalize hSe : FPdD_skyLine = S
  have hS : ∀ b, b ∈ ([90, 92, 91] : List Nat) → b ∈ S := by rw [← hSe]; exact fun b hb => hb
  generalize hge : h0 = g at ⊢
  have f : Fr S h0 g := by rw [hge]; exact fun _ _ => rfl
  unfold mD_skyLine at hm
  obtain ⟨h1, he, hm⟩ := bd_s hm
  replace f := fr_tr f (fpD_advance _ he) (fun b hb => hS b ((by decide +kernel : ∀ b, b ∈ ([90] : List Nat) → b ∈ ([90, 92, 91] : List Nat)) b hb))
  obtain ⟨r2, h3, he, hm⟩ := bd2_s hm
  replace f := fr_tr f (fpD_takesNumber _ _ _ he) (fun b hb => hS b ((by decide +kernel : ∀ b, b ∈ ([90] : List Nat) → b ∈ ([90, 92, 91] : List Nat)) b hb))
  rcases ite_or hm with ⟨hc, hm⟩ | ⟨hc, hm⟩
  · cases hm
    exact f
  · obtain ⟨x4, -, hm⟩ := lt_some hm
    refine v_j0 (Fr S r.2 g) hm (fun hm => ?_) (fun j5 kj5 hm => ?_)
    · obtain ⟨r6, h7, he, hm⟩ := bd2_s hm
      replace f := fr_tr f (fpD_refuse _ _ he) (fun b hb => hS b ((by decide +kernel : ∀ b, b ∈ ([90] : List Nat) → b ∈ ([90, 92, 91] : List Nat)) b hb))
      cases hm
      exact f
    · rcases ite_or hm with ⟨hc, hm⟩ | ⟨hc, hm⟩
      · obtain ⟨r8, -, hm⟩ := bd_s hm
        rcases ite_or hm with ⟨hc, hm⟩ | ⟨hc, hm⟩
        · exact kj5 hm
        · obtain ⟨x9, -, hm⟩ := lt_some hm
          obtain ⟨h10, he, hm⟩ := bd_s hm
          replace f := fr_tr f (fpD_advance _ he) (fun b hb => hS b ((by decide +kernel : ∀ b, b ∈ ([90] : List Nat) → b ∈ ([90, 92, 91] : List Nat)) b hb))
          refine v_j2 (fun (x12 : Int32) (h13 : PH) => Fr S h13 g → Fr S r.2 g) hm (fun x12 h13 hm f => ?_) (fun j11 kj11 hm => ?_)
          · obtain ⟨r14, h15, he, hm⟩ := bd2_s hm
            replace f := fr_tr f (fpD_takesSign _ _ he) (fun b hb => hS b ((by decide +kernel : ∀ b, b ∈ ([90] : List Nat) → b ∈ ([90, 92, 91] : List Nat)) b hb))
            rcases ite_or hm with ⟨hc, hm⟩ | ⟨hc, hm⟩
            · cases hm
              exact f
            · obtain ⟨r16, h17, he, hm⟩ := bd2_s hm
              replace f := fr_tr f (fpR_add _ _ _ _ _ _ _ he) (fun b hb => hS b (by simp only [FPdR_add, List.mem_cons, List.not_mem_nil, or_false] at hb ⊢; omega))
              rcases ite_or hm with ⟨hc, hm⟩ | ⟨hc, hm⟩
              · cases hm
                exact f
              · cases hm
                exact f
          · rcases ite_or hm with ⟨hc, hm⟩ | ⟨hc, hm⟩
            · obtain ⟨r18, h19, he, hm⟩ := bd2_s hm
              replace f := fr_tr f (fpD_takesNumber _ _ _ he) (fun b hb => hS b ((by decide +kernel : ∀ b, b ∈ ([90] : List Nat) → b ∈ ([90, 92, 91] : List Nat)) b hb))
              rcases ite_or hm with ⟨hc, hm⟩ | ⟨hc, hm⟩
              · cases hm
                exact f
              · obtain ⟨x20, -, hm⟩ := lt_some hm
                exact kj11 _ _ hm f
            · exact kj11 _ _ hm f
      · exact kj5 hm
def FPdD_officeLine : List Nat := [90, 92, 91]
theorem fpD_officeLine (h0 : PH) {r : Int32 × PH} (hm : mD_officeLine h0 = some r) : Fr (FPdD_officeLine ) r.2 h0 := by
  generalize hSe : FPdD_officeLine = S
  have hS : ∀ b, b ∈ ([90, 92, 91] : List Nat) → b ∈ S := by rw [← hSe]; exact fun b hb => hb
  generalize hge : h0 = g at ⊢
  have f : Fr S h0 g := by rw [hge]; exact fun _ _ => rfl
  unfold mD_officeLine at hm
  obtain ⟨h1, he, hm⟩ := bd_s hm
  replace f := fr_tr f (fpD_advance _ he) (fun b hb => hS b ((by decide +kernel : ∀ b, b ∈ ([90] : List Nat) → b ∈ ([90, 92, 91] : List Nat)) b hb))
  obtain ⟨r2, h3, he, hm⟩ := bd2_s hm
  replace f := fr_tr f (fpD_takesNumber _ _ _ he) (fun b hb => hS b ((by decide +kernel : ∀ b, b ∈ ([90] : List Nat) → b ∈ ([90, 92, 91] : List Nat)) b hb))
  rcases ite_or hm with ⟨hc, hm⟩ | ⟨hc, hm⟩
  · cases hm
    exact f
  · obtain ⟨x4, -, hm⟩ := lt_some hm
    refine v_j0 (Fr S r.2 g) hm (fun hm => ?_) (fun j5 kj5 hm => ?_)
    · obtain ⟨r6, h7, he, hm⟩ := bd2_s hm
      replace f := fr_tr f (fpD_refuse _ _ he) (fun b hb => hS b ((by decide +kernel : ∀ b, b ∈ ([90] : List Nat) → b ∈ ([90, 92, 91] : List Nat)) b hb))
      cases hm
      exact f
    · rcases ite_or hm with ⟨hc, hm⟩ | ⟨hc, hm⟩
      · obtain ⟨r8, -, hm⟩ := bd_s hm
        rcases ite_or hm with ⟨hc, hm⟩ | ⟨hc, hm⟩
        · exact kj5 hm
        · obtain ⟨x9, -, hm⟩ := lt_some hm
          obtain ⟨h10, he, hm⟩ := bd_s hm
          replace f := fr_tr f (fpD_advance _ he) (fun b hb => hS b ((by decide +kernel : ∀ b, b ∈ ([90] : List Nat) → b ∈ ([90, 92, 91] : List Nat)) b hb))
          obtain ⟨r11, h12, he, hm⟩ := bd2_s hm
          replace f := fr_tr f (fpD_takesNumber _ _ _ he) (fun b hb => hS b ((by decide +kernel : ∀ b, b ∈ ([90] : List Nat) → b ∈ ([90, 92, 91] : List Nat)) b hb))
          rcases ite_or hm with ⟨hc, hm⟩ | ⟨hc, hm⟩
          · cases hm
            exact f
          · obtain ⟨x13, -, hm⟩ := lt_some hm
            refine v_j2 (fun (x15 : Int32) (h16 : PH) => Fr S h16 g → Fr S r.2 g) hm (fun x15 h16 hm f => ?_) (fun j14 kj14 hm => ?_)
            · refine v_j2 (fun (x18 : Int32) (h19 : PH) => Fr S h19 g → Fr S r.2 g) hm (fun x18 h19 hm f => ?_) (fun j17 kj17 hm => ?_)
              · obtain ⟨r20, h21, he, hm⟩ := bd2_s hm
                replace f := fr_tr f (fpD_takesSign _ _ he) (fun b hb => hS b ((by decide +kernel : ∀ b, b ∈ ([90] : List Nat) → b ∈ ([90, 92, 91] : List Nat)) b hb))
                rcases ite_or hm with ⟨hc, hm⟩ | ⟨hc, hm⟩
                · cases hm
                  exact f
                · obtain ⟨r22, h23, he, hm⟩ := bd2_s hm
                  replace f := fr_tr f (fpR_add _ _ _ _ _ _ _ he) (fun b hb => hS b (by simp only [FPdR_add, List.mem_cons, List.not_mem_nil, or_false] at hb ⊢; omega))
                  rcases ite_or hm with ⟨hc, hm⟩ | ⟨hc, hm⟩
                  · cases hm
                    exact f
                  · cases hm
                    exact f
              · refine v_j0 (Fr S r.2 g) hm (fun hm => ?_) (fun j24 kj24 hm => ?_)
                · obtain ⟨r25, h26, he, hm⟩ := bd2_s hm
                  replace f := fr_tr f (fpD_takesNumber _ _ _ he) (fun b hb => hS b ((by decide +kernel : ∀ b, b ∈ ([90] : List Nat) → b ∈ ([90, 92, 91] : List Nat)) b hb))
                  rcases ite_or hm with ⟨hc, hm⟩ | ⟨hc, hm⟩
                  · cases hm
                    exact f
                  · obtain ⟨x27, -, hm⟩ := lt_some hm
                    exact kj17 _ _ hm f
                · rcases ite_or hm with ⟨hc, hm⟩ | ⟨hc, hm⟩
                  · exact kj24 hm
                  · rcases ite_or hm with ⟨hc, hm⟩ | ⟨hc, hm⟩
                    · exact kj24 hm
                    · exact kj17 _ _ hm f
            · rcases ite_or hm with ⟨hc, hm⟩ | ⟨hc, hm⟩
              · obtain ⟨r28, h29, he, hm⟩ := bd2_s hm
                replace f := fr_tr f (fpD_takesNumber _ _ _ he) (fun b hb => hS b ((by decide +kernel : ∀ b, b ∈ ([90] : List Nat) → b ∈ ([90, 92, 91] : List Nat)) b hb))
                rcases ite_or hm with ⟨hc, hm⟩ | ⟨hc, hm⟩
                · cases hm
                  exact f
                · obtain ⟨x30, -, hm⟩ := lt_some hm
                  exact kj14 _ _ hm f
              · exact kj14 _ _ hm f
      · exact kj5 hm
def FPdD_nextLine : List Nat := [90, 92, 91]
theorem fpD_nextLine (h0 : PH) {r : Int32 × PH} (hm : mD_nextLine h0 = some r) : Fr (FPdD_nextLine ) r.2 h0 := by
  generalize hSe : FPdD_nextLine = S
  have hS : ∀ b, b ∈ ([90, 92, 91] : List Nat) → b ∈ S := by rw [← hSe]; exact fun b hb => hb
  generalize hge : h0 = g at ⊢
  have f : Fr S h0 g := by rw [hge]; exact fun _ _ => rfl
  unfold mD_nextLine at hm
  obtain ⟨h1, he, hm⟩ := bd_s hm
  replace f := fr_tr f (fpD_advance _ he) (fun b hb => hS b ((by decide +kernel : ∀ b, b ∈ ([90] : List Nat) → b ∈ ([90, 92, 91] : List Nat)) b hb))
  obtain ⟨r2, h3, he, hm⟩ := bd2_s hm
  replace f := fr_tr f (fpD_takesNumber _ _ _ he) (fun b hb => hS b ((by decide +kernel : ∀ b, b ∈ ([90] : List Nat) → b ∈ ([90, 92, 91] : List Nat)) b hb))
  rcases ite_or hm with ⟨hc, hm⟩ | ⟨hc, hm⟩
  · cases hm
    exact f
  · obtain ⟨x4, -, hm⟩ := lt_some hm
    obtain ⟨r5, -, hm⟩ := bd_s hm
    rcases ite_or hm with ⟨hc, hm⟩ | ⟨hc, hm⟩
    · obtain ⟨r6, h7, he, hm⟩ := bd2_s hm
      replace f := fr_tr f (fpD_refuse _ _ he) (fun b hb => hS b ((by decide +kernel : ∀ b, b ∈ ([90] : List Nat) → b ∈ ([90, 92, 91] : List Nat)) b hb))
      cases hm
      exact f
    · obtain ⟨h8, he, hm⟩ := bd_s hm
      replace f := fr_tr f (fpD_advance _ he) (fun b hb => hS b ((by decide +kernel : ∀ b, b ∈ ([90] : List Nat) → b ∈ ([90, 92, 91] : List Nat)) b hb))
      refine v_j0 (Fr S r.2 g) hm (fun hm => ?_) (fun j9 kj9 hm => ?_)
      · obtain ⟨r10, h11, he, hm⟩ := bd2_s hm
        replace f := fr_tr f (fpD_takesNumber _ _ _ he) (fun b hb => hS b ((by decide +kernel : ∀ b, b ∈ ([90] : List Nat) → b ∈ ([90, 92, 91] : List Nat)) b hb))
        rcases ite_or hm with ⟨hc, hm⟩ | ⟨hc, hm⟩
        · cases hm
          exact f
        · obtain ⟨r12, h13, he, hm⟩ := bd2_s hm
          replace f := fr_tr f (fpD_takesSign _ _ he) (fun b hb => hS b ((by decide +kernel : ∀ b, b ∈ ([90] : List Nat) → b ∈ ([90, 92, 91] : List Nat)) b hb))
          rcases ite_or hm with ⟨hc, hm⟩ | ⟨hc, hm⟩
          · cases hm
            exact f
          · obtain ⟨r14, h15, he, hm⟩ := bd2_s hm
            replace f := fr_tr f (fpR_add _ _ _ _ _ _ _ he) (fun b hb => hS b (by simp only [FPdR_add, List.mem_cons, List.not_mem_nil, or_false] at hb ⊢; omega))
            rcases ite_or hm with ⟨hc, hm⟩ | ⟨hc, hm⟩
            · cases hm
              exact f
            · cases hm
              exact f
      · rcases ite_or hm with ⟨hc, hm⟩ | ⟨hc, hm⟩
        · rcases ite_or hm with ⟨hc, hm⟩ | ⟨hc, hm⟩
          · obtain ⟨r16, h17, he, hm⟩ := bd2_s hm
            replace f := fr_tr f (fpD_refuse _ _ he) (fun b hb => hS b ((by decide +kernel : ∀ b, b ∈ ([90] : List Nat) → b ∈ ([90, 92, 91] : List Nat)) b hb))
            cases hm
            exact f
          · exact kj9 hm
        · exact kj9 hm
def FPdD_reads (p1 : Int32) (p2 : Int32) : List Nat := [85, 87, 88, 89, 90, 91, 93, 94, 92]
theorem wf_D_reads_L43 (p1 : Int32) (k0 : PH → Option (Int32 × PH)) (k1 : PH → Option (Int32 × PH)) (S : List Nat) (g : PH) (r : Int32 × PH) (hS : ∀ b, b ∈ ([90, 94, 93, 92, 91] : List Nat) → b ∈ S) (kk0 : ∀ (y0 : PH), k0 y0 = some r → Fr S y0 g → Fr S r.2 g) (kk1 : ∀ (y0 : PH), k1 y0 = some r → Fr S y0 g → Fr S r.2 g) : ∀ (n : Nat) (v3 : Int32) (hv : PH), mD_reads_L43 p1 k0 k1 n v3 hv = some r → Fr S hv g → Fr S r.2 g := by
  intro n
  induction n with
  | zero => intro v3 hv hm; cases hm
  | succ n ih =>
    intro v3 hv hm f
    unfold mD_reads_L43 at hm
    rcases ite_or hm with ⟨hc, hm⟩ | ⟨hc, hm⟩
    · cases hm
      exact f
    · rcases ite_or hm with ⟨hc, hm⟩ | ⟨hc, hm⟩
      · cases hm
        exact f
      · rcases ite_or hm with ⟨hc, hm⟩ | ⟨hc, hm⟩
        · refine v_j1 (fun (x9 : Int32) => Fr S r.2 g) hm (fun x9 hm => ?_) (fun j8 kj8 hm => ?_)
          · rcases ite_or hm with ⟨hc, hm⟩ | ⟨hc, hm⟩
            · rcases ite_or hm with ⟨hc, hm⟩ | ⟨hc, hm⟩
              · exact kk1 _ hm f
              · refine v_j2 (fun (x11 : Int32) (h12 : PH) => Fr S h12 g → Fr S r.2 g) hm (fun x11 h12 hm f => ?_) (fun j10 kj10 hm => ?_)
                · rcases ite_or hm with ⟨hc, hm⟩ | ⟨hc, hm⟩
                  · cases hm
                    exact f
                  · exact ih _ _ hm f
                · rcases ite_or hm with ⟨hc, hm⟩ | ⟨hc, hm⟩
                  · obtain ⟨r13, h14, he, hm⟩ := bd2_s hm
                    replace f := fr_tr f (fpD_lawLine _ he) (fun b hb => hS b ((by decide +kernel : ∀ b, b ∈ ([90, 94, 93, 92, 91] : List Nat) → b ∈ ([90, 94, 93, 92, 91] : List Nat)) b hb))
                    exact kj10 _ _ hm f
                  · rcases ite_or hm with ⟨hc, hm⟩ | ⟨hc, hm⟩
                    · obtain ⟨r15, h16, he, hm⟩ := bd2_s hm
                      replace f := fr_tr f (fpD_skyLine _ he) (fun b hb => hS b ((by decide +kernel : ∀ b, b ∈ ([90, 92, 91] : List Nat) → b ∈ ([90, 94, 93, 92, 91] : List Nat)) b hb))
                      exact kj10 _ _ hm f
                    · rcases ite_or hm with ⟨hc, hm⟩ | ⟨hc, hm⟩
                      · obtain ⟨r17, h18, he, hm⟩ := bd2_s hm
                        replace f := fr_tr f (fpD_officeLine _ he) (fun b hb => hS b ((by decide +kernel : ∀ b, b ∈ ([90, 92, 91] : List Nat) → b ∈ ([90, 94, 93, 92, 91] : List Nat)) b hb))
                        exact kj10 _ _ hm f
                      · obtain ⟨r19, h20, he, hm⟩ := bd2_s hm
                        replace f := fr_tr f (fpD_nextLine _ he) (fun b hb => hS b ((by decide +kernel : ∀ b, b ∈ ([90, 92, 91] : List Nat) → b ∈ ([90, 94, 93, 92, 91] : List Nat)) b hb))
                        exact kj10 _ _ hm f
            · exact kk0 _ hm f
          · rcases ite_or hm with ⟨hc, hm⟩ | ⟨hc, hm⟩
            · exact kj8 _ hm
            · exact kj8 _ hm
        · exact kk0 _ hm f
theorem fpD_reads (p1 : Int32) (p2 : Int32) (h0 : PH) {r : Int32 × PH} (hm : mD_reads p1 p2 h0 = some r) : Fr (FPdD_reads p1 p2) r.2 h0 := by
  generalize hSe : FPdD_reads p1 p2 = S
  have hS : ∀ b, b ∈ ([85, 87, 88, 89, 90, 91, 93, 94, 92] : List Nat) → b ∈ S := by rw [← hSe]; exact fun b hb => hb
  generalize hge : h0 = g at ⊢
  have f : Fr S h0 g := by rw [hge]; exact fun _ _ => rfl
  unfold mD_reads at hm
  obtain ⟨r1, -, hm⟩ := bd_s hm
  obtain ⟨h2, he, hm⟩ := bd_s hm
  replace f := fr_tr f (fpA_scan _ _ he) (fun b hb => hS b ((by decide +kernel : ∀ b, b ∈ ([85, 87, 88, 89] : List Nat) → b ∈ ([85, 87, 88, 89, 90, 91, 93, 94, 92] : List Nat)) b hb))
  obtain ⟨h3, e1, hm⟩ := lt_some hm
  replace f : Fr S h3 g := by rw [e1]; exact up_fr f (hS _ (by decide))
  obtain ⟨h4, e1, hm⟩ := lt_some hm
  replace f : Fr S h4 g := by rw [e1]; exact up_fr f (hS _ (by decide))
  obtain ⟨h5, e1, hm⟩ := lt_some hm
  replace f : Fr S h5 g := by rw [e1]; exact up_fr f (hS _ (by decide))
  obtain ⟨h6, e1, hm⟩ := lt_some hm
  replace f : Fr S h6 g := by rw [e1]; exact up_fr f (hS _ (by decide))
  obtain ⟨h7, he, hm⟩ := bd_s hm
  replace f := fr_tr f (fpD_advance _ he) (fun b hb => hS b ((by decide +kernel : ∀ b, b ∈ ([90] : List Nat) → b ∈ ([85, 87, 88, 89, 90, 91, 93, 94, 92] : List Nat)) b hb))
  refine wf_D_reads_L43 _ _ _ S g _ (fun b hb => hS b ((by decide +kernel : ∀ b, b ∈ ([90, 94, 93, 92, 91] : List Nat) → b ∈ ([85, 87, 88, 89, 90, 91, 93, 94, 92] : List Nat)) b hb)) (fun h21 hm f => ?_) (fun h24 hm f => ?_) _ _ _ hm f
  · obtain ⟨r22, h23, he, hm⟩ := bd2_s hm
    replace f := fr_tr f (fpD_refuse _ _ he) (fun b hb => hS b ((by decide +kernel : ∀ b, b ∈ ([90] : List Nat) → b ∈ ([85, 87, 88, 89, 90, 91, 93, 94, 92] : List Nat)) b hb))
    cases hm
    exact f
  · obtain ⟨r25, h26, he, hm⟩ := bd2_s hm
    replace f := fr_tr f (fpD_refuse _ _ he) (fun b hb => hS b ((by decide +kernel : ∀ b, b ∈ ([90] : List Nat) → b ∈ ([85, 87, 88, 89, 90, 91, 93, 94, 92] : List Nat)) b hb))
    cases hm
    exact f
def FPdX_state (p1 : Int32) : List Nat := [1, 70]
theorem fpX_state (p1 : Int32) (h0 : PH) {r : Int32 × PH} (hm : mX_state p1 h0 = some r) : Fr (FPdX_state p1) r.2 h0 := by
  generalize hSe : FPdX_state p1 = S
  have hS : ∀ b, b ∈ ([1, 70] : List Nat) → b ∈ S := by rw [← hSe]; exact fun b hb => hb
  generalize hge : h0 = g at ⊢
  have f : Fr S h0 g := by rw [hge]; exact fun _ _ => rfl
  unfold mX_state at hm
  obtain ⟨x1, -, hm⟩ := lt_some hm
  obtain ⟨h2, e1, hm⟩ := lt_some hm
  replace f : Fr S h2 g := by rw [e1]; exact up_fr f (hS _ (by decide))
  obtain ⟨h3, he, hm⟩ := bd_s hm
  replace f := fr_tr f (fpP_forget _ he) (fun b hb => hS b ((by decide +kernel : ∀ b, b ∈ ([70] : List Nat) → b ∈ ([1, 70] : List Nat)) b hb))
  cases hm
  exact f
def FPdX_house (p1 : Int32) (p2 : Int32) (p3 : Int32) : List Nat := [70, 1, 2]
theorem fpX_house (p1 : Int32) (p2 : Int32) (p3 : Int32) (h0 : PH) {r : Int32 × PH} (hm : mX_house p1 p2 p3 h0 = some r) : Fr (FPdX_house p1 p2 p3) r.2 h0 := by
  generalize hSe : FPdX_house p1 p2 p3 = S
  have hS : ∀ b, b ∈ ([70, 1, 2] : List Nat) → b ∈ S := by rw [← hSe]; exact fun b hb => hb
  generalize hge : h0 = g at ⊢
  have f : Fr S h0 g := by rw [hge]; exact fun _ _ => rfl
  unfold mX_house at hm
  obtain ⟨r1, -, hm⟩ := bd_s hm
  refine v_j1 (fun (x3 : Int32) => Fr S r.2 g) hm (fun x3 hm => ?_) (fun j2 kj2 hm => ?_)
  · rcases ite_or hm with ⟨hc, hm⟩ | ⟨hc, hm⟩
    · cases hm
      exact f
    · rcases ite_or hm with ⟨hc, hm⟩ | ⟨hc, hm⟩
      · obtain ⟨h4, he, hm⟩ := bd_s hm
        replace f := fr_tr f (fpP_forget _ he) (fun b hb => hS b ((by decide +kernel : ∀ b, b ∈ ([70] : List Nat) → b ∈ ([70, 1, 2] : List Nat)) b hb))
        obtain ⟨r5, h6, he, hm⟩ := bd2_s hm
        replace f := fr_tr f (fpB_build _ _ _ _ _ he) (fun b hb => hS b (by simp only [FPdB_build, List.mem_cons, List.not_mem_nil, or_false] at hb ⊢; omega))
        cases hm
        exact f
      · cases hm
        exact f
  · rcases ite_or hm with ⟨hc, hm⟩ | ⟨hc, hm⟩
    · exact kj2 _ hm
    · obtain ⟨r7, -, hm⟩ := bd_s hm
      rcases ite_or hm with ⟨hc, hm⟩ | ⟨hc, hm⟩
      · exact kj2 _ hm
      · obtain ⟨r8, -, hm⟩ := bd_s hm
        rcases ite_or hm with ⟨hc, hm⟩ | ⟨hc, hm⟩
        · exact kj2 _ hm
        · exact kj2 _ hm
def FPdX_set (p1 : Int32) (p2 : Int32) (p3 : Int32) : List Nat := [70, 1, 2]
theorem fpX_set (p1 : Int32) (p2 : Int32) (p3 : Int32) (h0 : PH) {r : Int32 × PH} (hm : mX_set p1 p2 p3 h0 = some r) : Fr (FPdX_set p1 p2 p3) r.2 h0 := by
  generalize hSe : FPdX_set p1 p2 p3 = S
  have hS : ∀ b, b ∈ ([70, 1, 2] : List Nat) → b ∈ S := by rw [← hSe]; exact fun b hb => hb
  generalize hge : h0 = g at ⊢
  have f : Fr S h0 g := by rw [hge]; exact fun _ _ => rfl
  unfold mX_set at hm
  refine v_j1 (fun (h2 : PH) => Fr S h2 g → Fr S r.2 g) hm (fun h2 hm f => ?_) (fun j1 kj1 hm => ?_)
  · obtain ⟨h3, he, hm⟩ := bd_s hm
    replace f := fr_tr f (fpP_forget _ he) (fun b hb => hS b ((by decide +kernel : ∀ b, b ∈ ([70] : List Nat) → b ∈ ([70, 1, 2] : List Nat)) b hb))
    cases hm
    exact f
  · rcases ite_or hm with ⟨hc, hm⟩ | ⟨hc, hm⟩
    · obtain ⟨r4, -, hm⟩ := bd_s hm
      rcases ite_or hm with ⟨hc, hm⟩ | ⟨hc, hm⟩
      · cases hm
        exact f
      · obtain ⟨h5, e1, hm⟩ := lt_some hm
        replace f : Fr S h5 g := by rw [e1]; exact up_fr f (hS _ (by decide))
        exact kj1 _ hm f
    · obtain ⟨r6, -, hm⟩ := bd_s hm
      rcases ite_or hm with ⟨hc, hm⟩ | ⟨hc, hm⟩
      · cases hm
        exact f
      · obtain ⟨r7, -, hm⟩ := bd_s hm
        rcases ite_or hm with ⟨hc, hm⟩ | ⟨hc, hm⟩
        · cases hm
          exact f
        · obtain ⟨r8, -, hm⟩ := bd_s hm
          obtain ⟨r9, -, hm⟩ := bd_s hm
          rcases ite_or hm with ⟨hc, hm⟩ | ⟨hc, hm⟩
          · cases hm
            exact f
          · obtain ⟨h10, he, hm⟩ := bd_s hm
            replace f := fr_tr f (fpB_write _ _ _ _ _ he) (fun b hb => hS b (by simp only [FPdB_write, List.mem_cons, List.not_mem_nil, or_false] at hb ⊢; omega))
            exact kj1 _ hm f
def FPdX_act (p1 : Int32) (p2 : Int32) (p3 : Int32) : List Nat := [73, 74, 75, 76, 77, 78, 79, 80, 81, 82, 83, 84, 72, 70, ((sT 68) + 1), 17, 16, (sT 68)]
theorem fpX_act (p1 : Int32) (p2 : Int32) (p3 : Int32) (h0 : PH) {r : Int32 × PH} (hm : mX_act p1 p2 p3 h0 = some r) : Fr (FPdX_act p1 p2 p3) r.2 h0 := by
  generalize hSe : FPdX_act p1 p2 p3 = S
  have hS : ∀ b, b ∈ ([73, 74, 75, 76, 77, 78, 79, 80, 81, 82, 83, 84, 72, 70, ((sT 68) + 1), 17, 16, (sT 68)] : List Nat) → b ∈ S := by rw [← hSe]; exact fun b hb => hb
  generalize hge : h0 = g at ⊢
  have f : Fr S h0 g := by rw [hge]; exact fun _ _ => rfl
  unfold mX_act at hm
  obtain ⟨r1, -, hm⟩ := bd_s hm
  rcases ite_or hm with ⟨hc, hm⟩ | ⟨hc, hm⟩
  · cases hm
    exact f
  · obtain ⟨h2, he, hm⟩ := bd_s hm
    replace f := fr_tr f (fpP_keep _ _ _ he) (fun b hb => hS b (by simp only [FPdP_keep, List.mem_cons, List.not_mem_nil, or_false] at hb ⊢; omega))
    obtain ⟨h3, he, hm⟩ := bd_s hm
    replace f := fr_tr f (fpS_actByHand _ _ _ _ _ he) (fun b hb => hS b (by simp only [FPdS_actByHand, List.mem_cons, List.not_mem_nil, or_false] at hb ⊢; omega))
    cases hm
    exact f
def FPdX_quarters (p1 : Int32) : List Nat := [73, 74, 75, 76, 77, 78, 79, 80, 81, 82, 83, 84, 72, 70, (sT 68), ((sT 68) + 1), 17, 16, 34, 36, 35]
theorem wf_X_quarters_L31 (p1 : Int32) (S : List Nat) (g : PH) (r : Int32 × PH) (hS : ∀ b, b ∈ ([73, 74, 75, 76, 77, 78, 79, 80, 81, 82, 83, 84, 72, 70, (sT 68), ((sT 68) + 1), 17, 16, 34, 36, 35] : List Nat) → b ∈ S) : ∀ (n : Nat) (v2 : Int32) (v3 : Int32) (hv : PH), mX_quarters_L31 p1 n v2 v3 hv = some r → Fr S hv g → Fr S r.2 g := by
  intro n
  induction n with
  | zero => intro v2 v3 hv hm; cases hm
  | succ n ih =>
    intro v2 v3 hv hm f
    unfold mX_quarters_L31 at hm
    rcases ite_or hm with ⟨hc, hm⟩ | ⟨hc, hm⟩
    · cases hm
      exact f
    · obtain ⟨h2, he, hm⟩ := bd_s hm
      replace f := fr_tr f (fpP_keep _ _ _ he) (fun b hb => hS b (by simp only [FPdP_keep, List.mem_cons, List.not_mem_nil, or_false] at hb ⊢; omega))
      obtain ⟨r3, h4, he, hm⟩ := bd2_s hm
      replace f := fr_tr f (fpS_pass _ _ he) (fun b hb => hS b (by simp only [FPdS_pass, List.mem_cons, List.not_mem_nil, or_false] at hb ⊢; omega))
      obtain ⟨x5, -, hm⟩ := lt_some hm
      exact ih _ _ _ hm f
theorem fpX_quarters (p1 : Int32) (h0 : PH) {r : Int32 × PH} (hm : mX_quarters p1 h0 = some r) : Fr (FPdX_quarters p1) r.2 h0 := by
  generalize hSe : FPdX_quarters p1 = S
  have hS : ∀ b, b ∈ ([73, 74, 75, 76, 77, 78, 79, 80, 81, 82, 83, 84, 72, 70, (sT 68), ((sT 68) + 1), 17, 16, 34, 36, 35] : List Nat) → b ∈ S := by rw [← hSe]; exact fun b hb => hb
  generalize hge : h0 = g at ⊢
  have f : Fr S h0 g := by rw [hge]; exact fun _ _ => rfl
  unfold mX_quarters at hm
  obtain ⟨r1, -, hm⟩ := bd_s hm
  rcases ite_or hm with ⟨hc, hm⟩ | ⟨hc, hm⟩
  · cases hm
    exact f
  · rcases ite_or hm with ⟨hc, hm⟩ | ⟨hc, hm⟩
    · exact wf_X_quarters_L31 _ S g _ (fun b hb => hS b (by first | exact absurd hb List.not_mem_nil | (simp only [List.mem_cons, List.not_mem_nil, or_false] at hb ⊢; omega))) _ _ _ _ hm f
    · cases hm
      exact f
def FPdX_feed (p1 : Int32) (p2 : Int32) (p3 : Int32) (p4 : Int32) (p5 : Int32) : List Nat := [86, 85]
theorem fpX_feed (p1 : Int32) (p2 : Int32) (p3 : Int32) (p4 : Int32) (p5 : Int32) (h0 : PH) {r : Int32 × PH} (hm : mX_feed p1 p2 p3 p4 p5 h0 = some r) : Fr (FPdX_feed p1 p2 p3 p4 p5) r.2 h0 := by
  generalize hSe : FPdX_feed p1 p2 p3 p4 p5 = S
  have hS : ∀ b, b ∈ ([86, 85] : List Nat) → b ∈ S := by rw [← hSe]; exact fun b hb => hb
  generalize hge : h0 = g at ⊢
  have f : Fr S h0 g := by rw [hge]; exact fun _ _ => rfl
  unfold mX_feed at hm
  rcases ite_or hm with ⟨hc, hm⟩ | ⟨hc, hm⟩
  · obtain ⟨h1, he, hm⟩ := bd_s hm
    replace f := fr_tr f (fpA_take _ _ he) (fun b hb => hS b ((by decide +kernel : ∀ b, b ∈ ([86, 85] : List Nat) → b ∈ ([86, 85] : List Nat)) b hb))
    obtain ⟨h2, he, hm⟩ := bd_s hm
    replace f := fr_tr f (fpA_take _ _ he) (fun b hb => hS b ((by decide +kernel : ∀ b, b ∈ ([86, 85] : List Nat) → b ∈ ([86, 85] : List Nat)) b hb))
    obtain ⟨h3, he, hm⟩ := bd_s hm
    replace f := fr_tr f (fpA_take _ _ he) (fun b hb => hS b ((by decide +kernel : ∀ b, b ∈ ([86, 85] : List Nat) → b ∈ ([86, 85] : List Nat)) b hb))
    obtain ⟨h4, he, hm⟩ := bd_s hm
    replace f := fr_tr f (fpA_take _ _ he) (fun b hb => hS b ((by decide +kernel : ∀ b, b ∈ ([86, 85] : List Nat) → b ∈ ([86, 85] : List Nat)) b hb))
    obtain ⟨h5, he, hm⟩ := bd_s hm
    replace f := fr_tr f (fpA_take _ _ he) (fun b hb => hS b ((by decide +kernel : ∀ b, b ∈ ([86, 85] : List Nat) → b ∈ ([86, 85] : List Nat)) b hb))
    cases hm
    exact f
  · cases hm
    exact f
def FPdX_end (p1 : Int32) : List Nat := [85]
theorem fpX_end (p1 : Int32) (h0 : PH) {r : Int32 × PH} (hm : mX_end p1 h0 = some r) : Fr (FPdX_end p1) r.2 h0 := by
  generalize hSe : FPdX_end p1 = S
  have hS : ∀ b, b ∈ ([85] : List Nat) → b ∈ S := by rw [← hSe]; exact fun b hb => hb
  generalize hge : h0 = g at ⊢
  have f : Fr S h0 g := by rw [hge]; exact fun _ _ => rfl
  unfold mX_end at hm
  rcases ite_or hm with ⟨hc, hm⟩ | ⟨hc, hm⟩
  · cases hm
    exact f
  · rcases ite_or hm with ⟨hc, hm⟩ | ⟨hc, hm⟩
    · obtain ⟨h1, e1, hm⟩ := lt_some hm
      replace f : Fr S h1 g := by rw [e1]; exact up_fr f (hS _ (by decide))
      cases hm
      exact f
    · cases hm
      exact f
def FPdX_keepText (p1 : Int32) : List Nat := [7, 6, 9, 8, 11, 10, 70, 13, 12, 15, 14]
theorem fpX_keepText (p1 : Int32) (h0 : PH) {r : Int32 × PH} (hm : mX_keepText p1 h0 = some r) : Fr (FPdX_keepText p1) r.2 h0 := by
  generalize hSe : FPdX_keepText p1 = S
  have hS : ∀ b, b ∈ ([7, 6, 9, 8, 11, 10, 70, 13, 12, 15, 14] : List Nat) → b ∈ S := by rw [← hSe]; exact fun b hb => hb
  generalize hge : h0 = g at ⊢
  have f : Fr S h0 g := by rw [hge]; exact fun _ _ => rfl
  unfold mX_keepText at hm
  rcases ite_or hm with ⟨hc, hm⟩ | ⟨hc, hm⟩
  · obtain ⟨h1, he, hm⟩ := bd_s hm
    replace f := fr_tr f (fpR_copyFrom _ _ _ he) (fun b hb => hS b (by simp only [FPdR_copyFrom, List.mem_cons, List.not_mem_nil, or_false] at hb ⊢; omega))
    obtain ⟨h2, he, hm⟩ := bd_s hm
    replace f := fr_tr f (fpR_copyFrom _ _ _ he) (fun b hb => hS b (by simp only [FPdR_copyFrom, List.mem_cons, List.not_mem_nil, or_false] at hb ⊢; omega))
    cases hm
    exact f
  · rcases ite_or hm with ⟨hc, hm⟩ | ⟨hc, hm⟩
    · obtain ⟨h3, he, hm⟩ := bd_s hm
      replace f := fr_tr f (fpR_copyFrom _ _ _ he) (fun b hb => hS b (by simp only [FPdR_copyFrom, List.mem_cons, List.not_mem_nil, or_false] at hb ⊢; omega))
      obtain ⟨h4, he, hm⟩ := bd_s hm
      replace f := fr_tr f (fpP_forget _ he) (fun b hb => hS b ((by decide +kernel : ∀ b, b ∈ ([70] : List Nat) → b ∈ ([7, 6, 9, 8, 11, 10, 70, 13, 12, 15, 14] : List Nat)) b hb))
      cases hm
      exact f
    · rcases ite_or hm with ⟨hc, hm⟩ | ⟨hc, hm⟩
      · obtain ⟨h5, he, hm⟩ := bd_s hm
        replace f := fr_tr f (fpR_copyFrom _ _ _ he) (fun b hb => hS b (by simp only [FPdR_copyFrom, List.mem_cons, List.not_mem_nil, or_false] at hb ⊢; omega))
        obtain ⟨h6, he, hm⟩ := bd_s hm
        replace f := fr_tr f (fpP_forget _ he) (fun b hb => hS b ((by decide +kernel : ∀ b, b ∈ ([70] : List Nat) → b ∈ ([7, 6, 9, 8, 11, 10, 70, 13, 12, 15, 14] : List Nat)) b hb))
        cases hm
        exact f
      · obtain ⟨h7, he, hm⟩ := bd_s hm
        replace f := fr_tr f (fpR_copyFrom _ _ _ he) (fun b hb => hS b (by simp only [FPdR_copyFrom, List.mem_cons, List.not_mem_nil, or_false] at hb ⊢; omega))
        cases hm
        exact f
def FPdX_text (p1 : Int32) : List Nat := [90, 85, 7, 6, 9, 8, 11, 10, 70, 13, 12, 15, 14, 87, 88, 89, 91, 93, 94, 92]
theorem fpX_text (p1 : Int32) (h0 : PH) {r : Int32 × PH} (hm : mX_text p1 h0 = some r) : Fr (FPdX_text p1) r.2 h0 := by
  generalize hSe : FPdX_text p1 = S
  have hS : ∀ b, b ∈ ([90, 85, 7, 6, 9, 8, 11, 10, 70, 13, 12, 15, 14, 87, 88, 89, 91, 93, 94, 92] : List Nat) → b ∈ S := by rw [← hSe]; exact fun b hb => hb
  generalize hge : h0 = g at ⊢
  have f : Fr S h0 g := by rw [hge]; exact fun _ _ => rfl
  unfold mX_text at hm
  obtain ⟨h1, he, hm⟩ := bd_s hm
  replace f := fr_tr f (fpD_forgetFault _ he) (fun b hb => hS b ((by decide +kernel : ∀ b, b ∈ ([90] : List Nat) → b ∈ ([90, 85, 7, 6, 9, 8, 11, 10, 70, 13, 12, 15, 14, 87, 88, 89, 91, 93, 94, 92] : List Nat)) b hb))
  obtain ⟨r2, -, hm⟩ := bd_s hm
  refine v_j2 (fun (x4 : Int32) (h5 : PH) => Fr S h5 g → Fr S r.2 g) hm (fun x4 h5 hm f => ?_) (fun j3 kj3 hm => ?_)
  · obtain ⟨h6, e1, hm⟩ := lt_some hm
    replace f : Fr S h6 g := by rw [e1]; exact up_fr f (hS _ (by decide))
    rcases ite_or hm with ⟨hc, hm⟩ | ⟨hc, hm⟩
    · cases hm
      exact f
    · obtain ⟨r7, h8, he, hm⟩ := bd2_s hm
      replace f := fr_tr f (fpX_keepText _ _ he) (fun b hb => hS b ((by decide +kernel : ∀ b, b ∈ ([7, 6, 9, 8, 11, 10, 70, 13, 12, 15, 14] : List Nat) → b ∈ ([90, 85, 7, 6, 9, 8, 11, 10, 70, 13, 12, 15, 14, 87, 88, 89, 91, 93, 94, 92] : List Nat)) b hb))
      cases hm
      exact f
  · rcases ite_or hm with ⟨hc, hm⟩ | ⟨hc, hm⟩
    · exact kj3 _ _ hm f
    · obtain ⟨r9, h10, he, hm⟩ := bd2_s hm
      replace f := fr_tr f (fpD_reads _ _ _ he) (fun b hb => hS b ((by decide +kernel : ∀ b, b ∈ ([85, 87, 88, 89, 90, 91, 93, 94, 92] : List Nat) → b ∈ ([90, 85, 7, 6, 9, 8, 11, 10, 70, 13, 12, 15, 14, 87, 88, 89, 91, 93, 94, 92] : List Nat)) b hb))
      rcases ite_or hm with ⟨hc, hm⟩ | ⟨hc, hm⟩
      · exact kj3 _ _ hm f
      · exact kj3 _ _ hm f
def FPdX_of (p1 : Int32) (p2 : Int32) : List Nat := [34, 36, 35]
theorem fpX_of (p1 : Int32) (p2 : Int32) (h0 : PH) {r : Int32 × PH} (hm : mX_of p1 p2 h0 = some r) : Fr (FPdX_of p1 p2) r.2 h0 := by
  generalize hSe : FPdX_of p1 p2 = S
  have hS : ∀ b, b ∈ ([34, 36, 35] : List Nat) → b ∈ S := by rw [← hSe]; exact fun b hb => hb
  generalize hge : h0 = g at ⊢
  have f : Fr S h0 g := by rw [hge]; exact fun _ _ => rfl
  unfold mX_of at hm
  obtain ⟨r1, -, hm⟩ := bd_s hm
  rcases ite_or hm with ⟨hc, hm⟩ | ⟨hc, hm⟩
  · cases hm
    exact f
  · obtain ⟨r2, -, hm⟩ := bd_s hm
    rcases ite_or hm with ⟨hc, hm⟩ | ⟨hc, hm⟩
    · rcases ite_or hm with ⟨hc, hm⟩ | ⟨hc, hm⟩
      · obtain ⟨r3, -, hm⟩ := bd_s hm
        obtain ⟨r4, h5, he, hm⟩ := bd2_s hm
        replace f := fr_tr f (fpW_tells _ _ _ _ _ he) (fun b hb => hS b ((by decide +kernel : ∀ b, b ∈ ([34, 36, 35] : List Nat) → b ∈ ([34, 36, 35] : List Nat)) b hb))
        cases hm
        exact f
      · rcases ite_or hm with ⟨hc, hm⟩ | ⟨hc, hm⟩
        · obtain ⟨r6, -, hm⟩ := bd_s hm
          cases hm
          exact f
        · obtain ⟨r7, -, hm⟩ := bd_s hm
          rcases ite_or hm with ⟨hc, hm⟩ | ⟨hc, hm⟩
          · obtain ⟨r8, -, hm⟩ := bd_s hm
            rcases ite_or hm with ⟨hc, hm⟩ | ⟨hc, hm⟩
            · cases hm
              exact f
            · obtain ⟨r9, h10, he, hm⟩ := bd2_s hm
              replace f := fr_tr f (fpW_tells _ _ _ _ _ he) (fun b hb => hS b ((by decide +kernel : ∀ b, b ∈ ([34, 36, 35] : List Nat) → b ∈ ([34, 36, 35] : List Nat)) b hb))
              cases hm
              exact f
          · obtain ⟨r11, h12, he, hm⟩ := bd2_s hm
            replace f := fr_tr f (fpW_tells _ _ _ _ _ he) (fun b hb => hS b ((by decide +kernel : ∀ b, b ∈ ([34, 36, 35] : List Nat) → b ∈ ([34, 36, 35] : List Nat)) b hb))
            cases hm
            exact f
    · obtain ⟨r13, -, hm⟩ := bd_s hm
      cases hm
      exact f
def FPdX_goes (p1 : Int32) (p2 : Int32) : List Nat := [4, 3, (sT 69), ((sT 69) + 1), 17, 16, 34, 36, 35]
theorem wf_X_goes_L34 (p1 : Int32) (p2 : Int32) (k0 : PH → Option (Int32 × PH)) (S : List Nat) (g : PH) (r : Int32 × PH) (hS : ∀ b, b ∈ ([(sT 69), ((sT 69) + 1), 17, 16, 34, 36, 35] : List Nat) → b ∈ S) (kk0 : ∀ (y0 : PH), k0 y0 = some r → Fr S y0 g → Fr S r.2 g) : ∀ (n : Nat) (v3 : Int32) (hv : PH), mX_goes_L34 p1 p2 k0 n v3 hv = some r → Fr S hv g → Fr S r.2 g := by
  intro n
  induction n with
  | zero => intro v3 hv hm; cases hm
  | succ n ih =>
    intro v3 hv hm f
    unfold mX_goes_L34 at hm
    rcases ite_or hm with ⟨hc, hm⟩ | ⟨hc, hm⟩
    · exact kk0 _ hm f
    · obtain ⟨r4, h5, he, hm⟩ := bd2_s hm
      replace f := fr_tr f (fpS_pass _ _ he) (fun b hb => hS b (by simp only [FPdS_pass, List.mem_cons, List.not_mem_nil, or_false] at hb ⊢; omega))
      exact ih _ _ hm f
theorem fpX_goes (p1 : Int32) (p2 : Int32) (h0 : PH) {r : Int32 × PH} (hm : mX_goes p1 p2 h0 = some r) : Fr (FPdX_goes p1 p2) r.2 h0 := by
  generalize hSe : FPdX_goes p1 p2 = S
  have hS : ∀ b, b ∈ ([4, 3, (sT 69), ((sT 69) + 1), 17, 16, 34, 36, 35] : List Nat) → b ∈ S := by rw [← hSe]; exact fun b hb => hb
  generalize hge : h0 = g at ⊢
  have f : Fr S h0 g := by rw [hge]; exact fun _ _ => rfl
  unfold mX_goes at hm
  obtain ⟨r1, -, hm⟩ := bd_s hm
  rcases ite_or hm with ⟨hc, hm⟩ | ⟨hc, hm⟩
  · cases hm
    exact f
  · obtain ⟨r2, -, hm⟩ := bd_s hm
    rcases ite_or hm with ⟨hc, hm⟩ | ⟨hc, hm⟩
    · cases hm
      exact f
    · obtain ⟨h3, he, hm⟩ := bd_s hm
      replace f := fr_tr f (fpB_copyFrom _ _ _ he) (fun b hb => hS b (by simp only [FPdB_copyFrom, List.mem_cons, List.not_mem_nil, or_false] at hb ⊢; omega))
      refine wf_X_goes_L34 _ _ _ S g _ (fun b hb => hS b (by first | exact absurd hb List.not_mem_nil | (simp only [List.mem_cons, List.not_mem_nil, or_false] at hb ⊢; omega))) (fun h6 hm f => ?_) _ _ _ hm f
      · rcases ite_or hm with ⟨hc, hm⟩ | ⟨hc, hm⟩
        · cases hm
          exact f
        · rcases ite_or hm with ⟨hc, hm⟩ | ⟨hc, hm⟩
          · obtain ⟨r7, -, hm⟩ := bd_s hm
            cases hm
            exact f
          · rcases ite_or hm with ⟨hc, hm⟩ | ⟨hc, hm⟩
            · obtain ⟨r8, -, hm⟩ := bd_s hm
              cases hm
              exact f
            · obtain ⟨r9, -, hm⟩ := bd_s hm
              cases hm
              exact f
def FPdX_stands (p1 : Int32) : List Nat := [4, 3, (sT 69), ((sT 69) + 1), 17, 16, 34, 36, 35]
theorem wf_X_stands_L40 (p1 : Int32) (S : List Nat) (g : PH) (r : Int32 × PH) (hS : ∀ b, b ∈ ([(sT 69), ((sT 69) + 1), 17, 16, 34, 36, 35] : List Nat) → b ∈ S) : ∀ (n : Nat) (v2 : Int32) (hv : PH), mX_stands_L40 p1 n v2 hv = some r → Fr S hv g → Fr S r.2 g := by
  intro n
  induction n with
  | zero => intro v2 hv hm; cases hm
  | succ n ih =>
    intro v2 hv hm f
    unfold mX_stands_L40 at hm
    rcases ite_or hm with ⟨hc, hm⟩ | ⟨hc, hm⟩
    · cases hm
      exact f
    · obtain ⟨r4, h5, he, hm⟩ := bd2_s hm
      replace f := fr_tr f (fpS_pass _ _ he) (fun b hb => hS b (by simp only [FPdS_pass, List.mem_cons, List.not_mem_nil, or_false] at hb ⊢; omega))
      obtain ⟨r6, -, hm⟩ := bd_s hm
      rcases ite_or hm with ⟨hc, hm⟩ | ⟨hc, hm⟩
      · cases hm
        exact f
      · exact ih _ _ hm f
theorem fpX_stands (p1 : Int32) (h0 : PH) {r : Int32 × PH} (hm : mX_stands p1 h0 = some r) : Fr (FPdX_stands p1) r.2 h0 := by
  generalize hSe : FPdX_stands p1 = S
  have hS : ∀ b, b ∈ ([4, 3, (sT 69), ((sT 69) + 1), 17, 16, 34, 36, 35] : List Nat) → b ∈ S := by rw [← hSe]; exact fun b hb => hb
  generalize hge : h0 = g at ⊢
  have f : Fr S h0 g := by rw [hge]; exact fun _ _ => rfl
  unfold mX_stands at hm
  obtain ⟨r1, -, hm⟩ := bd_s hm
  rcases ite_or hm with ⟨hc, hm⟩ | ⟨hc, hm⟩
  · cases hm
    exact f
  · obtain ⟨r2, -, hm⟩ := bd_s hm
    rcases ite_or hm with ⟨hc, hm⟩ | ⟨hc, hm⟩
    · cases hm
      exact f
    · obtain ⟨h3, he, hm⟩ := bd_s hm
      replace f := fr_tr f (fpB_copyFrom _ _ _ he) (fun b hb => hS b (by simp only [FPdB_copyFrom, List.mem_cons, List.not_mem_nil, or_false] at hb ⊢; omega))
      exact wf_X_stands_L40 _ S g _ (fun b hb => hS b (by first | exact absurd hb List.not_mem_nil | (simp only [List.mem_cons, List.not_mem_nil, or_false] at hb ⊢; omega))) _ _ _ hm f
def FPdX_cheapestWay (p1 : Int32) (p2 : Int32) (p3 : Int32) : List Nat := [96]
theorem fpX_cheapestWay (p1 : Int32) (p2 : Int32) (p3 : Int32) (h0 : PH) {r : Int32 × PH} (hm : mX_cheapestWay p1 p2 p3 h0 = some r) : Fr (FPdX_cheapestWay p1 p2 p3) r.2 h0 := by
  generalize hSe : FPdX_cheapestWay p1 p2 p3 = S
  have hS : ∀ b, b ∈ ([96] : List Nat) → b ∈ S := by rw [← hSe]; exact fun b hb => hb
  generalize hge : h0 = g at ⊢
  have f : Fr S h0 g := by rw [hge]; exact fun _ _ => rfl
  unfold mX_cheapestWay at hm
  obtain ⟨r1, -, hm⟩ := bd_s hm
  rcases ite_or hm with ⟨hc, hm⟩ | ⟨hc, hm⟩
  · cases hm
    exact f
  · obtain ⟨r2, -, hm⟩ := bd_s hm
    rcases ite_or hm with ⟨hc, hm⟩ | ⟨hc, hm⟩
    · cases hm
      exact f
    · obtain ⟨h3, he, hm⟩ := bd_s hm
      replace f := fr_tr f (fpT_spread _ _ _ _ _ he) (fun b hb => hS b ((by decide +kernel : ∀ b, b ∈ ([96] : List Nat) → b ∈ ([96] : List Nat)) b hb))
      obtain ⟨r4, -, hm⟩ := bd_s hm
      cases hm
      exact f
def FPdX_hears (p1 : Int32) (p2 : Int32) : List Nat := [96]
theorem fpX_hears (p1 : Int32) (p2 : Int32) (h0 : PH) {r : Int32 × PH} (hm : mX_hears p1 p2 h0 = some r) : Fr (FPdX_hears p1 p2) r.2 h0 := by
  generalize hSe : FPdX_hears p1 p2 = S
  have hS : ∀ b, b ∈ ([96] : List Nat) → b ∈ S := by rw [← hSe]; exact fun b hb => hb
  generalize hge : h0 = g at ⊢
  have f : Fr S h0 g := by rw [hge]; exact fun _ _ => rfl
  unfold mX_hears at hm
  obtain ⟨r1, h2, he, hm⟩ := bd2_s hm
  replace f := fr_tr f (fpX_cheapestWay _ _ _ _ he) (fun b hb => hS b ((by decide +kernel : ∀ b, b ∈ ([96] : List Nat) → b ∈ ([96] : List Nat)) b hb))
  cases hm
  exact f
def FPdX_heard (p1 : Int32) (p2 : Int32) : List Nat := [96]
theorem fpX_heard (p1 : Int32) (p2 : Int32) (h0 : PH) {r : Int32 × PH} (hm : mX_heard p1 p2 h0 = some r) : Fr (FPdX_heard p1 p2) r.2 h0 := by
  generalize hSe : FPdX_heard p1 p2 = S
  have hS : ∀ b, b ∈ ([96] : List Nat) → b ∈ S := by rw [← hSe]; exact fun b hb => hb
  generalize hge : h0 = g at ⊢
  have f : Fr S h0 g := by rw [hge]; exact fun _ _ => rfl
  unfold mX_heard at hm
  obtain ⟨r1, -, hm⟩ := bd_s hm
  rcases ite_or hm with ⟨hc, hm⟩ | ⟨hc, hm⟩
  · cases hm
    exact f
  · obtain ⟨r2, -, hm⟩ := bd_s hm
    rcases ite_or hm with ⟨hc, hm⟩ | ⟨hc, hm⟩
    · cases hm
      exact f
    · obtain ⟨h3, he, hm⟩ := bd_s hm
      replace f := fr_tr f (fpT_spread _ _ _ _ _ he) (fun b hb => hS b ((by decide +kernel : ∀ b, b ∈ ([96] : List Nat) → b ∈ ([96] : List Nat)) b hb))
      obtain ⟨r4, -, hm⟩ := bd_s hm
      cases hm
      exact f
def FPdX_ants (p1 : Int32) (p2 : Int32) : List Nat := [96]
theorem fpX_ants (p1 : Int32) (p2 : Int32) (h0 : PH) {r : Int32 × PH} (hm : mX_ants p1 p2 h0 = some r) : Fr (FPdX_ants p1 p2) r.2 h0 := by
  generalize hSe : FPdX_ants p1 p2 = S
  have hS : ∀ b, b ∈ ([96] : List Nat) → b ∈ S := by rw [← hSe]; exact fun b hb => hb
  generalize hge : h0 = g at ⊢
  have f : Fr S h0 g := by rw [hge]; exact fun _ _ => rfl
  unfold mX_ants at hm
  obtain ⟨r1, h2, he, hm⟩ := bd2_s hm
  replace f := fr_tr f (fpX_cheapestWay _ _ _ _ he) (fun b hb => hS b ((by decide +kernel : ∀ b, b ∈ ([96] : List Nat) → b ∈ ([96] : List Nat)) b hb))
  cases hm
  exact f
def FPdX_tell (a0 : Nat) (p1 : Int32) (p2 : Int32) (p3 : Int32) (p4 : Int32) : List Nat := [(a0 + 1), a0]
theorem fpX_tell (a0 : Nat) (p1 : Int32) (p2 : Int32) (p3 : Int32) (p4 : Int32) (h0 : PH) {r : Int32 × PH} (hm : mX_tell a0 p1 p2 p3 p4 h0 = some r) : Fr (FPdX_tell a0 p1 p2 p3 p4) r.2 h0 := by
  generalize hSe : FPdX_tell a0 p1 p2 p3 p4 = S
  have hS : ∀ b, b ∈ ([(a0 + 1), a0] : List Nat) → b ∈ S := by rw [← hSe]; exact fun b hb => hb
  generalize hge : h0 = g at ⊢
  have f : Fr S h0 g := by rw [hge]; exact fun _ _ => rfl
  unfold mX_tell at hm
  rcases ite_or hm with ⟨hc, hm⟩ | ⟨hc, hm⟩
  · rcases ite_or hm with ⟨hc, hm⟩ | ⟨hc, hm⟩
    · cases hm
      exact f
    · obtain ⟨r1, h2, he, hm⟩ := bd2_s hm
      replace f := fr_tr f (fpR_add _ _ _ _ _ _ _ he) (fun b hb => hS b (by simp only [FPdR_add, List.mem_cons, List.not_mem_nil, or_false] at hb ⊢; omega))
      rcases ite_or hm with ⟨hc, hm⟩ | ⟨hc, hm⟩
      · cases hm
        exact f
      · cases hm
        exact f
  · obtain ⟨h3, e1, hm⟩ := lt_some hm
    replace f : Fr S h3 g := by rw [e1]; exact up_fr f (hS _ (by first | simp; done | (simp only [List.mem_cons, List.not_mem_nil, or_false]; omega)))
    cases hm
    exact f
def FPdX_piece (p1 : Int32) : List Nat := [19, 18]
theorem fpX_piece (p1 : Int32) (h0 : PH) {r : Int32 × PH} (hm : mX_piece p1 h0 = some r) : Fr (FPdX_piece p1) r.2 h0 := by
  generalize hSe : FPdX_piece p1 = S
  have hS : ∀ b, b ∈ ([19, 18] : List Nat) → b ∈ S := by rw [← hSe]; exact fun b hb => hb
  generalize hge : h0 = g at ⊢
  have f : Fr S h0 g := by rw [hge]; exact fun _ _ => rfl
  unfold mX_piece at hm
  refine v_j1 (fun (x2 : Int32) => Fr S r.2 g) hm (fun x2 hm => ?_) (fun j1 kj1 hm => ?_)
  · obtain ⟨r3, -, hm⟩ := bd_s hm
    obtain ⟨r4, h5, he, hm⟩ := bd2_s hm
    replace f := fr_tr f (fpX_tell _ _ _ _ _ _ he) (fun b hb => hS b (by simp only [FPdX_tell, List.mem_cons, List.not_mem_nil, or_false] at hb ⊢; omega))
    cases hm
    exact f
  · rcases ite_or hm with ⟨hc, hm⟩ | ⟨hc, hm⟩
    · exact kj1 _ hm
    · exact kj1 _ hm
def FPdX_dough (p1 : Int32) : List Nat := [21, 20]
theorem fpX_dough (p1 : Int32) (h0 : PH) {r : Int32 × PH} (hm : mX_dough p1 h0 = some r) : Fr (FPdX_dough p1) r.2 h0 := by
  generalize hSe : FPdX_dough p1 = S
  have hS : ∀ b, b ∈ ([21, 20] : List Nat) → b ∈ S := by rw [← hSe]; exact fun b hb => hb
  generalize hge : h0 = g at ⊢
  have f : Fr S h0 g := by rw [hge]; exact fun _ _ => rfl
  unfold mX_dough at hm
  refine v_j1 (fun (x2 : Int32) => Fr S r.2 g) hm (fun x2 hm => ?_) (fun j1 kj1 hm => ?_)
  · obtain ⟨r3, -, hm⟩ := bd_s hm
    obtain ⟨r4, h5, he, hm⟩ := bd2_s hm
    replace f := fr_tr f (fpX_tell _ _ _ _ _ _ he) (fun b hb => hS b (by simp only [FPdX_tell, List.mem_cons, List.not_mem_nil, or_false] at hb ⊢; omega))
    cases hm
    exact f
  · rcases ite_or hm with ⟨hc, hm⟩ | ⟨hc, hm⟩
    · exact kj1 _ hm
    · exact kj1 _ hm
def FPdX_pans (p1 : Int32) (p2 : Int32) : List Nat := [99]
theorem fpX_pans (p1 : Int32) (p2 : Int32) (h0 : PH) {r : Int32 × PH} (hm : mX_pans p1 p2 h0 = some r) : Fr (FPdX_pans p1 p2) r.2 h0 := by
  generalize hSe : FPdX_pans p1 p2 = S
  have hS : ∀ b, b ∈ ([99] : List Nat) → b ∈ S := by rw [← hSe]; exact fun b hb => hb
  generalize hge : h0 = g at ⊢
  have f : Fr S h0 g := by rw [hge]; exact fun _ _ => rfl
  unfold mX_pans at hm
  obtain ⟨r1, -, hm⟩ := bd_s hm
  rcases ite_or hm with ⟨hc, hm⟩ | ⟨hc, hm⟩
  · cases hm
    exact f
  · obtain ⟨r2, -, hm⟩ := bd_s hm
    rcases ite_or hm with ⟨hc, hm⟩ | ⟨hc, hm⟩
    · cases hm
      exact f
    · obtain ⟨r3, -, hm⟩ := bd_s hm
      rcases ite_or hm with ⟨hc, hm⟩ | ⟨hc, hm⟩
      · rcases ite_or hm with ⟨hc, hm⟩ | ⟨hc, hm⟩
        · obtain ⟨r4, h5, he, hm⟩ := bd2_s hm
          replace f := fr_tr f (fpK_fewestPans _ _ _ he) (fun b hb => hS b ((by decide +kernel : ∀ b, b ∈ ([99] : List Nat) → b ∈ ([99] : List Nat)) b hb))
          cases hm
          exact f
        · obtain ⟨r6, h7, he, hm⟩ := bd2_s hm
          replace f := fr_tr f (fpK_firstFitPans _ _ _ he) (fun b hb => hS b ((by decide +kernel : ∀ b, b ∈ ([99] : List Nat) → b ∈ ([99] : List Nat)) b hb))
          cases hm
          exact f
      · cases hm
        exact f
def FPdX_mark (p1 : Int32) : List Nat := [23, 22]
theorem fpX_mark (p1 : Int32) (h0 : PH) {r : Int32 × PH} (hm : mX_mark p1 h0 = some r) : Fr (FPdX_mark p1) r.2 h0 := by
  generalize hSe : FPdX_mark p1 = S
  have hS : ∀ b, b ∈ ([23, 22] : List Nat) → b ∈ S := by rw [← hSe]; exact fun b hb => hb
  generalize hge : h0 = g at ⊢
  have f : Fr S h0 g := by rw [hge]; exact fun _ _ => rfl
  unfold mX_mark at hm
  refine v_j1 (fun (x2 : Int32) => Fr S r.2 g) hm (fun x2 hm => ?_) (fun j1 kj1 hm => ?_)
  · obtain ⟨r3, -, hm⟩ := bd_s hm
    obtain ⟨r4, h5, he, hm⟩ := bd2_s hm
    replace f := fr_tr f (fpX_tell _ _ _ _ _ _ he) (fun b hb => hS b (by simp only [FPdX_tell, List.mem_cons, List.not_mem_nil, or_false] at hb ⊢; omega))
    cases hm
    exact f
  · rcases ite_or hm with ⟨hc, hm⟩ | ⟨hc, hm⟩
    · exact kj1 _ hm
    · exact kj1 _ hm
def FPdX_bite (p1 : Int32) (p2 : Int32) : List Nat := [25, 24]
theorem fpX_bite (p1 : Int32) (p2 : Int32) (h0 : PH) {r : Int32 × PH} (hm : mX_bite p1 p2 h0 = some r) : Fr (FPdX_bite p1 p2) r.2 h0 := by
  generalize hSe : FPdX_bite p1 p2 = S
  have hS : ∀ b, b ∈ ([25, 24] : List Nat) → b ∈ S := by rw [← hSe]; exact fun b hb => hb
  generalize hge : h0 = g at ⊢
  have f : Fr S h0 g := by rw [hge]; exact fun _ _ => rfl
  unfold mX_bite at hm
  refine v_j1 (fun (x2 : Int32) => Fr S r.2 g) hm (fun x2 hm => ?_) (fun j1 kj1 hm => ?_)
  · obtain ⟨r3, -, hm⟩ := bd_s hm
    refine v_j1 (fun (x5 : Int32) => Fr S r.2 g) hm (fun x5 hm => ?_) (fun j4 kj4 hm => ?_)
    · obtain ⟨r6, h7, he, hm⟩ := bd2_s hm
      replace f := fr_tr f (fpX_tell _ _ _ _ _ _ he) (fun b hb => hS b (by simp only [FPdX_tell, List.mem_cons, List.not_mem_nil, or_false] at hb ⊢; omega))
      cases hm
      exact f
    · rcases ite_or hm with ⟨hc, hm⟩ | ⟨hc, hm⟩
      · exact kj4 _ hm
      · obtain ⟨r8, -, hm⟩ := bd_s hm
        rcases ite_or hm with ⟨hc, hm⟩ | ⟨hc, hm⟩
        · exact kj4 _ hm
        · exact kj4 _ hm
  · rcases ite_or hm with ⟨hc, hm⟩ | ⟨hc, hm⟩
    · exact kj1 _ hm
    · exact kj1 _ hm
def FPdX_crumb (p1 : Int32) : List Nat := [27, 26]
theorem fpX_crumb (p1 : Int32) (h0 : PH) {r : Int32 × PH} (hm : mX_crumb p1 h0 = some r) : Fr (FPdX_crumb p1) r.2 h0 := by
  generalize hSe : FPdX_crumb p1 = S
  have hS : ∀ b, b ∈ ([27, 26] : List Nat) → b ∈ S := by rw [← hSe]; exact fun b hb => hb
  generalize hge : h0 = g at ⊢
  have f : Fr S h0 g := by rw [hge]; exact fun _ _ => rfl
  unfold mX_crumb at hm
  refine v_j1 (fun (x2 : Int32) => Fr S r.2 g) hm (fun x2 hm => ?_) (fun j1 kj1 hm => ?_)
  · obtain ⟨r3, -, hm⟩ := bd_s hm
    obtain ⟨r4, h5, he, hm⟩ := bd2_s hm
    replace f := fr_tr f (fpX_tell _ _ _ _ _ _ he) (fun b hb => hS b (by simp only [FPdX_tell, List.mem_cons, List.not_mem_nil, or_false] at hb ⊢; omega))
    cases hm
    exact f
  · rcases ite_or hm with ⟨hc, hm⟩ | ⟨hc, hm⟩
    · exact kj1 _ hm
    · exact kj1 _ hm
def FPdX_crumbs (p1 : Int32) : List Nat := [100, 101]
theorem fpX_crumbs (p1 : Int32) (h0 : PH) {r : Int32 × PH} (hm : mX_crumbs p1 h0 = some r) : Fr (FPdX_crumbs p1) r.2 h0 := by
  generalize hSe : FPdX_crumbs p1 = S
  have hS : ∀ b, b ∈ ([100, 101] : List Nat) → b ∈ S := by rw [← hSe]; exact fun b hb => hb
  generalize hge : h0 = g at ⊢
  have f : Fr S h0 g := by rw [hge]; exact fun _ _ => rfl
  unfold mX_crumbs at hm
  obtain ⟨r1, -, hm⟩ := bd_s hm
  rcases ite_or hm with ⟨hc, hm⟩ | ⟨hc, hm⟩
  · cases hm
    exact f
  · rcases ite_or hm with ⟨hc, hm⟩ | ⟨hc, hm⟩
    · obtain ⟨r2, h3, he, hm⟩ := bd2_s hm
      replace f := fr_tr f (fpK_wayHome _ _ he) (fun b hb => hS b ((by decide +kernel : ∀ b, b ∈ ([100, 101] : List Nat) → b ∈ ([100, 101] : List Nat)) b hb))
      cases hm
      exact f
    · obtain ⟨r4, h5, he, hm⟩ := bd2_s hm
      replace f := fr_tr f (fpK_placesCrossed _ _ he) (fun b hb => hS b ((by decide +kernel : ∀ b, b ∈ ([100, 101] : List Nat) → b ∈ ([100, 101] : List Nat)) b hb))
      cases hm
      exact f
def FPdX_loaf (p1 : Int32) (p2 : Int32) : List Nat := [29, 28]
theorem fpX_loaf (p1 : Int32) (p2 : Int32) (h0 : PH) {r : Int32 × PH} (hm : mX_loaf p1 p2 h0 = some r) : Fr (FPdX_loaf p1 p2) r.2 h0 := by
  generalize hSe : FPdX_loaf p1 p2 = S
  have hS : ∀ b, b ∈ ([29, 28] : List Nat) → b ∈ S := by rw [← hSe]; exact fun b hb => hb
  generalize hge : h0 = g at ⊢
  have f : Fr S h0 g := by rw [hge]; exact fun _ _ => rfl
  unfold mX_loaf at hm
  refine v_j1 (fun (x2 : Int32) => Fr S r.2 g) hm (fun x2 hm => ?_) (fun j1 kj1 hm => ?_)
  · obtain ⟨r3, -, hm⟩ := bd_s hm
    refine v_j1 (fun (x5 : Int32) => Fr S r.2 g) hm (fun x5 hm => ?_) (fun j4 kj4 hm => ?_)
    · obtain ⟨r6, h7, he, hm⟩ := bd2_s hm
      replace f := fr_tr f (fpX_tell _ _ _ _ _ _ he) (fun b hb => hS b (by simp only [FPdX_tell, List.mem_cons, List.not_mem_nil, or_false] at hb ⊢; omega))
      cases hm
      exact f
    · rcases ite_or hm with ⟨hc, hm⟩ | ⟨hc, hm⟩
      · exact kj4 _ hm
      · obtain ⟨r8, -, hm⟩ := bd_s hm
        rcases ite_or hm with ⟨hc, hm⟩ | ⟨hc, hm⟩
        · exact kj4 _ hm
        · exact kj4 _ hm
  · rcases ite_or hm with ⟨hc, hm⟩ | ⟨hc, hm⟩
    · exact kj1 _ hm
    · exact kj1 _ hm
def FPdX_alone (p1 : Int32) : List Nat := [97]
theorem fpX_alone (p1 : Int32) (h0 : PH) {r : Int32 × PH} (hm : mX_alone p1 h0 = some r) : Fr (FPdX_alone p1) r.2 h0 := by
  generalize hSe : FPdX_alone p1 = S
  have hS : ∀ b, b ∈ ([97] : List Nat) → b ∈ S := by rw [← hSe]; exact fun b hb => hb
  generalize hge : h0 = g at ⊢
  have f : Fr S h0 g := by rw [hge]; exact fun _ _ => rfl
  unfold mX_alone at hm
  obtain ⟨r1, -, hm⟩ := bd_s hm
  rcases ite_or hm with ⟨hc, hm⟩ | ⟨hc, hm⟩
  · cases hm
    exact f
  · obtain ⟨r2, h3, he, hm⟩ := bd2_s hm
    replace f := fr_tr f (fpT_mostAlone _ _ _ he) (fun b hb => hS b ((by decide +kernel : ∀ b, b ∈ ([97] : List Nat) → b ∈ ([97] : List Nat)) b hb))
    rcases ite_or hm with ⟨hc, hm⟩ | ⟨hc, hm⟩
    · obtain ⟨r4, -, hm⟩ := bd_s hm
      cases hm
      exact f
    · cases hm
      exact f
def FPdX_heir (p1 : Int32) (p2 : Int32) : List Nat := [31, 30]
theorem fpX_heir (p1 : Int32) (p2 : Int32) (h0 : PH) {r : Int32 × PH} (hm : mX_heir p1 p2 h0 = some r) : Fr (FPdX_heir p1 p2) r.2 h0 := by
  generalize hSe : FPdX_heir p1 p2 = S
  have hS : ∀ b, b ∈ ([31, 30] : List Nat) → b ∈ S := by rw [← hSe]; exact fun b hb => hb
  generalize hge : h0 = g at ⊢
  have f : Fr S h0 g := by rw [hge]; exact fun _ _ => rfl
  unfold mX_heir at hm
  obtain ⟨r1, -, hm⟩ := bd_s hm
  refine v_j1 (fun (x3 : Int32) => Fr S r.2 g) hm (fun x3 hm => ?_) (fun j2 kj2 hm => ?_)
  · refine v_j1 (fun (x5 : Int32) => Fr S r.2 g) hm (fun x5 hm => ?_) (fun j4 kj4 hm => ?_)
    · obtain ⟨r6, h7, he, hm⟩ := bd2_s hm
      replace f := fr_tr f (fpX_tell _ _ _ _ _ _ he) (fun b hb => hS b (by simp only [FPdX_tell, List.mem_cons, List.not_mem_nil, or_false] at hb ⊢; omega))
      cases hm
      exact f
    · rcases ite_or hm with ⟨hc, hm⟩ | ⟨hc, hm⟩
      · exact kj4 _ hm
      · exact kj4 _ hm
  · rcases ite_or hm with ⟨hc, hm⟩ | ⟨hc, hm⟩
    · exact kj2 _ hm
    · obtain ⟨r8, -, hm⟩ := bd_s hm
      rcases ite_or hm with ⟨hc, hm⟩ | ⟨hc, hm⟩
      · exact kj2 _ hm
      · rcases ite_or hm with ⟨hc, hm⟩ | ⟨hc, hm⟩
        · exact kj2 _ hm
        · exact kj2 _ hm
def FPdX_member (p1 : Int32) (p2 : Int32) : List Nat := [33, 32]
theorem fpX_member (p1 : Int32) (p2 : Int32) (h0 : PH) {r : Int32 × PH} (hm : mX_member p1 p2 h0 = some r) : Fr (FPdX_member p1 p2) r.2 h0 := by
  generalize hSe : FPdX_member p1 p2 = S
  have hS : ∀ b, b ∈ ([33, 32] : List Nat) → b ∈ S := by rw [← hSe]; exact fun b hb => hb
  generalize hge : h0 = g at ⊢
  have f : Fr S h0 g := by rw [hge]; exact fun _ _ => rfl
  unfold mX_member at hm
  refine v_j1 (fun (x2 : Int32) => Fr S r.2 g) hm (fun x2 hm => ?_) (fun j1 kj1 hm => ?_)
  · obtain ⟨r3, -, hm⟩ := bd_s hm
    refine v_j1 (fun (x5 : Int32) => Fr S r.2 g) hm (fun x5 hm => ?_) (fun j4 kj4 hm => ?_)
    · obtain ⟨r6, h7, he, hm⟩ := bd2_s hm
      replace f := fr_tr f (fpX_tell _ _ _ _ _ _ he) (fun b hb => hS b (by simp only [FPdX_tell, List.mem_cons, List.not_mem_nil, or_false] at hb ⊢; omega))
      cases hm
      exact f
    · rcases ite_or hm with ⟨hc, hm⟩ | ⟨hc, hm⟩
      · exact kj4 _ hm
      · obtain ⟨r8, -, hm⟩ := bd_s hm
        rcases ite_or hm with ⟨hc, hm⟩ | ⟨hc, hm⟩
        · exact kj4 _ hm
        · exact kj4 _ hm
  · rcases ite_or hm with ⟨hc, hm⟩ | ⟨hc, hm⟩
    · exact kj1 _ hm
    · exact kj1 _ hm
def FPdX_game (p1 : Int32) (p2 : Int32) : List Nat := [103, 102]
theorem fpX_game (p1 : Int32) (p2 : Int32) (h0 : PH) {r : Int32 × PH} (hm : mX_game p1 p2 h0 = some r) : Fr (FPdX_game p1 p2) r.2 h0 := by
  generalize hSe : FPdX_game p1 p2 = S
  have hS : ∀ b, b ∈ ([103, 102] : List Nat) → b ∈ S := by rw [← hSe]; exact fun b hb => hb
  generalize hge : h0 = g at ⊢
  have f : Fr S h0 g := by rw [hge]; exact fun _ _ => rfl
  unfold mX_game at hm
  obtain ⟨r1, -, hm⟩ := bd_s hm
  rcases ite_or hm with ⟨hc, hm⟩ | ⟨hc, hm⟩
  · cases hm
    exact f
  · obtain ⟨r2, -, hm⟩ := bd_s hm
    rcases ite_or hm with ⟨hc, hm⟩ | ⟨hc, hm⟩
    · cases hm
      exact f
    · obtain ⟨r3, h4, he, hm⟩ := bd2_s hm
      replace f := fr_tr f (fpL_bestBite _ _ _ he) (fun b hb => hS b ((by decide +kernel : ∀ b, b ∈ ([103, 102] : List Nat) → b ∈ ([103, 102] : List Nat)) b hb))
      cases hm
      exact f
def FPdX_undo : List Nat := [70, 2, 1, 16]
theorem fpX_undo (h0 : PH) {r : Int32 × PH} (hm : mX_undo h0 = some r) : Fr (FPdX_undo ) r.2 h0 := by
  generalize hSe : FPdX_undo = S
  have hS : ∀ b, b ∈ ([70, 2, 1, 16] : List Nat) → b ∈ S := by rw [← hSe]; exact fun b hb => hb
  generalize hge : h0 = g at ⊢
  have f : Fr S h0 g := by rw [hge]; exact fun _ _ => rfl
  unfold mX_undo at hm
  rcases ite_or hm with ⟨hc, hm⟩ | ⟨hc, hm⟩
  · cases hm
    exact f
  · obtain ⟨r1, h2, he, hm⟩ := bd2_s hm
    replace f := fr_tr f (fpP_goBack _ _ he) (fun b hb => hS b (by simp only [FPdP_goBack, List.mem_cons, List.not_mem_nil, or_false] at hb ⊢; omega))
    obtain ⟨h3, e1, hm⟩ := lt_some hm
    replace f : Fr S h3 g := by rw [e1]; exact up_fr f (hS _ (by decide))
    cases hm
    exact f
def FPdX_image (p1 : Int32) : List Nat := [2, 1, 7, 6, 9, 8, 11, 10, 13, 12, 15, 14, 17, 16, 19, 18, 21, 20, 23, 22, 25, 24, 27, 26, 29, 28, 31, 30, 33, 32, 70, 38, 37, 41, 40, 43, 42, 45, 44, 47, 46, 49, 48, 51, 50, 53, 52, 55, 54, 57, 56, 59, 58, 61, 60, 63, 62, 65, 64, 67, 66, 0]
theorem fpX_image (p1 : Int32) (h0 : PH) {r : Int32 × PH} (hm : mX_image p1 h0 = some r) : Fr (FPdX_image p1) r.2 h0 := by
  generalize hSe : FPdX_image p1 = S
  have hS : ∀ b, b ∈ ([2, 1, 7, 6, 9, 8, 11, 10, 13, 12, 15, 14, 17, 16, 19, 18, 21, 20, 23, 22, 25, 24, 27, 26, 29, 28, 31, 30, 33, 32, 70, 38, 37, 41, 40, 43, 42, 45, 44, 47, 46, 49, 48, 51, 50, 53, 52, 55, 54, 57, 56, 59, 58, 61, 60, 63, 62, 65, 64, 67, 66, 0] : List Nat) → b ∈ S := by rw [← hSe]; exact fun b hb => hb
  generalize hge : h0 = g at ⊢
  have f : Fr S h0 g := by rw [hge]; exact fun _ _ => rfl
  unfold mX_image at hm
  rcases ite_or hm with ⟨hc, hm⟩ | ⟨hc, hm⟩
  · rcases ite_or hm with ⟨hc, hm⟩ | ⟨hc, hm⟩
    · cases hm
      exact f
    · obtain ⟨h1, he, hm⟩ := bd_s hm
      replace f := fr_tr f (fpB_copyFrom _ _ _ he) (fun b hb => hS b (by simp only [FPdB_copyFrom, List.mem_cons, List.not_mem_nil, or_false] at hb ⊢; omega))
      obtain ⟨h2, he, hm⟩ := bd_s hm
      replace f := fr_tr f (fpO_copyFrom _ _ _ he) (fun b hb => hS b ((by decide +kernel : ∀ b, b ∈ FPdO_copyFrom 5 39 → b ∈ ([2, 1, 7, 6, 9, 8, 11, 10, 13, 12, 15, 14, 17, 16, 19, 18, 21, 20, 23, 22, 25, 24, 27, 26, 29, 28, 31, 30, 33, 32, 70, 38, 37, 41, 40, 43, 42, 45, 44, 47, 46, 49, 48, 51, 50, 53, 52, 55, 54, 57, 56, 59, 58, 61, 60, 63, 62, 65, 64, 67, 66, 0] : List Nat)) b hb))
      obtain ⟨h3, he, hm⟩ := bd_s hm
      replace f := fr_tr f (fpP_forget _ he) (fun b hb => hS b ((by decide +kernel : ∀ b, b ∈ ([70] : List Nat) → b ∈ ([2, 1, 7, 6, 9, 8, 11, 10, 13, 12, 15, 14, 17, 16, 19, 18, 21, 20, 23, 22, 25, 24, 27, 26, 29, 28, 31, 30, 33, 32, 70, 38, 37, 41, 40, 43, 42, 45, 44, 47, 46, 49, 48, 51, 50, 53, 52, 55, 54, 57, 56, 59, 58, 61, 60, 63, 62, 65, 64, 67, 66, 0] : List Nat)) b hb))
      cases hm
      exact f
  · obtain ⟨h4, he, hm⟩ := bd_s hm
    replace f := fr_tr f (fpB_copyFrom _ _ _ he) (fun b hb => hS b (by simp only [FPdB_copyFrom, List.mem_cons, List.not_mem_nil, or_false] at hb ⊢; omega))
    obtain ⟨h5, he, hm⟩ := bd_s hm
    replace f := fr_tr f (fpO_copyFrom _ _ _ he) (fun b hb => hS b ((by decide +kernel : ∀ b, b ∈ FPdO_copyFrom 39 5 → b ∈ ([2, 1, 7, 6, 9, 8, 11, 10, 13, 12, 15, 14, 17, 16, 19, 18, 21, 20, 23, 22, 25, 24, 27, 26, 29, 28, 31, 30, 33, 32, 70, 38, 37, 41, 40, 43, 42, 45, 44, 47, 46, 49, 48, 51, 50, 53, 52, 55, 54, 57, 56, 59, 58, 61, 60, 63, 62, 65, 64, 67, 66, 0] : List Nat)) b hb))
    obtain ⟨h6, e1, hm⟩ := lt_some hm
    replace f : Fr S h6 g := by rw [e1]; exact up_fr f (hS _ (by decide))
    cases hm
    exact f
