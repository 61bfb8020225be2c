def FPdD_lawLine : List Nat := [90, 94, 93, 92, 91]
theorem fpD_lawLine (h0 : PH) {r : Int32 × PH} (hm : mD_lawLine h0 = some r) : Fr (FPdD_lawLine ) r.2 h0 := by
  generalize hSe : FPdD_lawLine = S
  have hS : ∀ b, b ∈ ([90, 94, 93, 92, 91] : List Nat) → b ∈ S := by rw [← hSe]; exact fun b hb => hb
  generalize hge : h0 = g at ⊢
  have f : Fr S h0 g := by rw [hge]; exact fun _ _ => rfl
  unfold mD_lawLine at hm
  obtain ⟨x1, -, hm⟩ := lt_some hm
  obtain ⟨h2, he, hm⟩ := bd_s hm
  replace f := fr_tr f (fpD_advance _ he) (fun b hb => hS b ((by decide : ∀ b, b ∈ ([90] : List Nat) → b ∈ ([90, 94, 93, 92, 91] : List Nat)) b hb))
  obtain ⟨x3, -, hm⟩ := lt_some hm
  obtain ⟨r4, h5, he, hm⟩ := bd2_s hm
  replace f := fr_tr f (fpD_expression _ he) (fun b hb => hS b ((by decide : ∀ b, b ∈ ([90, 94, 93] : List Nat) → b ∈ ([90, 94, 93, 92, 91] : List Nat)) b hb))
  rcases ite_or hm with ⟨hc, hm⟩ | ⟨hc, hm⟩
  · cases hm
    exact f
  · obtain ⟨x6, -, hm⟩ := lt_some hm
    obtain ⟨r7, -, hm⟩ := bd_s hm
    refine v_j1 (fun (h9 : PH) => Fr S h9 g → Fr S r.2 g) hm (fun h9 hm f => ?_) (fun j8 kj8 hm => ?_)
    · obtain ⟨r10, h11, he, hm⟩ := bd2_s hm
      replace f := fr_tr f (fpD_takesSign _ _ he) (fun b hb => hS b ((by decide : ∀ b, b ∈ ([90] : List Nat) → b ∈ ([90, 94, 93, 92, 91] : List Nat)) b hb))
      rcases ite_or hm with ⟨hc, hm⟩ | ⟨hc, hm⟩
      · cases hm
        exact f
      · obtain ⟨r12, h13, he, hm⟩ := bd2_s hm
        replace f := fr_tr f (fpR_add _ _ _ _ _ _ _ he) (fun b hb => hS b (by simp only [FPdR_add, List.mem_cons, List.not_mem_nil, or_false] at hb ⊢; omega))
        rcases ite_or hm with ⟨hc, hm⟩ | ⟨hc, hm⟩
        · cases hm
          exact f
        · cases hm
          exact f
    · rcases ite_or hm with ⟨hc, hm⟩ | ⟨hc, hm⟩
      · exact kj8 _ hm f
      · obtain ⟨h14, he, hm⟩ := bd_s hm
        replace f := fr_tr f (fpD_advance _ he) (fun b hb => hS b ((by decide : ∀ b, b ∈ ([90] : List Nat) → b ∈ ([90, 94, 93, 92, 91] : List Nat)) b hb))
        obtain ⟨r15, h16, he, hm⟩ := bd2_s hm
        replace f := fr_tr f (fpD_condition _ _ _ he) (fun b hb => hS b ((by decide : ∀ b, b ∈ ([94, 93, 90] : List Nat) → b ∈ ([90, 94, 93, 92, 91] : List Nat)) b hb))
        rcases ite_or hm with ⟨hc, hm⟩ | ⟨hc, hm⟩
        · cases hm
          exact f
        · exact kj8 _ hm f
def FPdD_skyLine : List Nat := [90, 92, 91]
theorem fpD_skyLine (h0 : PH) {r : Int32 × PH} (hm : mD_skyLine h0 = some r) : Fr (FPdD_skyLine ) r.2 h0 := by
  generalize hSe : FPdD_skyLine = S
  have hS : ∀ b, b ∈ ([90, 92, 91] : List Nat) → b ∈ S := by rw [← hSe]; exact fun b hb => hb
  generalize hge : h0 = g at ⊢
  have f : Fr S h0 g := by rw [hge]; exact fun _ _ => rfl
  unfold mD_skyLine at hm
  obtain ⟨h1, he, hm⟩ := bd_s hm
  replace f := fr_tr f (fpD_advance _ he) (fun b hb => hS b ((by decide : ∀ b, b ∈ ([90] : List Nat) → b ∈ ([90, 92, 91] : List Nat)) b hb))
  obtain ⟨r2, h3, he, hm⟩ := bd2_s hm
  replace f := fr_tr f (fpD_takesNumber _ _ _ he) (fun b hb => hS b ((by decide : ∀ b, b ∈ ([90] : List Nat) → b ∈ ([90, 92, 91] : List Nat)) b hb))
  rcases ite_or hm with ⟨hc, hm⟩ | ⟨hc, hm⟩
  · cases hm
    exact f
  · obtain ⟨x4, -, hm⟩ := lt_some hm
    refine v_j0 (Fr S r.2 g) hm (fun hm => ?_) (fun j5 kj5 hm => ?_)
    · obtain ⟨r6, h7, he, hm⟩ := bd2_s hm
      replace f := fr_tr f (fpD_refuse _ _ he) (fun b hb => hS b ((by decide : ∀ b, b ∈ ([90] : List Nat) → b ∈ ([90, 92, 91] : List Nat)) b hb))
      cases hm
      exact f
    · rcases ite_or hm with ⟨hc, hm⟩ | ⟨hc, hm⟩
      · obtain ⟨r8, -, hm⟩ := bd_s hm
        rcases ite_or hm with ⟨hc, hm⟩ | ⟨hc, hm⟩
        · exact kj5 hm
        · obtain ⟨x9, -, hm⟩ := lt_some hm
          obtain ⟨h10, he, hm⟩ := bd_s hm
          replace f := fr_tr f (fpD_advance _ he) (fun b hb => hS b ((by decide : ∀ b, b ∈ ([90] : List Nat) → b ∈ ([90, 92, 91] : List Nat)) b hb))
          refine v_j2 (fun (x12 : Int32) (h13 : PH) => Fr S h13 g → Fr S r.2 g) hm (fun x12 h13 hm f => ?_) (fun j11 kj11 hm => ?_)
          · obtain ⟨r14, h15, he, hm⟩ := bd2_s hm
            replace f := fr_tr f (fpD_takesSign _ _ he) (fun b hb => hS b ((by decide : ∀ b, b ∈ ([90] : List Nat) → b ∈ ([90, 92, 91] : List Nat)) b hb))
            rcases ite_or hm with ⟨hc, hm⟩ | ⟨hc, hm⟩
            · cases hm
              exact f
            · obtain ⟨r16, h17, he, hm⟩ := bd2_s hm
              replace f := fr_tr f (fpR_add _ _ _ _ _ _ _ he) (fun b hb => hS b (by simp only [FPdR_add, List.mem_cons, List.not_mem_nil, or_false] at hb ⊢; omega))
              rcases ite_or hm with ⟨hc, hm⟩ | ⟨hc, hm⟩
              · cases hm
                exact f
              · cases hm
                exact f
          · rcases ite_or hm with ⟨hc, hm⟩ | ⟨hc, hm⟩
            · obtain ⟨r18, h19, he, hm⟩ := bd2_s hm
              replace f := fr_tr f (fpD_takesNumber _ _ _ he) (fun b hb => hS b ((by decide : ∀ b, b ∈ ([90] : List Nat) → b ∈ ([90, 92, 91] : List Nat)) b hb))
              rcases ite_or hm with ⟨hc, hm⟩ | ⟨hc, hm⟩
              · cases hm
                exact f
              · obtain ⟨x20, -, hm⟩ := lt_some hm
                exact kj11 _ _ hm f
            · exact kj11 _ _ hm f
      · exact kj5 hm
def FPdD_officeLine : List Nat := [90, 92, 91]
theorem fpD_officeLine (h0 : PH) {r : Int32 × PH} (hm : mD_officeLine h0 = some r) : Fr (FPdD_officeLine ) r.2 h0 := by
  generalize hSe : FPdD_officeLine = S
  have hS : ∀ b, b ∈ ([90, 92, 91] : List Nat) → b ∈ S := by rw [← hSe]; exact fun b hb => hb
  generalize hge : h0 = g at ⊢
  have f : Fr S h0 g := by rw [hge]; exact fun _ _ => rfl
  unfold mD_officeLine at hm
  obtain ⟨h1, he, hm⟩ := bd_s hm
  replace f := fr_tr f (fpD_advance _ he) (fun b hb => hS b ((by decide : ∀ b, b ∈ ([90] : List Nat) → b ∈ ([90, 92, 91] : List Nat)) b hb))
  obtain ⟨r2, h3, he, hm⟩ := bd2_s hm
  replace f := fr_tr f (fpD_takesNumber _ _ _ he) (fun b hb => hS b ((by decide : ∀ b, b ∈ ([90] : List Nat) → b ∈ ([90, 92, 91] : List Nat)) b hb))
  rcases ite_or hm with ⟨hc, hm⟩ | ⟨hc, hm⟩
  · cases hm
    exact f
  · obtain ⟨x4, -, hm⟩ := lt_some hm
    refine v_j0 (Fr S r.2 g) hm (fun hm => ?_) (fun j5 kj5 hm => ?_)
    · obtain ⟨r6, h7, he, hm⟩ := bd2_s hm
      replace f := fr_tr f (fpD_refuse _ _ he) (fun b hb => hS b ((by decide : ∀ b, b ∈ ([90] : List Nat) → b ∈ ([90, 92, 91] : List Nat)) b hb))
      cases hm
      exact f
    · rcases ite_or hm with ⟨hc, hm⟩ | ⟨hc, hm⟩
      · obtain ⟨r8, -, hm⟩ := bd_s hm
        rcases ite_or hm with ⟨hc, hm⟩ | ⟨hc, hm⟩
        · exact kj5 hm
        · obtain ⟨x9, -, hm⟩ := lt_some hm
          obtain ⟨h10, he, hm⟩ := bd_s hm
          replace f := fr_tr f (fpD_advance _ he) (fun b hb => hS b ((by decide : ∀ b, b ∈ ([90] : List Nat) → b ∈ ([90, 92, 91] : List Nat)) b hb))
          obtain ⟨r11, h12, he, hm⟩ := bd2_s hm
          replace f := fr_tr f (fpD_takesNumber _ _ _ he) (fun b hb => hS b ((by decide : ∀ b, b ∈ ([90] : List Nat) → b ∈ ([90, 92, 91] : List Nat)) b hb))
          rcases ite_or hm with ⟨hc, hm⟩ | ⟨hc, hm⟩
          · cases hm
            exact f
          · obtain ⟨x13, -, hm⟩ := lt_some hm
            refine v_j2 (fun (x15 : Int32) (h16 : PH) => Fr S h16 g → Fr S r.2 g) hm (fun x15 h16 hm f => ?_) (fun j14 kj14 hm => ?_)
            · refine v_j2 (fun (x18 : Int32) (h19 : PH) => Fr S h19 g → Fr S r.2 g) hm (fun x18 h19 hm f => ?_) (fun j17 kj17 hm => ?_)
              · obtain ⟨r20, h21, he, hm⟩ := bd2_s hm
                replace f := fr_tr f (fpD_takesSign _ _ he) (fun b hb => hS b ((by decide : ∀ b, b ∈ ([90] : List Nat) → b ∈ ([90, 92, 91] : List Nat)) b hb))
                rcases ite_or hm with ⟨hc, hm⟩ | ⟨hc, hm⟩
                · cases hm
                  exact f
                · obtain ⟨r22, h23, he, hm⟩ := bd2_s hm
                  replace f := fr_tr f (fpR_add _ _ _ _ _ _ _ he) (fun b hb => hS b (by simp only [FPdR_add, List.mem_cons, List.not_mem_nil, or_false] at hb ⊢; omega))
                  rcases ite_or hm with ⟨hc, hm⟩ | ⟨hc, hm⟩
                  · cases hm
                    exact f
                  · cases hm
                    exact f
              · refine v_j0 (Fr S r.2 g) hm (fun hm => ?_) (fun j24 kj24 hm => ?_)
                · obtain ⟨r25, h26, he, hm⟩ := bd2_s hm
                  replace f := fr_tr f (fpD_takesNumber _ _ _ he) (fun b hb => hS b ((by decide : ∀ b, b ∈ ([90] : List Nat) → b ∈ ([90, 92, 91] : List Nat)) b hb))
                  rcases ite_or hm with ⟨hc, hm⟩ | ⟨hc, hm⟩
                  · cases hm
                    exact f
                  · obtain ⟨x27, -, hm⟩ := lt_some hm
                    exact kj17 _ _ hm f
                · rcases ite_or hm with ⟨hc, hm⟩ | ⟨hc, hm⟩
                  · exact kj24 hm
                  · rcases ite_or hm with ⟨hc, hm⟩ | ⟨hc, hm⟩
                    · exact kj24 hm
                    · exact kj17 _ _ hm f
            · rcases ite_or hm with ⟨hc, hm⟩ | ⟨hc, hm⟩
              · obtain ⟨r28, h29, he, hm⟩ := bd2_s hm
                replace f := fr_tr f (fpD_takesNumber _ _ _ he) (fun b hb => hS b ((by decide : ∀ b, b ∈ ([90] : List Nat) → b ∈ ([90, 92, 91] : List Nat)) b hb))
                rcases ite_or hm with ⟨hc, hm⟩ | ⟨hc, hm⟩
                · cases hm
                  exact f
                · obtain ⟨x30, -, hm⟩ := lt_some hm
                  exact kj14 _ _ hm f
              · exact kj14 _ _ hm f
      · exact kj5 hm
def FPdD_nextLine : List Nat := [90, 92, 91]
theorem fpD_nextLine (h0 : PH) {r : Int32 × PH} (hm : mD_nextLine h0 = some r) : Fr (FPdD_nextLine ) r.2 h0 := by
  generalize hSe : FPdD_nextLine = S
  have hS : ∀ b, b ∈ ([90, 92, 91] : List Nat) → b ∈ S := by rw [← hSe]; exact fun b hb => hb
  generalize hge : h0 = g at ⊢
  have f : Fr S h0 g := by rw [hge]; exact fun _ _ => rfl
  unfold mD_nextLine at hm
  obtain ⟨h1, he, hm⟩ := bd_s hm
  replace f := fr_tr f (fpD_advance _ he) (fun b hb => hS b ((by decide : ∀ b, b ∈ ([90] : List Nat) → b ∈ ([90, 92, 91] : List Nat)) b hb))
  obtain ⟨r2, h3, he, hm⟩ := bd2_s hm
  replace f := fr_tr f (fpD_takesNumber _ _ _ he) (fun b hb => hS b ((by decide : ∀ b, b ∈ ([90] : List Nat) → b ∈ ([90, 92, 91] : List Nat)) b hb))
  rcases ite_or hm with ⟨hc, hm⟩ | ⟨hc, hm⟩
  · cases hm
    exact f
  · obtain ⟨x4, -, hm⟩ := lt_some hm
    obtain ⟨r5, -, hm⟩ := bd_s hm
    rcases ite_or hm with ⟨hc, hm⟩ | ⟨hc, hm⟩
    · obtain ⟨r6, h7, he, hm⟩ := bd2_s hm
      replace f := fr_tr f (fpD_refuse _ _ he) (fun b hb => hS b ((by decide : ∀ b, b ∈ ([90] : List Nat) → b ∈ ([90, 92, 91] : List Nat)) b hb))
      cases hm
      exact f
    · obtain ⟨h8, he, hm⟩ := bd_s hm
      replace f := fr_tr f (fpD_advance _ he) (fun b hb => hS b ((by decide : ∀ b, b ∈ ([90] : List Nat) → b ∈ ([90, 92, 91] : List Nat)) b hb))
      refine v_j0 (Fr S r.2 g) hm (fun hm => ?_) (fun j9 kj9 hm => ?_)
      · obtain ⟨r10, h11, he, hm⟩ := bd2_s hm
        replace f := fr_tr f (fpD_takesNumber _ _ _ he) (fun b hb => hS b ((by decide : ∀ b, b ∈ ([90] : List Nat) → b ∈ ([90, 92, 91] : List Nat)) b hb))
        rcases ite_or hm with ⟨hc, hm⟩ | ⟨hc, hm⟩
        · cases hm
          exact f
        · obtain ⟨r12, h13, he, hm⟩ := bd2_s hm
          replace f := fr_tr f (fpD_takesSign _ _ he) (fun b hb => hS b ((by decide : ∀ b, b ∈ ([90] : List Nat) → b ∈ ([90, 92, 91] : List Nat)) b hb))
          rcases ite_or hm with ⟨hc, hm⟩ | ⟨hc, hm⟩
          · cases hm
            exact f
          · obtain ⟨r14, h15, he, hm⟩ := bd2_s hm
            replace f := fr_tr f (fpR_add _ _ _ _ _ _ _ he) (fun b hb => hS b (by simp only [FPdR_add, List.mem_cons, List.not_mem_nil, or_false] at hb ⊢; omega))
            rcases ite_or hm with ⟨hc, hm⟩ | ⟨hc, hm⟩
            · cases hm
              exact f
            · cases hm
              exact f
      · rcases ite_or hm with ⟨hc, hm⟩ | ⟨hc, hm⟩
        · rcases ite_or hm with ⟨hc, hm⟩ | ⟨hc, hm⟩
          · obtain ⟨r16, h17, he, hm⟩ := bd2_s hm
            replace f := fr_tr f (fpD_refuse _ _ he) (fun b hb => hS b ((by decide : ∀ b, b ∈ ([90] : List Nat) → b ∈ ([90, 92, 91] : List Nat)) b hb))
            cases hm
            exact f
          · exact kj9 hm
        · exact kj9 hm
def FPdD_reads (p1 : Int32) (p2 : Int32) : List Nat := [85, 87, 88, 89, 90, 91, 93, 94, 92]
theorem wf_D_reads_L43 (p1 : Int32) (k0 : PH → Option (Int32 × PH)) (k1 : PH → Option (Int32 × PH)) (S : List Nat) (g : PH) (r : Int32 × PH) (hS : ∀ b, b ∈ ([90, 94, 93, 92, 91] : List Nat) → b ∈ S) (kk0 : ∀ (y0 : PH), k0 y0 = some r → Fr S y0 g → Fr S r.2 g) (kk1 : ∀ (y0 : PH), k1 y0 = some r → Fr S y0 g → Fr S r.2 g) : ∀ (n : Nat) (v3 : Int32) (hv : PH), mD_reads_L43 p1 k0 k1 n v3 hv = some r → Fr S hv g → Fr S r.2 g := by
  intro n
  induction n with
  | zero => intro v3 hv hm; cases hm
  | succ n ih =>
    intro v3 hv hm f
    unfold mD_reads_L43 at hm
    rcases ite_or hm with ⟨hc, hm⟩ | ⟨hc, hm⟩
    · cases hm
      exact f
    · rcases ite_or hm with ⟨hc, hm⟩ | ⟨hc, hm⟩
      · cases hm
        exact f
      · rcases ite_or hm with ⟨hc, hm⟩ | ⟨hc, hm⟩
        · refine v_j1 (fun (x9 : Int32) => Fr S r.2 g) hm (fun x9 hm => ?_) (fun j8 kj8 hm => ?_)
          · rcases ite_or hm with ⟨hc, hm⟩ | ⟨hc, hm⟩
            · rcases ite_or hm with ⟨hc, hm⟩ | ⟨hc, hm⟩
              · exact kk1 _ hm f
              · refine v_j2 (fun (x11 : Int32) (h12 : PH) => Fr S h12 g → Fr S r.2 g) hm (fun x11 h12 hm f => ?_) (fun j10 kj10 hm => ?_)
                · rcases ite_or hm with ⟨hc, hm⟩ | ⟨hc, hm⟩
                  · cases hm
                    exact f
                  · exact ih _ _ hm f
                · rcases ite_or hm with ⟨hc, hm⟩ | ⟨hc, hm⟩
                  · obtain ⟨r13, h14, he, hm⟩ := bd2_s hm
                    replace f := fr_tr f (fpD_lawLine _ he) (fun b hb => hS b ((by decide : ∀ b, b ∈ ([90, 94, 93, 92, 91] : List Nat) → b ∈ ([90, 94, 93, 92, 91] : List Nat)) b hb))
                    exact kj10 _ _ hm f
                  · rcases ite_or hm with ⟨hc, hm⟩ | ⟨hc, hm⟩
                    · obtain ⟨r15, h16, he, hm⟩ := bd2_s hm
                      replace f := fr_tr f (fpD_skyLine _ he) (fun b hb => hS b ((by decide : ∀ b, b ∈ ([90, 92, 91] : List Nat) → b ∈ ([90, 94, 93, 92, 91] : List Nat)) b hb))
                      exact kj10 _ _ hm f
                    · rcases ite_or hm with ⟨hc, hm⟩ | ⟨hc, hm⟩
                      · obtain ⟨r17, h18, he, hm⟩ := bd2_s hm
                        replace f := fr_tr f (fpD_officeLine _ he) (fun b hb => hS b ((by decide : ∀ b, b ∈ ([90, 92, 91] : List Nat) → b ∈ ([90, 94, 93, 92, 91] : List Nat)) b hb))
                        exact kj10 _ _ hm f
                      · obtain ⟨r19, h20, he, hm⟩ := bd2_s hm
                        replace f := fr_tr f (fpD_nextLine _ he) (fun b hb => hS b ((by decide : ∀ b, b ∈ ([90, 92, 91] : List Nat) → b ∈ ([90, 94, 93, 92, 91] : List Nat)) b hb))
                        exact kj10 _ _ hm f
            · exact kk0 _ hm f
          · rcases ite_or hm with ⟨hc, hm⟩ | ⟨hc, hm⟩
            · exact kj8 _ hm
            · exact kj8 _ hm
        · exact kk0 _ hm f
theorem fpD_reads (p1 : Int32) (p2 : Int32) (h0 : PH) {r : Int32 × PH} (hm : mD_reads p1 p2 h0 = some r) : Fr (FPdD_reads p1 p2) r.2 h0 := by
  generalize hSe : FPdD_reads p1 p2 = S
  have hS : ∀ b, b ∈ ([85, 87, 88, 89, 90, 91, 93, 94, 92] : List Nat) → b ∈ S := by rw [← hSe]; exact fun b hb => hb
  generalize hge : h0 = g at ⊢
  have f : Fr S h0 g := by rw [hge]; exact fun _ _ => rfl
  unfold mD_reads at hm
  obtain ⟨r1, -, hm⟩ := bd_s hm
  obtain ⟨h2, he, hm⟩ := bd_s hm
  replace f := fr_tr f (fpA_scan _ _ he) (fun b hb => hS b ((by decide : ∀ b, b ∈ ([85, 87, 88, 89] : List Nat) → b ∈ ([85, 87, 88, 89, 90, 91, 93, 94, 92] : List Nat)) b hb))
  obtain ⟨h3, e1, hm⟩ := lt_some hm
  replace f : Fr S h3 g := by rw [e1]; exact up_fr f (hS _ (by decide))
  obtain ⟨h4, e1, hm⟩ := lt_some hm
  replace f : Fr S h4 g := by rw [e1]; exact up_fr f (hS _ (by decide))
  obtain ⟨h5, e1, hm⟩ := lt_some hm
  replace f : Fr S h5 g := by rw [e1]; exact up_fr f (hS _ (by decide))
  obtain ⟨h6, e1, hm⟩ := lt_some hm
  replace f : Fr S h6 g := by rw [e1]; exact up_fr f (hS _ (by decide))
  obtain ⟨h7, he, hm⟩ := bd_s hm
  replace f := fr_tr f (fpD_advance _ he) (fun b hb => hS b ((by decide : ∀ b, b ∈ ([90] : List Nat) → b ∈ ([85, 87, 88, 89, 90, 91, 93, 94, 92] : List Nat)) b hb))
  refine wf_D_reads_L43 _ _ _ S g _ (fun b hb => hS b ((by decide : ∀ b, b ∈ ([90, 94, 93, 92, 91] : List Nat) → b ∈ ([85, 87, 88, 89, 90, 91, 93, 94, 92] : List Nat)) b hb)) (fun h21 hm f => ?_) (fun h24 hm f => ?_) _ _ _ hm f
  · obtain ⟨r22, h23, he, hm⟩ := bd2_s hm
    replace f := fr_tr f (fpD_refuse _ _ he) (fun b hb => hS b ((by decide : ∀ b, b ∈ ([90] : List Nat) → b ∈ ([85, 87, 88, 89, 90, 91, 93, 94, 92] : List Nat)) b hb))
    cases hm
    exact f
  · obtain ⟨r25, h26, he, hm⟩ := bd2_s hm
    replace f := fr_tr f (fpD_refuse _ _ he) (fun b hb => hS b ((by decide : ∀ b, b ∈ ([90] : List Nat) → b ∈ ([85, 87, 88, 89, 90, 91, 93, 94, 92] : List Nat)) b hb))
    cases hm
    exact f
def FPdX_state (p1 : Int32) : List Nat := [1, 70]
theorem fpX_state (p1 : Int32) (h0 : PH) {r : Int32 × PH} (hm : mX_state p1 h0 = some r) : Fr (FPdX_state p1) r.2 h0 := by
  generalize hSe : FPdX_state p1 = S
  have hS : ∀ b, b ∈ ([1, 70] : List Nat) → b ∈ S := by rw [← hSe]; exact fun b hb => hb
  generalize hge : h0 = g at ⊢
  have f : Fr S h0 g := by rw [hge]; exact fun _ _ => rfl
  unfold mX_state at hm
  obtain ⟨x1, -, hm⟩ := lt_some hm
  obtain ⟨h2, e1, hm⟩ := lt_some hm
  replace f : Fr S h2 g := by rw [e1]; exact up_fr f (hS _ (by decide))
  obtain ⟨h3, he, hm⟩ := bd_s hm
  replace f := fr_tr f (fpP_forget _ he) (fun b hb => hS b ((by decide : ∀ b, b ∈ ([70] : List Nat) → b ∈ ([1, 70] : List Nat)) b hb))
  cases hm
  exact f
def FPdX_house (p1 : Int32) (p2 : Int32) (p3 : Int32) : List Nat := [70, 1, 2]
theorem fpX_house (p1 : Int32) (p2 : Int32) (p3 : Int32) (h0 : PH) {r : Int32 × PH} (hm : mX_house p1 p2 p3 h0 = some r) : Fr (FPdX_house p1 p2 p3) r.2 h0 := by
  generalize hSe : FPdX_house p1 p2 p3 = S
  have hS : ∀ b, b ∈ ([70, 1, 2] : List Nat) → b ∈ S := by rw [← hSe]; exact fun b hb => hb
  generalize hge : h0 = g at ⊢
  have f : Fr S h0 g := by rw [hge]; exact fun _ _ => rfl
  unfold mX_house at hm
  obtain ⟨r1, -, hm⟩ := bd_s hm
  refine v_j1 (fun (x3 : Int32) => Fr S r.2 g) hm (fun x3 hm => ?_) (fun j2 kj2 hm => ?_)
  · rcases ite_or hm with ⟨hc, hm⟩ | ⟨hc, hm⟩
    · cases hm
      exact f
    · rcases ite_or hm with ⟨hc, hm⟩ | ⟨hc, hm⟩
      · obtain ⟨h4, he, hm⟩ := bd_s hm
        replace f := fr_tr f (fpP_forget _ he) (fun b hb => hS b ((by decide : ∀ b, b ∈ ([70] : List Nat) → b ∈ ([70, 1, 2] : List Nat)) b hb))
        obtain ⟨r5, h6, he, hm⟩ := bd2_s hm
        replace f := fr_tr f (fpB_build _ _ _ _ _ he) (fun b hb => hS b (by simp only [FPdB_build, List.mem_cons, List.not_mem_nil, or_false] at hb ⊢; omega))
        cases hm
        exact f
      · cases hm
        exact f
  · rcases ite_or hm with ⟨hc, hm⟩ | ⟨hc, hm⟩
    · exact kj2 _ hm
    · obtain ⟨r7, -, hm⟩ := bd_s hm
      rcases ite_or hm with ⟨hc, hm⟩ | ⟨hc, hm⟩
      · exact kj2 _ hm
      · obtain ⟨r8, -, hm⟩ := bd_s hm
        rcases ite_or hm with ⟨hc, hm⟩ | ⟨hc, hm⟩
        · exact kj2 _ hm
        · exact kj2 _ hm
def FPdX_set (p1 : Int32) (p2 : Int32) (p3 : Int32) : List Nat := [70, 1, 2]
theorem fpX_set (p1 : Int32) (p2 : Int32) (p3 : Int32) (h0 : PH) {r : Int32 × PH} (hm : mX_set p1 p2 p3 h0 = some r) : Fr (FPdX_set p1 p2 p3) r.2 h0 := by
  generalize hSe : FPdX_set p1 p2 p3 = S
  have hS : ∀ b, b ∈ ([70, 1, 2] : List Nat) → b ∈ S := by rw [← hSe]; exact fun b hb => hb
  generalize hge : h0 = g at ⊢
  have f : Fr S h0 g := by rw [hge]; exact fun _ _ => rfl
  unfold mX_set at hm
  refine v_j1 (fun (h2 : PH) => Fr S h2 g → Fr S r.2 g) hm (fun h2 hm f => ?_) (fun j1 kj1 hm => ?_)
  · obtain ⟨h3, he, hm⟩ := bd_s hm
    replace f := fr_tr f (fpP_forget _ he) (fun b hb => hS b ((by decide : ∀ b, b ∈ ([70] : List Nat) → b ∈ ([70, 1, 2] : List Nat)) b hb))
    cases hm
    exact f
  · rcases ite_or hm with ⟨hc, hm⟩ | ⟨hc, hm⟩
    · obtain ⟨r4, -, hm⟩ := bd_s hm
      rcases ite_or hm with ⟨hc, hm⟩ | ⟨hc, hm⟩
      · cases hm
        exact f
      · obtain ⟨h5, e1, hm⟩ := lt_some hm
        replace f : Fr S h5 g := by rw [e1]; exact up_fr f (hS _ (by decide))
        exact kj1 _ hm f
    · obtain ⟨r6, -, hm⟩ := bd_s hm
      rcases ite_or hm with ⟨hc, hm⟩ | ⟨hc, hm⟩
      · cases hm
        exact f
      · obtain ⟨r7, -, hm⟩ := bd_s hm
        rcases ite_or hm with ⟨hc, hm⟩ | ⟨hc, hm⟩
        · cases hm
          exact f
        · obtain ⟨r8, -, hm⟩ := bd_s hm
          obtain ⟨r9, -, hm⟩ := bd_s hm
          rcases ite_or hm with ⟨hc, hm⟩ | ⟨hc, hm⟩
          · cases hm
            exact f
          · obtain ⟨h10, he, hm⟩ := bd_s hm
            replace f := fr_tr f (fpB_write _ _ _ _ _ he) (fun b hb => hS b (by simp only [FPdB_write, List.mem_cons, List.not_mem_nil, or_false] at hb ⊢; omega))
            exact kj1 _ hm f
def FPdX_act (p1 : Int32) (p2 : Int32) (p3 : Int32) : List Nat := [73, 74, 75, 76, 77, 78, 79, 80, 81, 82, 83, 84, 72, 70, ((sT 68) + 1), 17, 16, (sT 68)]
theorem fpX_act (p1 : Int32) (p2 : Int32) (p3 : Int32) (h0 : PH) {r : Int32 × PH} (hm : mX_act p1 p2 p3 h0 = some r) : Fr (FPdX_act p1 p2 p3) r.2 h0 := by
  generalize hSe : FPdX_act p1 p2 p3 = S
  have hS : ∀ b, b ∈ ([73, 74, 75, 76, 77, 78, 79, 80, 81, 82, 83, 84, 72, 70, ((sT 68) + 1), 17, 16, (sT 68)] : List Nat) → b ∈ S := by rw [← hSe]; exact fun b hb => hb
  generalize hge : h0 = g at ⊢
  have f : Fr S h0 g := by rw [hge]; exact fun _ _ => rfl
  unfold mX_act at hm
  obtain ⟨r1, -, hm⟩ := bd_s hm
  rcases ite_or hm with ⟨hc, hm⟩ | ⟨hc, hm⟩
  · cases hm
    exact f
  · obtain ⟨h2, he, hm⟩ := bd_s hm
    replace f := fr_tr f (fpP_keep _ _ _ he) (fun b hb => hS b (by simp only [FPdP_keep, List.mem_cons, List.not_mem_nil, or_false] at hb ⊢; omega))
    obtain ⟨h3, he, hm⟩ := bd_s hm
    replace f := fr_tr f (fpS_actByHand _ _ _ _ _ he) (fun b hb => hS b (by simp only [FPdS_actByHand, List.mem_cons, List.not_mem_nil, or_false] at hb ⊢; omega))
    cases hm
    exact f
def FPdX_quarters (p1 : Int32) : List Nat := [73, 74, 75, 76, 77, 78, 79, 80, 81, 82, 83, 84, 72, 70, (sT 68), ((sT 68) + 1), 17, 16, 34, 36, 35]
theorem wf_X_quarters_L31 (p1 : Int32) (S : List Nat) (g : PH) (r : Int32 × PH) (hS : ∀ b, b ∈ ([73, 74, 75, 76, 77, 78, 79, 80, 81, 82, 83, 84, 72, 70, (sT 68), ((sT 68) + 1), 17, 16, 34, 36, 35] : List Nat) → b ∈ S) : ∀ (n : Nat) (v2 : Int32) (v3 : Int32) (hv : PH), mX_quarters_L31 p1 n v2 v3 hv = some r → Fr S hv g → Fr S r.2 g := by
  intro n
  induction n with
  | zero => intro v2 v3 hv hm; cases hm
  | succ n ih =>
    intro v2 v3 hv hm f
    unfold mX_quarters_L31 at hm
    rcases ite_or hm with ⟨hc, hm⟩ | ⟨hc, hm⟩
    · cases hm
      exact f
    · obtain ⟨h2, he, hm⟩ := bd_s hm
      replace f := fr_tr f (fpP_keep _ _ _ he) (fun b hb => hS b (by simp only [FPdP_keep, List.mem_cons, List.not_mem_nil, or_false] at hb ⊢; omega))
      obtain ⟨r3, h4, he, hm⟩ := bd2_s hm
      replace f := fr_tr f (fpS_pass _ _ he) (fun b hb => hS b (by simp only [FPdS_pass, List.mem_cons, List.not_mem_nil, or_false] at hb ⊢; omega))
      obtain ⟨x5, -, hm⟩ := lt_some hm
      exact ih _ _ _ hm f
theorem fpX_quarters (p1 : Int32) (h0 : PH) {r : Int32 × PH} (hm : mX_quarters p1 h0 = some r) : Fr (FPdX_quarters p1) r.2 h0 := by
  generalize hSe : FPdX_quarters p1 = S
  have hS : ∀ b, b ∈ ([73, 74, 75, 76, 77, 78, 79, 80, 81, 82, 83, 84, 72, 70, (sT 68), ((sT 68) + 1), 17, 16, 34, 36, 35] : List Nat) → b ∈ S := by rw [← hSe]; exact fun b hb => hb
  generalize hge : h0 = g at ⊢
  have f : Fr S h0 g := by rw [hge]; exact fun _ _ => rfl
  unfold mX_quarters at hm
  obtain ⟨r1, -, hm⟩ := bd_s hm
  rcases ite_or hm with ⟨hc, hm⟩ | ⟨hc, hm⟩
  · cases hm
    exact f
  · rcases ite_or hm with ⟨hc, hm⟩ | ⟨hc, hm⟩
    · exact wf_X_quarters_L31 _ S g _ (fun b hb => hS b (by first | exact absurd hb List.not_mem_nil | (simp only [List.mem_cons, List.not_mem_nil, or_false] at hb ⊢; omega))) _ _ _ _ hm f
    · cases hm
      exact f
def FPdX_feed (p1 : Int32) (p2 : Int32) (p3 : Int32) (p4 : Int32) (p5 : Int32) : List Nat := [86, 85]
theorem fpX_feed (p1 : Int32) (p2 : Int32) (p3 : Int32) (p4 : Int32) (p5 : Int32) (h0 : PH) {r : Int32 × PH} (hm : mX_feed p1 p2 p3 p4 p5 h0 = some r) : Fr (FPdX_feed p1 p2 p3 p4 p5) r.2 h0 := by
  generalize hSe : FPdX_feed p1 p2 p3 p4 p5 = S
  have hS : ∀ b, b ∈ ([86, 85] : List Nat) → b ∈ S := by rw [← hSe]; exact fun b hb => hb
  generalize hge : h0 = g at ⊢
  have f : Fr S h0 g := by rw [hge]; exact fun _ _ => rfl
  unfold mX_feed at hm
  rcases ite_or hm with ⟨hc, hm⟩ | ⟨hc, hm⟩
  · obtain ⟨h1, he, hm⟩ := bd_s hm
    replace f := fr_tr f (fpA_take _ _ he) (fun b hb => hS b ((by decide : ∀ b, b ∈ ([86, 85] : List Nat) → b ∈ ([86, 85] : List Nat)) b hb))
    obtain ⟨h2, he, hm⟩ := bd_s hm
    replace f := fr_tr f (fpA_take _ _ he) (fun b hb => hS b ((by decide : ∀ b, b ∈ ([86, 85] : List Nat) → b ∈ ([86, 85] : List Nat)) b hb))
    obtain ⟨h3, he, hm⟩ := bd_s hm
    replace f := fr_tr f (fpA_take _ _ he) (fun b hb => hS b ((by decide : ∀ b, b ∈ ([86, 85] : List Nat) → b ∈ ([86, 85] : List Nat)) b hb))
    obtain ⟨h4, he, hm⟩ := bd_s hm
    replace f := fr_tr f (fpA_take _ _ he) (fun b hb => hS b ((by decide : ∀ b, b ∈ ([86, 85] : List Nat) → b ∈ ([86, 85] : List Nat)) b hb))
    obtain ⟨h5, he, hm⟩ := bd_s hm
    replace f := fr_tr f (fpA_take _ _ he) (fun b hb => hS b ((by decide : ∀ b, b ∈ ([86, 85] : List Nat) → b ∈ ([86, 85] : List Nat)) b hb))
    cases hm
    exact f
  · cases hm
    exact f
def FPdX_end (p1 : Int32) : List Nat := [85]
theorem fpX_end (p1 : Int32) (h0 : PH) {r : Int32 × PH} (hm : mX_end p1 h0 = some r) : Fr (FPdX_end p1) r.2 h0 := by
  generalize hSe : FPdX_end p1 = S
  have hS : ∀ b, b ∈ ([85] : List Nat) → b ∈ S := by rw [← hSe]; exact fun b hb => hb
  generalize hge : h0 = g at ⊢
  have f : Fr S h0 g := by rw [hge]; exact fun _ _ => rfl
  unfold mX_end at hm
  rcases ite_or hm with ⟨hc, hm⟩ | ⟨hc, hm⟩
  · cases hm
    exact f
  · rcases ite_or hm with ⟨hc, hm⟩ | ⟨hc, hm⟩
    · obtain ⟨h1, e1, hm⟩ := lt_some hm
      replace f : Fr S h1 g := by rw [e1]; exact up_fr f (hS _ (by decide))
      cases hm
      exact f
    · cases hm
      exact f
def FPdX_keepText (p1 : Int32) : List Nat := [7, 6, 9, 8, 11, 10, 70, 13, 12, 15, 14]
theorem fpX_keepText (p1 : Int32) (h0 : PH) {r : Int32 × PH} (hm : mX_keepText p1 h0 = some r) : Fr (FPdX_keepText p1) r.2 h0 := by
  generalize hSe : FPdX_keepText p1 = S
  have hS : ∀ b, b ∈ ([7, 6, 9, 8, 11, 10, 70, 13, 12, 15, 14] : List Nat) → b ∈ S := by rw [← hSe]; exact fun b hb => hb
  generalize hge : h0 = g at ⊢
  have f : Fr S h0 g := by rw [hge]; exact fun _ _ => rfl
  unfold mX_keepText at hm
  rcases ite_or hm with ⟨hc, hm⟩ | ⟨hc, hm⟩
  · obtain ⟨h1, he, hm⟩ := bd_s hm
    replace f := fr_tr f (fpR_copyFrom _ _ _ he) (fun b hb => hS b (by simp only [FPdR_copyFrom, List.mem_cons, List.not_mem_nil, or_false] at hb ⊢; omega))
    obtain ⟨h2, he, hm⟩ := bd_s hm
    replace f := fr_tr f (fpR_copyFrom _ _ _ he) (fun b hb => hS b (by simp only [FPdR_copyFrom, List.mem_cons, List.not_mem_nil, or_false] at hb ⊢; omega))
    cases hm
    exact f
  · rcases ite_or hm with ⟨hc, hm⟩ | ⟨hc, hm⟩
    · obtain ⟨h3, he, hm⟩ := bd_s hm
      replace f := fr_tr f (fpR_copyFrom _ _ _ he) (fun b hb => hS b (by simp only [FPdR_copyFrom, List.mem_cons, List.not_mem_nil, or_false] at hb ⊢; omega))
      obtain ⟨h4, he, hm⟩ := bd_s hm
      replace f := fr_tr f (fpP_forget _ he) (fun b hb => hS b ((by decide : ∀ b, b ∈ ([70] : List Nat) → b ∈ ([7, 6, 9, 8, 11, 10, 70, 13, 12, 15, 14] : List Nat)) b hb))
      cases hm
      exact f
    · rcases ite_or hm with ⟨hc, hm⟩ | ⟨hc, hm⟩
      · obtain ⟨h5, he, hm⟩ := bd_s hm
        replace f := fr_tr f (fpR_copyFrom _ _ _ he) (fun b hb => hS b (by simp only [FPdR_copyFrom, List.mem_cons, List.not_mem_nil, or_false] at hb ⊢; omega))
        obtain ⟨h6, he, hm⟩ := bd_s hm
        replace f := fr_tr f (fpP_forget _ he) (fun b hb => hS b ((by decide : ∀ b, b ∈ ([70] : List Nat) → b ∈ ([7, 6, 9, 8, 11, 10, 70, 13, 12, 15, 14] : List Nat)) b hb))
        cases hm
        exact f
      · obtain ⟨h7, he, hm⟩ := bd_s hm
        replace f := fr_tr f (fpR_copyFrom _ _ _ he) (fun b hb => hS b (by simp only [FPdR_copyFrom, List.mem_cons, List.not_mem_nil, or_false] at hb ⊢; omega))
        cases hm
        exact f
def FPdX_text (p1 : Int32) : List Nat := [90, 85, 7, 6, 9, 8, 11, 10, 70, 13, 12, 15, 14, 87, 88, 89, 91, 93, 94, 92]
theorem fpX_text (p1 : Int32) (h0 : PH) {r : Int32 × PH} (hm : mX_text p1 h0 = some r) : Fr (FPdX_text p1) r.2 h0 := by
  generalize hSe : FPdX_text p1 = S
  have hS : ∀ b, b ∈ ([90, 85, 7, 6, 9, 8, 11, 10, 70, 13, 12, 15, 14, 87, 88, 89, 91, 93, 94, 92] : List Nat) → b ∈ S := by rw [← hSe]; exact fun b hb => hb
  generalize hge : h0 = g at ⊢
  have f : Fr S h0 g := by rw [hge]; exact fun _ _ => rfl
  unfold mX_text at hm
  obtain ⟨h1, he, hm⟩ := bd_s hm
  replace f := fr_tr f (fpD_forgetFault _ he) (fun b hb => hS b ((by decide : ∀ b, b ∈ ([90] : List Nat) → b ∈ ([90, 85, 7, 6, 9, 8, 11, 10, 70, 13, 12, 15, 14, 87, 88, 89, 91, 93, 94, 92] : List Nat)) b hb))
  obtain ⟨r2, -, hm⟩ := bd_s hm
  refine v_j2 (fun (x4 : Int32) (h5 : PH) => Fr S h5 g → Fr S r.2 g) hm (fun x4 h5 hm f => ?_) (fun j3 kj3 hm => ?_)
  · obtain ⟨h6, e1, hm⟩ := lt_some hm
    replace f : Fr S h6 g := by rw [e1]; exact up_fr f (hS _ (by decide))
    rcases ite_or hm with ⟨hc, hm⟩ | ⟨hc, hm⟩
    · cases hm
      exact f
    · obtain ⟨r7, h8, he, hm⟩ := bd2_s hm
      replace f := fr_tr f (fpX_keepText _ _ he) (fun b hb => hS b ((by decide : ∀ b, b ∈ ([7, 6, 9, 8, 11, 10, 70, 13, 12, 15, 14] : List Nat) → b ∈ ([90, 85, 7, 6, 9, 8, 11, 10, 70, 13, 12, 15, 14, 87, 88, 89, 91, 93, 94, 92] : List Nat)) b hb))
      cases hm
      exact f
  · rcases ite_or hm with ⟨hc, hm⟩ | ⟨hc, hm⟩
    · exact kj3 _ _ hm f
    · obtain ⟨r9, h10, he, hm⟩ := bd2_s hm
      replace f := fr_tr f (fpD_reads _ _ _ he) (fun b hb => hS b ((by decide : ∀ b, b ∈ ([85, 87, 88, 89, 90, 91, 93, 94, 92] : List Nat) → b ∈ ([90, 85, 7, 6, 9, 8, 11, 10, 70, 13, 12, 15, 14, 87, 88, 89, 91, 93, 94, 92] : List Nat)) b hb))
      rcases ite_or hm with ⟨hc, hm⟩ | ⟨hc, hm⟩
      · exact kj3 _ _ hm f
      · exact kj3 _ _ hm f
def FPdX_of (p1 : Int32) (p2 : Int32) : List Nat := [34, 36, 35]
theorem fpX_of (p1 : Int32) (p2 : Int32) (h0 : PH) {r : Int32 × PH} (hm : mX_of p1 p2 h0 = some r) : Fr (FPdX_of p1 p2) r.2 h0 := by
  generalize hSe : FPdX_of p1 p2 = S
  have hS : ∀ b, b ∈ ([34, 36, 35] : List Nat) → b ∈ S := by rw [← hSe]; exact fun b hb => hb
  generalize hge : h0 = g at ⊢
  have f : Fr S h0 g := by rw [hge]; exact fun _ _ => rfl
  unfold mX_of at hm
  obtain ⟨r1, -, hm⟩ := bd_s hm
  rcases ite_or hm with ⟨hc, hm⟩ | ⟨hc, hm⟩
  · cases hm
    exact f
  · obtain ⟨r2, -, hm⟩ := bd_s hm
    rcases ite_or hm with ⟨hc, hm⟩ | ⟨hc, hm⟩
    · rcases ite_or hm with ⟨hc, hm⟩ | ⟨hc, hm⟩
      · obtain ⟨r3, -, hm⟩ := bd_s hm
        obtain ⟨r4, h5, he, hm⟩ := bd2_s hm
        replace f := fr_tr f (fpW_tells _ _ _ _ _ he) (fun b hb => hS b ((by decide : ∀ b, b ∈ ([34, 36, 35] : List Nat) → b ∈ ([34, 36, 35] : List Nat)) b hb))
        cases hm
        exact f
      · rcases ite_or hm with ⟨hc, hm⟩ | ⟨hc, hm⟩
        · obtain ⟨r6, -, hm⟩ := bd_s hm
          cases hm
          exact f
        · obtain ⟨r7, -, hm⟩ := bd_s hm
          rcases ite_or hm with ⟨hc, hm⟩ | ⟨hc, hm⟩
          · obtain ⟨r8, -, hm⟩ := bd_s hm
            rcases ite_or hm with ⟨hc, hm⟩ | ⟨hc, hm⟩
            · cases hm
              exact f
            · obtain ⟨r9, h10, he, hm⟩ := bd2_s hm
              replace f := fr_tr f (fpW_tells _ _ _ _ _ he) (fun b hb => hS b ((by decide : ∀ b, b ∈ ([34, 36, 35] : List Nat) → b ∈ ([34, 36, 35] : List Nat)) b hb))
              cases hm
              exact f
          · obtain ⟨r11, h12, he, hm⟩ := bd2_s hm
            replace f := fr_tr f (fpW_tells _ _ _ _ _ he) (fun b hb => hS b ((by decide : ∀ b, b ∈ ([34, 36, 35] : List Nat) → b ∈ ([34, 36, 35] : List Nat)) b hb))
            cases hm
            exact f
    · obtain ⟨r13, -, hm⟩ := bd_s hm
      cases hm
      exact f
def FPdX_goes (p1 : Int32) (p2 : Int32) : List Nat := [4, 3, (sT 69), ((sT 69) + 1), 17, 16, 34, 36, 35]
theorem wf_X_goes_L34 (p1 : Int32) (p2 : Int32) (k0 : PH → Option (Int32 × PH)) (S : List Nat) (g : PH) (r : Int32 × PH) (hS : ∀ b, b ∈ ([(sT 69), ((sT 69) + 1), 17, 16, 34, 36, 35] : List Nat) → b ∈ S) (kk0 : ∀ (y0 : PH), k0 y0 = some r → Fr S y0 g → Fr S r.2 g) : ∀ (n : Nat) (v3 : Int32) (hv : PH), mX_goes_L34 p1 p2 k0 n v3 hv = some r → Fr S hv g → Fr S r.2 g := by
  intro n
  induction n with
  | zero => intro v3 hv hm; cases hm
  | succ n ih =>
    intro v3 hv hm f
    unfold mX_goes_L34 at hm
    rcases ite_or hm with ⟨hc, hm⟩ | ⟨hc, hm⟩
    · exact kk0 _ hm f
    · obtain ⟨r4, h5, he, hm⟩ := bd2_s hm
      replace f := fr_tr f (fpS_pass _ _ he) (fun b hb => hS b (by simp only [FPdS_pass, List.mem_cons, List.not_mem_nil, or_false] at hb ⊢; omega))
      exact ih _ _ hm f
theorem fpX_goes (p1 : Int32) (p2 : Int32) (h0 : PH) {r : Int32 × PH} (hm : mX_goes p1 p2 h0 = some r) : Fr (FPdX_goes p1 p2) r.2 h0 := by
  generalize hSe : FPdX_goes p1 p2 = S
  have hS : ∀ b, b ∈ ([4, 3, (sT 69), ((sT 69) + 1), 17, 16, 34, 36, 35] : List Nat) → b ∈ S := by rw [← hSe]; exact fun b hb => hb
  generalize hge : h0 = g at ⊢
  have f : Fr S h0 g := by rw [hge]; exact fun _ _ => rfl
  unfold mX_goes at hm
  obtain ⟨r1, -, hm⟩ := bd_s hm
  rcases ite_or hm with ⟨hc, hm⟩ | ⟨hc, hm⟩
  · cases hm
    exact f
  · obtain ⟨r2, -, hm⟩ := bd_s hm
    rcases ite_or hm with ⟨hc, hm⟩ | ⟨hc, hm⟩
    · cases hm
      exact f
    · obtain ⟨h3, he, hm⟩ := bd_s hm
      replace f := fr_tr f (fpB_copyFrom _ _ _ he) (fun b hb => hS b (by simp only [FPdB_copyFrom, List.mem_cons, List.not_mem_nil, or_false] at hb ⊢; omega))
      refine wf_X_goes_L34 _ _ _ S g _ (fun b hb => hS b (by first | exact absurd hb List.not_mem_nil | (simp only [List.mem_cons, List.not_mem_nil, or_false] at hb ⊢; omega))) (fun h6 hm f => ?_) _ _ _ hm f
      · rcases ite_or hm with ⟨hc, hm⟩ | ⟨hc, hm⟩
        · cases hm
          exact f
        · rcases ite_or hm with ⟨hc, hm⟩ | ⟨hc, hm⟩
          · obtain ⟨r7, -, hm⟩ := bd_s hm
            cases hm
            exact f
          · rcases ite_or hm with ⟨hc, hm⟩ | ⟨hc, hm⟩
            · obtain ⟨r8, -, hm⟩ := bd_s hm
              cases hm
              exact f
            · obtain ⟨r9, -, hm⟩ := bd_s hm
              cases hm
              exact f
def FPdX_stands (p1 : Int32) : List Nat := [4, 3, (sT 69), ((sT 69) + 1), 17, 16, 34, 36, 35]
theorem wf_X_stands_L40 (p1 : Int32) (S : List Nat) (g : PH) (r : Int32 × PH) (hS : ∀ b, b ∈ ([(sT 69), ((sT 69) + 1), 17, 16, 34, 36, 35] : List Nat) → b ∈ S) : ∀ (n : Nat) (v2 : Int32) (hv : PH), mX_stands_L40 p1 n v2 hv = some r → Fr S hv g → Fr S r.2 g := by
  intro n
  induction n with
  | zero => intro v2 hv hm; cases hm
  | succ n ih =>
    intro v2 hv hm f
    unfold mX_stands_L40 at hm
    rcases ite_or hm with ⟨hc, hm⟩ | ⟨hc, hm⟩
    · cases hm
      exact f
    · obtain ⟨r4, h5, he, hm⟩ := bd2_s hm
      replace f := fr_tr f (fpS_pass _ _ he) (fun b hb => hS b (by simp only [FPdS_pass, List.mem_cons, List.not_mem_nil, or_false] at hb ⊢; omega))
      obtain ⟨r6, -, hm⟩ := bd_s hm
      rcases ite_or hm with ⟨hc, hm⟩ | ⟨hc, hm⟩
      · cases hm
        exact f
      · exact ih _ _ hm f
theorem fpX_stands (p1 : Int32) (h0 : PH) {r : Int32 × PH} (hm : mX_stands p1 h0 = some r) : Fr (FPdX_stands p1) r.2 h0 := by
  generalize hSe : FPdX_stands p1 = S
  have hS : ∀ b, b ∈ ([4, 3, (sT 69), ((sT 69) + 1), 17, 16, 34, 36, 35] : List Nat) → b ∈ S := by rw [← hSe]; exact fun b hb => hb
  generalize hge : h0 = g at ⊢
  have f : Fr S h0 g := by rw [hge]; exact fun _ _ => rfl
  unfold mX_stands at hm
  obtain ⟨r1, -, hm⟩ := bd_s hm
  rcases ite_or hm with ⟨hc, hm⟩ | ⟨hc, hm⟩
  · cases hm
    exact f
  · obtain ⟨r2, -, hm⟩ := bd_s hm
    rcases ite_or hm with ⟨hc, hm⟩ | ⟨hc, hm⟩
    · cases hm
      exact f
    · obtain ⟨h3, he, hm⟩ := bd_s hm
      replace f := fr_tr f (fpB_copyFrom _ _ _ he) (fun b hb => hS b (by simp only [FPdB_copyFrom, List.mem_cons, List.not_mem_nil, or_false] at hb ⊢; omega))
      exact wf_X_stands_L40 _ S g _ (fun b hb => hS b (by first | exact absurd hb List.not_mem_nil | (simp only [List.mem_cons, List.not_mem_nil, or_false] at hb ⊢; omega))) _ _ _ hm f
