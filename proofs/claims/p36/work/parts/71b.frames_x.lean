theorem fpK_wayHome (a1 : Nat) (h0 : PH) {r : Int32 × PH} (hm : mK_wayHome a1 h0 = some r) : Fr (FPdK_wayHome a1) r.2 h0 := by
  generalize hSe : FPdK_wayHome a1 = S
  have hS : ∀ b, b ∈ ([100, 101] : List Nat) → b ∈ S := by rw [← hSe]; exact fun b hb => hb
  generalize hge : h0 = g at ⊢
  have f : Fr S h0 g := by rw [hge]; exact fun _ _ => rfl
  unfold mK_wayHome at hm
  obtain ⟨r1, h2, he, hm⟩ := bd2_s hm
  replace f := fr_tr f (fpK_walk _ _ he) (fun b hb => hS b ((by decide : ∀ b, b ∈ ([100, 101] : List Nat) → b ∈ ([100, 101] : List Nat)) b hb))
  obtain ⟨-, hm⟩ := ck_s hm
  obtain ⟨-, hm⟩ := ck_s hm
  cases hm
  exact f
def FPdK_placesCrossed (a1 : Nat) : List Nat := [100, 101]
theorem wf_K_placesCrossed_L23 (p2 : Int32) (p3 : Int32) (p4 : Int32) (h0 : PH) (k0 : Int32 → Option (Int32 × PH)) (S : List Nat) (g : PH) (r : Int32 × PH) (hS : ∀ b, b ∈ ([] : List Nat) → b ∈ S) (f : Fr S h0 g) (kk0 : ∀ (y0 : Int32), k0 y0 = some r → Fr S r.2 g) : ∀ (n : Nat) (v5 : Int32) (v6 : Int32), mK_placesCrossed_L23 p2 p3 p4 h0 k0 n v5 v6 = some r → Fr S r.2 g := by
  intro n
  induction n with
  | zero => intro v5 v6 hm; cases hm
  | succ n ih =>
    intro v5 v6 hm
    unfold mK_placesCrossed_L23 at hm
    rcases ite_or hm with ⟨hc, hm⟩ | ⟨hc, hm⟩
    · exact kk0 _ hm
    · obtain ⟨-, hm⟩ := ck_s hm
      obtain ⟨-, hm⟩ := ck_s hm
      rcases ite_or hm with ⟨hc, hm⟩ | ⟨hc, hm⟩
      · obtain ⟨-, hm⟩ := ck_s hm
        obtain ⟨-, hm⟩ := ck_s hm
        rcases ite_or hm with ⟨hc, hm⟩ | ⟨hc, hm⟩
        · exact ih _ _ hm
        · exact ih _ _ hm
      · exact ih _ _ hm
theorem wf_K_placesCrossed_L11 (p2 : Int32) (h0 : PH) (S : List Nat) (g : PH) (r : Int32 × PH) (hS : ∀ b, b ∈ ([] : List Nat) → b ∈ S) (f : Fr S h0 g) : ∀ (n : Nat) (v3 : Int32) (v4 : Int32), mK_placesCrossed_L11 p2 h0 n v3 v4 = some r → Fr S r.2 g := by
  intro n
  induction n with
  | zero => intro v3 v4 hm; cases hm
  | succ n ih =>
    intro v3 v4 hm
    unfold mK_placesCrossed_L11 at hm
    rcases ite_or hm with ⟨hc, hm⟩ | ⟨hc, hm⟩
    · cases hm
      exact f
    · refine wf_K_placesCrossed_L23 _ _ _ _ _ S g _ (fun b hb => hS b ((by decide : ∀ b, b ∈ ([] : List Nat) → b ∈ ([] : List Nat)) b hb)) f (fun x3 hm => ?_) _ _ _ hm
      · rcases ite_or hm with ⟨hc, hm⟩ | ⟨hc, hm⟩
        · exact ih _ _ hm
        · exact ih _ _ hm
theorem fpK_placesCrossed (a1 : Nat) (h0 : PH) {r : Int32 × PH} (hm : mK_placesCrossed a1 h0 = some r) : Fr (FPdK_placesCrossed a1) r.2 h0 := by
  generalize hSe : FPdK_placesCrossed a1 = S
  have hS : ∀ b, b ∈ ([100, 101] : List Nat) → b ∈ S := by rw [← hSe]; exact fun b hb => hb
  generalize hge : h0 = g at ⊢
  have f : Fr S h0 g := by rw [hge]; exact fun _ _ => rfl
  unfold mK_placesCrossed at hm
  obtain ⟨r1, h2, he, hm⟩ := bd2_s hm
  replace f := fr_tr f (fpK_walk _ _ he) (fun b hb => hS b ((by decide : ∀ b, b ∈ ([100, 101] : List Nat) → b ∈ ([100, 101] : List Nat)) b hb))
  exact wf_K_placesCrossed_L11 _ _ S g _ (fun b hb => hS b ((by decide : ∀ b, b ∈ ([] : List Nat) → b ∈ ([100, 101] : List Nat)) b hb)) f _ _ _ hm
def FPdW_gather (a1 : Nat) (p2 : Int32) (p3 : Int32) : List Nat := [35]
theorem fpW_gather (a1 : Nat) (p2 : Int32) (p3 : Int32) (h0 : PH) {r : PH} (hm : mW_gather a1 p2 p3 h0 = some r) : Fr (FPdW_gather a1 p2 p3) r h0 := by
  generalize hSe : FPdW_gather a1 p2 p3 = S
  have hS : ∀ b, b ∈ ([35] : List Nat) → b ∈ S := by rw [← hSe]; exact fun b hb => hb
  generalize hge : h0 = g at ⊢
  have f : Fr S h0 g := by rw [hge]; exact fun _ _ => rfl
  unfold mW_gather at hm
  obtain ⟨r1, -, hm⟩ := bd_s hm
  obtain ⟨-, hm⟩ := ck_s hm
  obtain ⟨h2, e1, hm⟩ := lt_some hm
  replace f : Fr S h2 g := by rw [e1]; exact up_fr f (hS _ (by decide))
  obtain ⟨r3, -, hm⟩ := bd_s hm
  obtain ⟨-, hm⟩ := ck_s hm
  obtain ⟨h4, e1, hm⟩ := lt_some hm
  replace f : Fr S h4 g := by rw [e1]; exact up_fr f (hS _ (by decide))
  obtain ⟨r5, -, hm⟩ := bd_s hm
  obtain ⟨-, hm⟩ := ck_s hm
  obtain ⟨h6, e1, hm⟩ := lt_some hm
  replace f : Fr S h6 g := by rw [e1]; exact up_fr f (hS _ (by decide))
  obtain ⟨r7, -, hm⟩ := bd_s hm
  obtain ⟨-, hm⟩ := ck_s hm
  obtain ⟨h8, e1, hm⟩ := lt_some hm
  replace f : Fr S h8 g := by rw [e1]; exact up_fr f (hS _ (by decide))
  obtain ⟨r9, -, hm⟩ := bd_s hm
  obtain ⟨-, hm⟩ := ck_s hm
  obtain ⟨h10, e1, hm⟩ := lt_some hm
  replace f : Fr S h10 g := by rw [e1]; exact up_fr f (hS _ (by decide))
  obtain ⟨r11, -, hm⟩ := bd_s hm
  obtain ⟨-, hm⟩ := ck_s hm
  obtain ⟨h12, e1, hm⟩ := lt_some hm
  replace f : Fr S h12 g := by rw [e1]; exact up_fr f (hS _ (by decide))
  obtain ⟨r13, -, hm⟩ := bd_s hm
  obtain ⟨-, hm⟩ := ck_s hm
  obtain ⟨h14, e1, hm⟩ := lt_some hm
  replace f : Fr S h14 g := by rw [e1]; exact up_fr f (hS _ (by decide))
  obtain ⟨r15, -, hm⟩ := bd_s hm
  obtain ⟨-, hm⟩ := ck_s hm
  obtain ⟨h16, e1, hm⟩ := lt_some hm
  replace f : Fr S h16 g := by rw [e1]; exact up_fr f (hS _ (by decide))
  obtain ⟨r17, -, hm⟩ := bd_s hm
  obtain ⟨-, hm⟩ := ck_s hm
  obtain ⟨h18, e1, hm⟩ := lt_some hm
  replace f : Fr S h18 g := by rw [e1]; exact up_fr f (hS _ (by decide))
  obtain ⟨-, hm⟩ := ck_s hm
  obtain ⟨h19, e1, hm⟩ := lt_some hm
  replace f : Fr S h19 g := by rw [e1]; exact up_fr f (hS _ (by decide))
  obtain ⟨-, hm⟩ := ck_s hm
  obtain ⟨h20, e1, hm⟩ := lt_some hm
  replace f : Fr S h20 g := by rw [e1]; exact up_fr f (hS _ (by decide))
  obtain ⟨-, hm⟩ := ck_s hm
  obtain ⟨h21, e1, hm⟩ := lt_some hm
  replace f : Fr S h21 g := by rw [e1]; exact up_fr f (hS _ (by decide))
  cases hm
  exact f
def FPdW_step (p1 : Int32) (p2 : Int32) : List Nat := [36, 34]
theorem fpW_step (p1 : Int32) (p2 : Int32) (h0 : PH) {r : PH} (hm : mW_step p1 p2 h0 = some r) : Fr (FPdW_step p1 p2) r h0 := by
  generalize hSe : FPdW_step p1 p2 = S
  have hS : ∀ b, b ∈ ([36, 34] : List Nat) → b ∈ S := by rw [← hSe]; exact fun b hb => hb
  generalize hge : h0 = g at ⊢
  have f : Fr S h0 g := by rw [hge]; exact fun _ _ => rfl
  unfold mW_step at hm
  refine v_j0 (Fr S r g) hm (fun hm => ?_) (fun j1 kj1 hm => ?_)
  · rcases ite_or hm with ⟨hc, hm⟩ | ⟨hc, hm⟩
    · cases hm
      exact f
    · refine v_j1 (fun (x3 : Int32) => Fr S r g) hm (fun x3 hm => ?_) (fun j2 kj2 hm => ?_)
      · refine v_j1 (fun (x5 : Int32) => Fr S r g) hm (fun x5 hm => ?_) (fun j4 kj4 hm => ?_)
        · obtain ⟨-, hm⟩ := ck_s hm
          obtain ⟨h6, e1, hm⟩ := lt_some hm
          replace f : Fr S h6 g := by rw [e1]; exact up_fr f (hS _ (by decide))
          obtain ⟨h7, e1, hm⟩ := lt_some hm
          replace f : Fr S h7 g := by rw [e1]; exact up_fr f (hS _ (by decide))
          cases hm
          exact f
        · rcases ite_or hm with ⟨hc, hm⟩ | ⟨hc, hm⟩
          · exact kj4 _ hm
          · obtain ⟨-, hm⟩ := ck_s hm
            exact kj4 _ hm
      · rcases ite_or hm with ⟨hc, hm⟩ | ⟨hc, hm⟩
        · rcases ite_or hm with ⟨hc, hm⟩ | ⟨hc, hm⟩
          · exact kj2 _ hm
          · rcases ite_or hm with ⟨hc, hm⟩ | ⟨hc, hm⟩
            · exact kj2 _ hm
            · exact kj2 _ hm
        · exact kj2 _ hm
  · rcases ite_or hm with ⟨hc, hm⟩ | ⟨hc, hm⟩
    · exact kj1 hm
    · rcases ite_or hm with ⟨hc, hm⟩ | ⟨hc, hm⟩
      · exact kj1 hm
      · rcases ite_or hm with ⟨hc, hm⟩ | ⟨hc, hm⟩
        · rcases ite_or hm with ⟨hc, hm⟩ | ⟨hc, hm⟩
          · cases hm
            exact f
          · rcases ite_or hm with ⟨hc, hm⟩ | ⟨hc, hm⟩
            · cases hm
              exact f
            · obtain ⟨-, hm⟩ := ck_s hm
              obtain ⟨-, hm⟩ := dz_s hm
              obtain ⟨-, hm⟩ := ck_s hm
              obtain ⟨h8, e1, hm⟩ := lt_some hm
              replace f : Fr S h8 g := by rw [e1]; exact up_fr f (hS _ (by decide))
              cases hm
              exact f
        · rcases ite_or hm with ⟨hc, hm⟩ | ⟨hc, hm⟩
          · rcases ite_or hm with ⟨hc, hm⟩ | ⟨hc, hm⟩
            · cases hm
              exact f
            · obtain ⟨-, hm⟩ := ck_s hm
              refine v_j1 (fun (x10 : Int32) => Fr S r g) hm (fun x10 hm => ?_) (fun j9 kj9 hm => ?_)
              · obtain ⟨-, hm⟩ := ck_s hm
                obtain ⟨h11, e1, hm⟩ := lt_some hm
                replace f : Fr S h11 g := by rw [e1]; exact up_fr f (hS _ (by decide))
                cases hm
                exact f
              · rcases ite_or hm with ⟨hc, hm⟩ | ⟨hc, hm⟩
                · exact kj9 _ hm
                · exact kj9 _ hm
          · rcases ite_or hm with ⟨hc, hm⟩ | ⟨hc, hm⟩
            · cases hm
              exact f
            · obtain ⟨h12, e1, hm⟩ := lt_some hm
              replace f : Fr S h12 g := by rw [e1]; exact up_fr f (hS _ (by decide))
              obtain ⟨-, hm⟩ := ck_s hm
              obtain ⟨-, hm⟩ := ck_s hm
              obtain ⟨r13, -, hm⟩ := bd_s hm
              obtain ⟨-, hm⟩ := ck_s hm
              obtain ⟨h14, e1, hm⟩ := lt_some hm
              replace f : Fr S h14 g := by rw [e1]; exact up_fr f (hS _ (by decide))
              cases hm
              exact f
def FPdW_run (p1 : Int32) (p2 : Int32) : List Nat := [34, 36]
theorem wf_W_run_L7 (p2 : Int32) (k0 : PH → Option (Int32 × PH)) (S : List Nat) (g : PH) (r : Int32 × PH) (hS : ∀ b, b ∈ ([36, 34] : List Nat) → b ∈ S) (kk0 : ∀ (y0 : PH), k0 y0 = some r → Fr S y0 g → Fr S r.2 g) : ∀ (n : Nat) (v3 : Int32) (hv : PH), mW_run_L7 p2 k0 n v3 hv = some r → Fr S hv g → Fr S r.2 g := by
  intro n
  induction n with
  | zero => intro v3 hv hm; cases hm
  | succ n ih =>
    intro v3 hv hm f
    unfold mW_run_L7 at hm
    rcases ite_or hm with ⟨hc, hm⟩ | ⟨hc, hm⟩
    · exact kk0 _ hm f
    · obtain ⟨r2, -, hm⟩ := bd_s hm
      obtain ⟨r3, -, hm⟩ := bd_s hm
      obtain ⟨h4, he, hm⟩ := bd_s hm
      replace f := fr_tr f (fpW_step _ _ _ he) (fun b hb => hS b ((by decide : ∀ b, b ∈ ([36, 34] : List Nat) → b ∈ ([36, 34] : List Nat)) b hb))
      exact ih _ _ hm f
theorem fpW_run (p1 : Int32) (p2 : Int32) (h0 : PH) {r : Int32 × PH} (hm : mW_run p1 p2 h0 = some r) : Fr (FPdW_run p1 p2) r.2 h0 := by
  generalize hSe : FPdW_run p1 p2 = S
  have hS : ∀ b, b ∈ ([34, 36] : List Nat) → b ∈ S := by rw [← hSe]; exact fun b hb => hb
  generalize hge : h0 = g at ⊢
  have f : Fr S h0 g := by rw [hge]; exact fun _ _ => rfl
  unfold mW_run at hm
  obtain ⟨h1, e1, hm⟩ := lt_some hm
  replace f : Fr S h1 g := by rw [e1]; exact up_fr f (hS _ (by decide))
  refine wf_W_run_L7 _ _ S g _ (fun b hb => hS b ((by decide : ∀ b, b ∈ ([36, 34] : List Nat) → b ∈ ([34, 36] : List Nat)) b hb)) (fun h5 hm f => ?_) _ _ _ hm f
  · rcases ite_or hm with ⟨hc, hm⟩ | ⟨hc, hm⟩
    · cases hm
      exact f
    · obtain ⟨-, hm⟩ := ck_s hm
      cases hm
      exact f
def FPdW_applies (p1 : Int32) : List Nat := [34, 36]
theorem fpW_applies (p1 : Int32) (h0 : PH) {r : Int32 × PH} (hm : mW_applies p1 h0 = some r) : Fr (FPdW_applies p1) r.2 h0 := by
  generalize hSe : FPdW_applies p1 = S
  have hS : ∀ b, b ∈ ([34, 36] : List Nat) → b ∈ S := by rw [← hSe]; exact fun b hb => hb
  generalize hge : h0 = g at ⊢
  have f : Fr S h0 g := by rw [hge]; exact fun _ _ => rfl
  unfold mW_applies at hm
  obtain ⟨r1, -, hm⟩ := bd_s hm
  obtain ⟨r2, -, hm⟩ := bd_s hm
  rcases ite_or hm with ⟨hc, hm⟩ | ⟨hc, hm⟩
  · cases hm
    exact f
  · obtain ⟨r3, h4, he, hm⟩ := bd2_s hm
    replace f := fr_tr f (fpW_run _ _ _ he) (fun b hb => hS b ((by decide : ∀ b, b ∈ ([34, 36] : List Nat) → b ∈ ([34, 36] : List Nat)) b hb))
    rcases ite_or hm with ⟨hc, hm⟩ | ⟨hc, hm⟩
    · cases hm
      exact f
    · cases hm
      exact f
def FPdW_tells (a1 : Nat) (p2 : Int32) (p3 : Int32) (p4 : Int32) : List Nat := [34, 36, 35]
theorem wf_W_tells_L22 (a1 : Nat) (p2 : Int32) (p3 : Int32) (p4 : Int32) (p5 : Int32) (k0 : Int32 → PH → Option (Int32 × PH)) (k1 : PH → Option (Int32 × PH)) (S : List Nat) (g : PH) (r : Int32 × PH) (hS : ∀ b, b ∈ ([34, 36, 35] : List Nat) → b ∈ S) (kk0 : ∀ (y0 : Int32) (y1 : PH), k0 y0 y1 = some r → Fr S y1 g → Fr S r.2 g) (kk1 : ∀ (y0 : PH), k1 y0 = some r → Fr S y0 g → Fr S r.2 g) : ∀ (n : Nat) (v6 : Int32) (v7 : Int32) (hv : PH), mW_tells_L22 a1 p2 p3 p4 p5 k0 k1 n v6 v7 hv = some r → Fr S hv g → Fr S r.2 g := by
  intro n
  induction n with
  | zero => intro v6 v7 hv hm; cases hm
  | succ n ih =>
    intro v6 v7 hv hm f
    unfold mW_tells_L22 at hm
    rcases ite_or hm with ⟨hc, hm⟩ | ⟨hc, hm⟩
    · exact kk1 _ hm f
    · obtain ⟨r3, -, hm⟩ := bd_s hm
      rcases ite_or hm with ⟨hc, hm⟩ | ⟨hc, hm⟩
      · refine v_j2 (fun (x5 : Int32) (h6 : PH) => Fr S h6 g → Fr S r.2 g) hm (fun x5 h6 hm f => ?_) (fun j4 kj4 hm => ?_)
        · obtain ⟨r7, h8, he, hm⟩ := bd2_s hm
          replace f := fr_tr f (fpW_applies _ _ he) (fun b hb => hS b ((by decide : ∀ b, b ∈ ([34, 36] : List Nat) → b ∈ ([34, 36, 35] : List Nat)) b hb))
          rcases ite_or hm with ⟨hc, hm⟩ | ⟨hc, hm⟩
          · exact ih _ _ _ hm f
          · exact kk0 _ _ hm f
        · rcases ite_or hm with ⟨hc, hm⟩ | ⟨hc, hm⟩
          · obtain ⟨h9, he, hm⟩ := bd_s hm
            replace f := fr_tr f (fpW_gather _ _ _ _ he) (fun b hb => hS b ((by decide : ∀ b, b ∈ ([35] : List Nat) → b ∈ ([34, 36, 35] : List Nat)) b hb))
            exact kj4 _ _ hm f
          · exact kj4 _ _ hm f
      · exact ih _ _ _ hm f
theorem fpW_tells (a1 : Nat) (p2 : Int32) (p3 : Int32) (p4 : Int32) (h0 : PH) {r : Int32 × PH} (hm : mW_tells a1 p2 p3 p4 h0 = some r) : Fr (FPdW_tells a1 p2 p3 p4) r.2 h0 := by
  generalize hSe : FPdW_tells a1 p2 p3 p4 = S
  have hS : ∀ b, b ∈ ([34, 36, 35] : List Nat) → b ∈ S := by rw [← hSe]; exact fun b hb => hb
  generalize hge : h0 = g at ⊢
  have f : Fr S h0 g := by rw [hge]; exact fun _ _ => rfl
  unfold mW_tells at hm
  refine v_j1 (fun (x2 : Int32) => Fr S r.2 g) hm (fun x2 hm => ?_) (fun j1 kj1 hm => ?_)
  · refine wf_W_tells_L22 _ _ _ _ _ _ _ S g _ (fun b hb => hS b ((by decide : ∀ b, b ∈ ([34, 36, 35] : List Nat) → b ∈ ([34, 36, 35] : List Nat)) b hb)) (fun x10 h11 hm f => ?_) (fun h17 hm f => ?_) _ _ _ _ hm f
    · obtain ⟨r12, -, hm⟩ := bd_s hm
      obtain ⟨r13, -, hm⟩ := bd_s hm
      obtain ⟨r14, h15, he, hm⟩ := bd2_s hm
      replace f := fr_tr f (fpW_run _ _ _ he) (fun b hb => hS b ((by decide : ∀ b, b ∈ ([34, 36] : List Nat) → b ∈ ([34, 36, 35] : List Nat)) b hb))
      obtain ⟨r16, -, hm⟩ := bd_s hm
      cases hm
      exact f
    · obtain ⟨r18, -, hm⟩ := bd_s hm
      obtain ⟨r19, -, hm⟩ := bd_s hm
      cases hm
      exact f
  · rcases ite_or hm with ⟨hc, hm⟩ | ⟨hc, hm⟩
    · exact kj1 _ hm
    · exact kj1 _ hm
def FPdP_keep (a1 : Nat) (p2 : Int32) : List Nat := [73, 74, 75, 76, 77, 78, 79, 80, 81, 82, 83, 84, 72, 70]
theorem fpP_keep (a1 : Nat) (p2 : Int32) (h0 : PH) {r : PH} (hm : mP_keep a1 p2 h0 = some r) : Fr (FPdP_keep a1 p2) r h0 := by
  generalize hSe : FPdP_keep a1 p2 = S
  have hS : ∀ b, b ∈ ([73, 74, 75, 76, 77, 78, 79, 80, 81, 82, 83, 84, 72, 70] : List Nat) → b ∈ S := by rw [← hSe]; exact fun b hb => hb
  generalize hge : h0 = g at ⊢
  have f : Fr S h0 g := by rw [hge]; exact fun _ _ => rfl
  unfold mP_keep at hm
  obtain ⟨-, hm⟩ := dz_s hm
  obtain ⟨x1, -, hm⟩ := lt_some hm
  obtain ⟨hi, hm⟩ := ck_s hm
  have hlt : ix x1 < 6 := Nat.not_le.mp fun q => hi (Or.inr q)
  obtain ⟨h3, he, hm⟩ := bd_s hm
  replace f := fr_tr f (fpB_copyFrom _ _ _ he) (fun b hb => hS b (by simp only [FPdB_copyFrom, List.mem_cons, List.not_mem_nil, or_false] at hb ⊢; omega))
  obtain ⟨hi, hm⟩ := ck_s hm
  have hlt : ix x1 < 6 := Nat.not_le.mp fun q => hi (Or.inr q)
  obtain ⟨h4, e1, hm⟩ := lt_some hm
  replace f : Fr S h4 g := by rw [e1]; exact up_fr f (hS _ (by decide))
  rcases ite_or hm with ⟨hc, hm⟩ | ⟨hc, hm⟩
  · obtain ⟨-, hm⟩ := dz_s hm
    obtain ⟨h5, e1, hm⟩ := lt_some hm
    replace f : Fr S h5 g := by rw [e1]; exact up_fr f (hS _ (by decide))
    cases hm
    exact f
  · obtain ⟨h6, e1, hm⟩ := lt_some hm
    replace f : Fr S h6 g := by rw [e1]; exact up_fr f (hS _ (by decide))
    cases hm
    exact f
def FPdP_goBack (a1 : Nat) : List Nat := [70, (a1 + 1), a1]
theorem fpP_goBack (a1 : Nat) (h0 : PH) {r : Int32 × PH} (hm : mP_goBack a1 h0 = some r) : Fr (FPdP_goBack a1) r.2 h0 := by
  generalize hSe : FPdP_goBack a1 = S
  have hS : ∀ b, b ∈ ([70, (a1 + 1), a1] : List Nat) → b ∈ S := by rw [← hSe]; exact fun b hb => hb
  generalize hge : h0 = g at ⊢
  have f : Fr S h0 g := by rw [hge]; exact fun _ _ => rfl
  unfold mP_goBack at hm
  obtain ⟨h1, e1, hm⟩ := lt_some hm
  replace f : Fr S h1 g := by rw [e1]; exact up_fr f (hS _ (by first | simp; done | (simp only [List.mem_cons, List.not_mem_nil, or_false]; omega)))
  obtain ⟨-, hm⟩ := dz_s hm
  obtain ⟨x2, -, hm⟩ := lt_some hm
  obtain ⟨hi, hm⟩ := ck_s hm
  have hlt : ix x2 < 6 := Nat.not_le.mp fun q => hi (Or.inr q)
  obtain ⟨h4, he, hm⟩ := bd_s hm
  replace f := fr_tr f (fpB_copyFrom _ _ _ he) (fun b hb => hS b (by simp only [FPdB_copyFrom, List.mem_cons, List.not_mem_nil, or_false] at hb ⊢; omega))
  obtain ⟨hi, hm⟩ := ck_s hm
  have hlt : ix x2 < 6 := Nat.not_le.mp fun q => hi (Or.inr q)
  cases hm
  exact f
def FPdP_forget : List Nat := [70]
theorem fpP_forget (h0 : PH) {r : PH} (hm : mP_forget h0 = some r) : Fr (FPdP_forget ) r h0 := by
  generalize hSe : FPdP_forget = S
  have hS : ∀ b, b ∈ ([70] : List Nat) → b ∈ S := by rw [← hSe]; exact fun b hb => hb
  generalize hge : h0 = g at ⊢
  have f : Fr S h0 g := by rw [hge]; exact fun _ _ => rfl
  unfold mP_forget at hm
  obtain ⟨h1, e1, hm⟩ := lt_some hm
  replace f : Fr S h1 g := by rw [e1]; exact up_fr f (hS _ (by decide))
  cases hm
  exact f
def FPdO_copyFrom (a0 : Nat) (a1 : Nat) : List Nat := [((a0 + 1) + 1), (a0 + 1), ((a0 + 3) + 1), (a0 + 3), ((a0 + 5) + 1), (a0 + 5), ((a0 + 7) + 1), (a0 + 7), ((a0 + 9) + 1), (a0 + 9), ((a0 + 11) + 1), (a0 + 11), ((a0 + 13) + 1), (a0 + 13), ((a0 + 15) + 1), (a0 + 15), ((a0 + 17) + 1), (a0 + 17), ((a0 + 19) + 1), (a0 + 19), ((a0 + 21) + 1), (a0 + 21), ((a0 + 23) + 1), (a0 + 23), ((a0 + 25) + 1), (a0 + 25), ((a0 + 27) + 1), (a0 + 27)]
theorem fpO_copyFrom (a0 : Nat) (a1 : Nat) (h0 : PH) {r : PH} (hm : mO_copyFrom a0 a1 h0 = some r) : Fr (FPdO_copyFrom a0 a1) r h0 := by
  generalize hSe : FPdO_copyFrom a0 a1 = S
  have hS : ∀ b, b ∈ ([((a0 + 1) + 1), (a0 + 1), ((a0 + 3) + 1), (a0 + 3), ((a0 + 5) + 1), (a0 + 5), ((a0 + 7) + 1), (a0 + 7), ((a0 + 9) + 1), (a0 + 9), ((a0 + 11) + 1), (a0 + 11), ((a0 + 13) + 1), (a0 + 13), ((a0 + 15) + 1), (a0 + 15), ((a0 + 17) + 1), (a0 + 17), ((a0 + 19) + 1), (a0 + 19), ((a0 + 21) + 1), (a0 + 21), ((a0 + 23) + 1), (a0 + 23), ((a0 + 25) + 1), (a0 + 25), ((a0 + 27) + 1), (a0 + 27)] : List Nat) → b ∈ S := by rw [← hSe]; exact fun b hb => hb
  generalize hge : h0 = g at ⊢
  have f : Fr S h0 g := by rw [hge]; exact fun _ _ => rfl
  unfold mO_copyFrom at hm
  obtain ⟨h1, he, hm⟩ := bd_s hm
  replace f := fr_tr f (fpR_copyFrom _ _ _ he) (fun b hb => hS b (by simp only [FPdR_copyFrom, List.mem_cons, List.not_mem_nil, or_false] at hb ⊢; omega))
  obtain ⟨h2, he, hm⟩ := bd_s hm
  replace f := fr_tr f (fpR_copyFrom _ _ _ he) (fun b hb => hS b (by simp only [FPdR_copyFrom, List.mem_cons, List.not_mem_nil, or_false] at hb ⊢; omega))
  obtain ⟨h3, he, hm⟩ := bd_s hm
  replace f := fr_tr f (fpR_copyFrom _ _ _ he) (fun b hb => hS b (by simp only [FPdR_copyFrom, List.mem_cons, List.not_mem_nil, or_false] at hb ⊢; omega))
  obtain ⟨h4, he, hm⟩ := bd_s hm
  replace f := fr_tr f (fpR_copyFrom _ _ _ he) (fun b hb => hS b (by simp only [FPdR_copyFrom, List.mem_cons, List.not_mem_nil, or_false] at hb ⊢; omega))
  obtain ⟨h5, he, hm⟩ := bd_s hm
  replace f := fr_tr f (fpR_copyFrom _ _ _ he) (fun b hb => hS b (by simp only [FPdR_copyFrom, List.mem_cons, List.not_mem_nil, or_false] at hb ⊢; omega))
  obtain ⟨h6, he, hm⟩ := bd_s hm
  replace f := fr_tr f (fpR_copyFrom _ _ _ he) (fun b hb => hS b (by simp only [FPdR_copyFrom, List.mem_cons, List.not_mem_nil, or_false] at hb ⊢; omega))
  obtain ⟨h7, he, hm⟩ := bd_s hm
  replace f := fr_tr f (fpR_copyFrom _ _ _ he) (fun b hb => hS b (by simp only [FPdR_copyFrom, List.mem_cons, List.not_mem_nil, or_false] at hb ⊢; omega))
  obtain ⟨h8, he, hm⟩ := bd_s hm
  replace f := fr_tr f (fpR_copyFrom _ _ _ he) (fun b hb => hS b (by simp only [FPdR_copyFrom, List.mem_cons, List.not_mem_nil, or_false] at hb ⊢; omega))
  obtain ⟨h9, he, hm⟩ := bd_s hm
  replace f := fr_tr f (fpR_copyFrom _ _ _ he) (fun b hb => hS b (by simp only [FPdR_copyFrom, List.mem_cons, List.not_mem_nil, or_false] at hb ⊢; omega))
  obtain ⟨h10, he, hm⟩ := bd_s hm
  replace f := fr_tr f (fpR_copyFrom _ _ _ he) (fun b hb => hS b (by simp only [FPdR_copyFrom, List.mem_cons, List.not_mem_nil, or_false] at hb ⊢; omega))
  obtain ⟨h11, he, hm⟩ := bd_s hm
  replace f := fr_tr f (fpR_copyFrom _ _ _ he) (fun b hb => hS b (by simp only [FPdR_copyFrom, List.mem_cons, List.not_mem_nil, or_false] at hb ⊢; omega))
  obtain ⟨h12, he, hm⟩ := bd_s hm
  replace f := fr_tr f (fpR_copyFrom _ _ _ he) (fun b hb => hS b (by simp only [FPdR_copyFrom, List.mem_cons, List.not_mem_nil, or_false] at hb ⊢; omega))
  obtain ⟨h13, he, hm⟩ := bd_s hm
  replace f := fr_tr f (fpR_copyFrom _ _ _ he) (fun b hb => hS b (by simp only [FPdR_copyFrom, List.mem_cons, List.not_mem_nil, or_false] at hb ⊢; omega))
  obtain ⟨h14, he, hm⟩ := bd_s hm
  replace f := fr_tr f (fpR_copyFrom _ _ _ he) (fun b hb => hS b (by simp only [FPdR_copyFrom, List.mem_cons, List.not_mem_nil, or_false] at hb ⊢; omega))
  cases hm
  exact f
def FPdT_spread (a1 : Nat) (a2 : Nat) (p3 : Int32) (p4 : Int32) : List Nat := [96]
theorem wf_T_spread_L3 (a1 : Nat) (a2 : Nat) (p3 : Int32) (p4 : Int32) (k0 : PH → Option (PH)) (S : List Nat) (g : PH) (r : PH) (hS : ∀ b, b ∈ ([96] : List Nat) → b ∈ S) (kk0 : ∀ (y0 : PH), k0 y0 = some r → Fr S y0 g → Fr S r g) : ∀ (n : Nat) (v5 : Int32) (hv : PH), mT_spread_L3 a1 a2 p3 p4 k0 n v5 hv = some r → Fr S hv g → Fr S r g := by
  intro n
  induction n with
  | zero => intro v5 hv hm; cases hm
  | succ n ih =>
    intro v5 hv hm f
    unfold mT_spread_L3 at hm
    rcases ite_or hm with ⟨hc, hm⟩ | ⟨hc, hm⟩
    · exact kk0 _ hm f
    · refine v_j1 (fun (x2 : Int32) => Fr S r g) hm (fun x2 hm => ?_) (fun j1 kj1 hm => ?_)
      · obtain ⟨-, hm⟩ := ck_s hm
        obtain ⟨h3, e1, hm⟩ := lt_some hm
        replace f : Fr S h3 g := by rw [e1]; exact up_fr f (hS _ (by decide))
        exact ih _ _ hm f
      · rcases ite_or hm with ⟨hc, hm⟩ | ⟨hc, hm⟩
        · exact kj1 _ hm
        · exact kj1 _ hm
theorem wf_T_spread_L48 (a1 : Nat) (a2 : Nat) (p4 : Int32) (p5 : Int32) (k0 : PH → Option (PH)) (S : List Nat) (g : PH) (r : PH) (hS : ∀ b, b ∈ ([96] : List Nat) → b ∈ S) (kk0 : ∀ (y0 : PH), k0 y0 = some r → Fr S y0 g → Fr S r g) : ∀ (n : Nat) (v6 : Int32) (hv : PH), mT_spread_L48 a1 a2 p4 p5 k0 n v6 hv = some r → Fr S hv g → Fr S r g := by
  intro n
  induction n with
  | zero => intro v6 hv hm; cases hm
  | succ n ih =>
    intro v6 hv hm f
    unfold mT_spread_L48 at hm
    rcases ite_or hm with ⟨hc, hm⟩ | ⟨hc, hm⟩
    · exact kk0 _ hm f
    · obtain ⟨r5, -, hm⟩ := bd_s hm
      obtain ⟨r6, -, hm⟩ := bd_s hm
      obtain ⟨r7, -, hm⟩ := bd_s hm
      rcases ite_or hm with ⟨hc, hm⟩ | ⟨hc, hm⟩
      · exact ih _ _ hm f
      · obtain ⟨r8, -, hm⟩ := bd_s hm
        rcases ite_or hm with ⟨hc, hm⟩ | ⟨hc, hm⟩
        · exact ih _ _ hm f
        · obtain ⟨r9, -, hm⟩ := bd_s hm
          obtain ⟨r10, -, hm⟩ := bd_s hm
          obtain ⟨x11, -, hm⟩ := lt_some hm
          obtain ⟨-, hm⟩ := ck_s hm
          obtain ⟨-, hm⟩ := ck_s hm
          obtain ⟨r12, -, hm⟩ := bd_s hm
          obtain ⟨-, hm⟩ := ck_s hm
          obtain ⟨h13, e1, hm⟩ := lt_some hm
          replace f : Fr S h13 g := by rw [e1]; exact up_fr f (hS _ (by decide))
          obtain ⟨-, hm⟩ := ck_s hm
          obtain ⟨-, hm⟩ := ck_s hm
          obtain ⟨r14, -, hm⟩ := bd_s hm
          obtain ⟨-, hm⟩ := ck_s hm
          obtain ⟨h15, e1, hm⟩ := lt_some hm
          replace f : Fr S h15 g := by rw [e1]; exact up_fr f (hS _ (by decide))
          exact ih _ _ hm f
theorem wf_T_spread_L38 (a1 : Nat) (a2 : Nat) (p4 : Int32) (S : List Nat) (g : PH) (r : PH) (hS : ∀ b, b ∈ ([96] : List Nat) → b ∈ S) : ∀ (n : Nat) (v5 : Int32) (hv : PH), mT_spread_L38 a1 a2 p4 n v5 hv = some r → Fr S hv g → Fr S r g := by
  intro n
  induction n with
  | zero => intro v5 hv hm; cases hm
  | succ n ih =>
    intro v5 hv hm f
    unfold mT_spread_L38 at hm
    rcases ite_or hm with ⟨hc, hm⟩ | ⟨hc, hm⟩
    · cases hm
      exact f
    · refine wf_T_spread_L48 _ _ _ _ _ S g _ (fun b hb => hS b ((by decide : ∀ b, b ∈ ([96] : List Nat) → b ∈ ([96] : List Nat)) b hb)) (fun h16 hm f => ?_) _ _ _ hm f
      · exact ih _ _ hm f
theorem fpT_spread (a1 : Nat) (a2 : Nat) (p3 : Int32) (p4 : Int32) (h0 : PH) {r : PH} (hm : mT_spread a1 a2 p3 p4 h0 = some r) : Fr (FPdT_spread a1 a2 p3 p4) r h0 := by
  generalize hSe : FPdT_spread a1 a2 p3 p4 = S
  have hS : ∀ b, b ∈ ([96] : List Nat) → b ∈ S := by rw [← hSe]; exact fun b hb => hb
  generalize hge : h0 = g at ⊢
  have f : Fr S h0 g := by rw [hge]; exact fun _ _ => rfl
  unfold mT_spread at hm
  refine wf_T_spread_L3 _ _ _ _ _ S g _ (fun b hb => hS b ((by decide : ∀ b, b ∈ ([96] : List Nat) → b ∈ ([96] : List Nat)) b hb)) (fun h4 hm f => ?_) _ _ _ hm f
  · exact wf_T_spread_L38 _ _ _ S g _ (fun b hb => hS b ((by decide : ∀ b, b ∈ ([96] : List Nat) → b ∈ ([96] : List Nat)) b hb)) _ _ _ hm f
def FPdT_mostAlone (a1 : Nat) (a2 : Nat) : List Nat := [97]
theorem wf_T_mostAlone_L8 (a2 : Nat) (p3 : Int32) (k0 : PH → Option (Int32 × PH)) (S : List Nat) (g : PH) (r : Int32 × PH) (hS : ∀ b, b ∈ ([97] : List Nat) → b ∈ S) (kk0 : ∀ (y0 : PH), k0 y0 = some r → Fr S y0 g → Fr S r.2 g) : ∀ (n : Nat) (v4 : Int32) (hv : PH), mT_mostAlone_L8 a2 p3 k0 n v4 hv = some r → Fr S hv g → Fr S r.2 g := by
  intro n
  induction n with
  | zero => intro v4 hv hm; cases hm
  | succ n ih =>
    intro v4 hv hm f
    unfold mT_mostAlone_L8 at hm
    rcases ite_or hm with ⟨hc, hm⟩ | ⟨hc, hm⟩
    · exact kk0 _ hm f
    · obtain ⟨r2, -, hm⟩ := bd_s hm
      obtain ⟨-, hm⟩ := ck_s hm
      obtain ⟨h3, e1, hm⟩ := lt_some hm
      replace f : Fr S h3 g := by rw [e1]; exact up_fr f (hS _ (by decide))
      exact ih _ _ hm f
theorem wf_T_mostAlone_L43 (p3 : Int32) (h0 : PH) (S : List Nat) (g : PH) (r : Int32 × PH) (hS : ∀ b, b ∈ ([] : List Nat) → b ∈ S) (f : Fr S h0 g) : ∀ (n : Nat) (v4 : Int32) (v5 : Int32) (v6 : Int32), mT_mostAlone_L43 p3 h0 n v4 v5 v6 = some r → Fr S r.2 g := by
  intro n
  induction n with
  | zero => intro v4 v5 v6 hm; cases hm
  | succ n ih =>
    intro v4 v5 v6 hm
    unfold mT_mostAlone_L43 at hm
    rcases ite_or hm with ⟨hc, hm⟩ | ⟨hc, hm⟩
    · cases hm
      exact f
    · rcases ite_or hm with ⟨hc, hm⟩ | ⟨hc, hm⟩
      · obtain ⟨r5, -, hm⟩ := bd_s hm
        rcases ite_or hm with ⟨hc, hm⟩ | ⟨hc, hm⟩
        · exact ih _ _ _ hm
        · obtain ⟨r6, -, hm⟩ := bd_s hm
          rcases ite_or hm with ⟨hc, hm⟩ | ⟨hc, hm⟩
          · exact ih _ _ _ hm
          · obtain ⟨r7, -, hm⟩ := bd_s hm
            exact ih _ _ _ hm
      · exact ih _ _ _ hm
theorem fpT_mostAlone (a1 : Nat) (a2 : Nat) (h0 : PH) {r : Int32 × PH} (hm : mT_mostAlone a1 a2 h0 = some r) : Fr (FPdT_mostAlone a1 a2) r.2 h0 := by
  generalize hSe : FPdT_mostAlone a1 a2 = S
  have hS : ∀ b, b ∈ ([97] : List Nat) → b ∈ S := by rw [← hSe]; exact fun b hb => hb
  generalize hge : h0 = g at ⊢
  have f : Fr S h0 g := by rw [hge]; exact fun _ _ => rfl
  unfold mT_mostAlone at hm
  obtain ⟨r1, -, hm⟩ := bd_s hm
  refine wf_T_mostAlone_L8 _ _ _ S g _ (fun b hb => hS b ((by decide : ∀ b, b ∈ ([97] : List Nat) → b ∈ ([97] : List Nat)) b hb)) (fun h4 hm f => ?_) _ _ _ hm f
  · exact wf_T_mostAlone_L43 _ _ S g _ (fun b hb => hS b ((by decide : ∀ b, b ∈ ([] : List Nat) → b ∈ ([97] : List Nat)) b hb)) f _ _ _ _ hm
def FPdA_take (p1 : Int32) : List Nat := [86, 85]
theorem wf_A_take_L3 (p1 : Int32) (S : List Nat) (g : PH) (r : PH) (hS : ∀ b, b ∈ ([86, 85] : List Nat) → b ∈ S) : ∀ (n : Nat) (v2 : Int32) (hv : PH), mA_take_L3 p1 n v2 hv = some r → Fr S hv g → Fr S r g := by
  intro n
  induction n with
  | zero => intro v2 hv hm; cases hm
  | succ n ih =>
    intro v2 hv hm f
    unfold mA_take_L3 at hm
    rcases ite_or hm with ⟨hc, hm⟩ | ⟨hc, hm⟩
    · cases hm
      exact f
    · rcases ite_or hm with ⟨hc, hm⟩ | ⟨hc, hm⟩
      · exact ih _ _ hm f
      · obtain ⟨-, hm⟩ := ck_s hm
        obtain ⟨h1, e1, hm⟩ := lt_some hm
        replace f : Fr S h1 g := by rw [e1]; exact up_fr f (hS _ (by decide))
        obtain ⟨h2, e1, hm⟩ := lt_some hm
        replace f : Fr S h2 g := by rw [e1]; exact up_fr f (hS _ (by decide))
        exact ih _ _ hm f
theorem fpA_take (p1 : Int32) (h0 : PH) {r : PH} (hm : mA_take p1 h0 = some r) : Fr (FPdA_take p1) r h0 := by
  generalize hSe : FPdA_take p1 = S
  have hS : ∀ b, b ∈ ([86, 85] : List Nat) → b ∈ S := by rw [← hSe]; exact fun b hb => hb
  generalize hge : h0 = g at ⊢
  have f : Fr S h0 g := by rw [hge]; exact fun _ _ => rfl
  unfold mA_take at hm
  exact wf_A_take_L3 _ S g _ (fun b hb => hS b ((by decide : ∀ b, b ∈ ([86, 85] : List Nat) → b ∈ ([86, 85] : List Nat)) b hb)) _ _ _ hm f
def FPdA_keepToken (p1 : Int32) (p2 : Int32) (p3 : Int32) : List Nat := [87, 88, 89, 85]
