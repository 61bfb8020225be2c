def FPdX_cheapestWay (p1 : Int32) (p2 : Int32) (p3 : Int32) : List Nat := [96]
theorem fpX_cheapestWay (p1 : Int32) (p2 : Int32) (p3 : Int32) (h0 : PH) {r : Int32 × PH} (hm : mX_cheapestWay p1 p2 p3 h0 = some r) : Fr (FPdX_cheapestWay p1 p2 p3) r.2 h0 := by
  generalize hSe : FPdX_cheapestWay p1 p2 p3 = S
  have hS : ∀ b, b ∈ ([96] : List Nat) → b ∈ S := by rw [← hSe]; exact fun b hb => hb
  generalize hge : h0 = g at ⊢
  have f : Fr S h0 g := by rw [hge]; exact fun _ _ => rfl
  unfold mX_cheapestWay at hm
  obtain ⟨r1, -, hm⟩ := bd_s hm
  rcases ite_or hm with ⟨hc, hm⟩ | ⟨hc, hm⟩
  · cases hm
    exact f
  · obtain ⟨r2, -, hm⟩ := bd_s hm
    rcases ite_or hm with ⟨hc, hm⟩ | ⟨hc, hm⟩
    · cases hm
      exact f
    · obtain ⟨h3, he, hm⟩ := bd_s hm
      replace f := fr_tr f (fpT_spread _ _ _ _ _ he) (fun b hb => hS b ((by decide : ∀ b, b ∈ ([96] : List Nat) → b ∈ ([96] : List Nat)) b hb))
      obtain ⟨r4, -, hm⟩ := bd_s hm
      cases hm
      exact f
def FPdX_hears (p1 : Int32) (p2 : Int32) : List Nat := [96]
theorem fpX_hears (p1 : Int32) (p2 : Int32) (h0 : PH) {r : Int32 × PH} (hm : mX_hears p1 p2 h0 = some r) : Fr (FPdX_hears p1 p2) r.2 h0 := by
  generalize hSe : FPdX_hears p1 p2 = S
  have hS : ∀ b, b ∈ ([96] : List Nat) → b ∈ S := by rw [← hSe]; exact fun b hb => hb
  generalize hge : h0 = g at ⊢
  have f : Fr S h0 g := by rw [hge]; exact fun _ _ => rfl
  unfold mX_hears at hm
  obtain ⟨r1, h2, he, hm⟩ := bd2_s hm
  replace f := fr_tr f (fpX_cheapestWay _ _ _ _ he) (fun b hb => hS b ((by decide : ∀ b, b ∈ ([96] : List Nat) → b ∈ ([96] : List Nat)) b hb))
  cases hm
  exact f
def FPdX_heard (p1 : Int32) (p2 : Int32) : List Nat := [96]
theorem fpX_heard (p1 : Int32) (p2 : Int32) (h0 : PH) {r : Int32 × PH} (hm : mX_heard p1 p2 h0 = some r) : Fr (FPdX_heard p1 p2) r.2 h0 := by
  generalize hSe : FPdX_heard p1 p2 = S
  have hS : ∀ b, b ∈ ([96] : List Nat) → b ∈ S := by rw [← hSe]; exact fun b hb => hb
  generalize hge : h0 = g at ⊢
  have f : Fr S h0 g := by rw [hge]; exact fun _ _ => rfl
  unfold mX_heard at hm
  obtain ⟨r1, -, hm⟩ := bd_s hm
  rcases ite_or hm with ⟨hc, hm⟩ | ⟨hc, hm⟩
  · cases hm
    exact f
  · obtain ⟨r2, -, hm⟩ := bd_s hm
    rcases ite_or hm with ⟨hc, hm⟩ | ⟨hc, hm⟩
    · cases hm
      exact f
    · obtain ⟨h3, he, hm⟩ := bd_s hm
      replace f := fr_tr f (fpT_spread _ _ _ _ _ he) (fun b hb => hS b ((by decide : ∀ b, b ∈ ([96] : List Nat) → b ∈ ([96] : List Nat)) b hb))
      obtain ⟨r4, -, hm⟩ := bd_s hm
      cases hm
      exact f
def FPdX_ants (p1 : Int32) (p2 : Int32) : List Nat := [96]
theorem fpX_ants (p1 : Int32) (p2 : Int32) (h0 : PH) {r : Int32 × PH} (hm : mX_ants p1 p2 h0 = some r) : Fr (FPdX_ants p1 p2) r.2 h0 := by
  generalize hSe : FPdX_ants p1 p2 = S
  have hS : ∀ b, b ∈ ([96] : List Nat) → b ∈ S := by rw [← hSe]; exact fun b hb => hb
  generalize hge : h0 = g at ⊢
  have f : Fr S h0 g := by rw [hge]; exact fun _ _ => rfl
  unfold mX_ants at hm
  obtain ⟨r1, h2, he, hm⟩ := bd2_s hm
  replace f := fr_tr f (fpX_cheapestWay _ _ _ _ he) (fun b hb => hS b ((by decide : ∀ b, b ∈ ([96] : List Nat) → b ∈ ([96] : List Nat)) b hb))
  cases hm
  exact f
def FPdX_tell (a0 : Nat) (p1 : Int32) (p2 : Int32) (p3 : Int32) (p4 : Int32) : List Nat := [(a0 + 1), a0]
theorem fpX_tell (a0 : Nat) (p1 : Int32) (p2 : Int32) (p3 : Int32) (p4 : Int32) (h0 : PH) {r : Int32 × PH} (hm : mX_tell a0 p1 p2 p3 p4 h0 = some r) : Fr (FPdX_tell a0 p1 p2 p3 p4) r.2 h0 := by
  generalize hSe : FPdX_tell a0 p1 p2 p3 p4 = S
  have hS : ∀ b, b ∈ ([(a0 + 1), a0] : List Nat) → b ∈ S := by rw [← hSe]; exact fun b hb => hb
  generalize hge : h0 = g at ⊢
  have f : Fr S h0 g := by rw [hge]; exact fun _ _ => rfl
  unfold mX_tell at hm
  rcases ite_or hm with ⟨hc, hm⟩ | ⟨hc, hm⟩
  · rcases ite_or hm with ⟨hc, hm⟩ | ⟨hc, hm⟩
    · cases hm
      exact f
    · obtain ⟨r1, h2, he, hm⟩ := bd2_s hm
      replace f := fr_tr f (fpR_add _ _ _ _ _ _ _ he) (fun b hb => hS b (by simp only [FPdR_add, List.mem_cons, List.not_mem_nil, or_false] at hb ⊢; omega))
      rcases ite_or hm with ⟨hc, hm⟩ | ⟨hc, hm⟩
      · cases hm
        exact f
      · cases hm
        exact f
  · obtain ⟨h3, e1, hm⟩ := lt_some hm
    replace f : Fr S h3 g := by rw [e1]; exact up_fr f (hS _ (by first | simp; done | (simp only [List.mem_cons, List.not_mem_nil, or_false]; omega)))
    cases hm
    exact f
def FPdX_piece (p1 : Int32) : List Nat := [19, 18]
theorem fpX_piece (p1 : Int32) (h0 : PH) {r : Int32 × PH} (hm : mX_piece p1 h0 = some r) : Fr (FPdX_piece p1) r.2 h0 := by
  generalize hSe : FPdX_piece p1 = S
  have hS : ∀ b, b ∈ ([19, 18] : List Nat) → b ∈ S := by rw [← hSe]; exact fun b hb => hb
  generalize hge : h0 = g at ⊢
  have f : Fr S h0 g := by rw [hge]; exact fun _ _ => rfl
  unfold mX_piece at hm
  refine v_j1 (fun (x2 : Int32) => Fr S r.2 g) hm (fun x2 hm => ?_) (fun j1 kj1 hm => ?_)
  · obtain ⟨r3, -, hm⟩ := bd_s hm
    obtain ⟨r4, h5, he, hm⟩ := bd2_s hm
    replace f := fr_tr f (fpX_tell _ _ _ _ _ _ he) (fun b hb => hS b (by simp only [FPdX_tell, List.mem_cons, List.not_mem_nil, or_false] at hb ⊢; omega))
    cases hm
    exact f
  · rcases ite_or hm with ⟨hc, hm⟩ | ⟨hc, hm⟩
    · exact kj1 _ hm
    · exact kj1 _ hm
def FPdX_dough (p1 : Int32) : List Nat := [21, 20]
theorem fpX_dough (p1 : Int32) (h0 : PH) {r : Int32 × PH} (hm : mX_dough p1 h0 = some r) : Fr (FPdX_dough p1) r.2 h0 := by
  generalize hSe : FPdX_dough p1 = S
  have hS : ∀ b, b ∈ ([21, 20] : List Nat) → b ∈ S := by rw [← hSe]; exact fun b hb => hb
  generalize hge : h0 = g at ⊢
  have f : Fr S h0 g := by rw [hge]; exact fun _ _ => rfl
  unfold mX_dough at hm
  refine v_j1 (fun (x2 : Int32) => Fr S r.2 g) hm (fun x2 hm => ?_) (fun j1 kj1 hm => ?_)
  · obtain ⟨r3, -, hm⟩ := bd_s hm
    obtain ⟨r4, h5, he, hm⟩ := bd2_s hm
    replace f := fr_tr f (fpX_tell _ _ _ _ _ _ he) (fun b hb => hS b (by simp only [FPdX_tell, List.mem_cons, List.not_mem_nil, or_false] at hb ⊢; omega))
    cases hm
    exact f
  · rcases ite_or hm with ⟨hc, hm⟩ | ⟨hc, hm⟩
    · exact kj1 _ hm
    · exact kj1 _ hm
def FPdX_pans (p1 : Int32) (p2 : Int32) : List Nat := [99]
theorem fpX_pans (p1 : Int32) (p2 : Int32) (h0 : PH) {r : Int32 × PH} (hm : mX_pans p1 p2 h0 = some r) : Fr (FPdX_pans p1 p2) r.2 h0 := by
  generalize hSe : FPdX_pans p1 p2 = S
  have hS : ∀ b, b ∈ ([99] : List Nat) → b ∈ S := by rw [← hSe]; exact fun b hb => hb
  generalize hge : h0 = g at ⊢
  have f : Fr S h0 g := by rw [hge]; exact fun _ _ => rfl
  unfold mX_pans at hm
  obtain ⟨r1, -, hm⟩ := bd_s hm
  rcases ite_or hm with ⟨hc, hm⟩ | ⟨hc, hm⟩
  · cases hm
    exact f
  · obtain ⟨r2, -, hm⟩ := bd_s hm
    rcases ite_or hm with ⟨hc, hm⟩ | ⟨hc, hm⟩
    · cases hm
      exact f
    · obtain ⟨r3, -, hm⟩ := bd_s hm
      rcases ite_or hm with ⟨hc, hm⟩ | ⟨hc, hm⟩
      · rcases ite_or hm with ⟨hc, hm⟩ | ⟨hc, hm⟩
        · obtain ⟨r4, h5, he, hm⟩ := bd2_s hm
          replace f := fr_tr f (fpK_fewestPans _ _ _ he) (fun b hb => hS b ((by decide : ∀ b, b ∈ ([99] : List Nat) → b ∈ ([99] : List Nat)) b hb))
          cases hm
          exact f
        · obtain ⟨r6, h7, he, hm⟩ := bd2_s hm
          replace f := fr_tr f (fpK_firstFitPans _ _ _ he) (fun b hb => hS b ((by decide : ∀ b, b ∈ ([99] : List Nat) → b ∈ ([99] : List Nat)) b hb))
          cases hm
          exact f
      · cases hm
        exact f
def FPdX_mark (p1 : Int32) : List Nat := [23, 22]
theorem fpX_mark (p1 : Int32) (h0 : PH) {r : Int32 × PH} (hm : mX_mark p1 h0 = some r) : Fr (FPdX_mark p1) r.2 h0 := by
  generalize hSe : FPdX_mark p1 = S
  have hS : ∀ b, b ∈ ([23, 22] : List Nat) → b ∈ S := by rw [← hSe]; exact fun b hb => hb
  generalize hge : h0 = g at ⊢
  have f : Fr S h0 g := by rw [hge]; exact fun _ _ => rfl
  unfold mX_mark at hm
  refine v_j1 (fun (x2 : Int32) => Fr S r.2 g) hm (fun x2 hm => ?_) (fun j1 kj1 hm => ?_)
  · obtain ⟨r3, -, hm⟩ := bd_s hm
    obtain ⟨r4, h5, he, hm⟩ := bd2_s hm
    replace f := fr_tr f (fpX_tell _ _ _ _ _ _ he) (fun b hb => hS b (by simp only [FPdX_tell, List.mem_cons, List.not_mem_nil, or_false] at hb ⊢; omega))
    cases hm
    exact f
  · rcases ite_or hm with ⟨hc, hm⟩ | ⟨hc, hm⟩
    · exact kj1 _ hm
    · exact kj1 _ hm
def FPdX_bite (p1 : Int32) (p2 : Int32) : List Nat := [25, 24]
theorem fpX_bite (p1 : Int32) (p2 : Int32) (h0 : PH) {r : Int32 × PH} (hm : mX_bite p1 p2 h0 = some r) : Fr (FPdX_bite p1 p2) r.2 h0 := by
  generalize hSe : FPdX_bite p1 p2 = S
  have hS : ∀ b, b ∈ ([25, 24] : List Nat) → b ∈ S := by rw [← hSe]; exact fun b hb => hb
  generalize hge : h0 = g at ⊢
  have f : Fr S h0 g := by rw [hge]; exact fun _ _ => rfl
  unfold mX_bite at hm
  refine v_j1 (fun (x2 : Int32) => Fr S r.2 g) hm (fun x2 hm => ?_) (fun j1 kj1 hm => ?_)
  · obtain ⟨r3, -, hm⟩ := bd_s hm
    refine v_j1 (fun (x5 : Int32) => Fr S r.2 g) hm (fun x5 hm => ?_) (fun j4 kj4 hm => ?_)
    · obtain ⟨r6, h7, he, hm⟩ := bd2_s hm
      replace f := fr_tr f (fpX_tell _ _ _ _ _ _ he) (fun b hb => hS b (by simp only [FPdX_tell, List.mem_cons, List.not_mem_nil, or_false] at hb ⊢; omega))
      cases hm
      exact f
    · rcases ite_or hm with ⟨hc, hm⟩ | ⟨hc, hm⟩
      · exact kj4 _ hm
      · obtain ⟨r8, -, hm⟩ := bd_s hm
        rcases ite_or hm with ⟨hc, hm⟩ | ⟨hc, hm⟩
        · exact kj4 _ hm
        · exact kj4 _ hm
  · rcases ite_or hm with ⟨hc, hm⟩ | ⟨hc, hm⟩
    · exact kj1 _ hm
    · exact kj1 _ hm
def FPdX_crumb (p1 : Int32) : List Nat := [27, 26]
theorem fpX_crumb (p1 : Int32) (h0 : PH) {r : Int32 × PH} (hm : mX_crumb p1 h0 = some r) : Fr (FPdX_crumb p1) r.2 h0 := by
  generalize hSe : FPdX_crumb p1 = S
  have hS : ∀ b, b ∈ ([27, 26] : List Nat) → b ∈ S := by rw [← hSe]; exact fun b hb => hb
  generalize hge : h0 = g at ⊢
  have f : Fr S h0 g := by rw [hge]; exact fun _ _ => rfl
  unfold mX_crumb at hm
  refine v_j1 (fun (x2 : Int32) => Fr S r.2 g) hm (fun x2 hm => ?_) (fun j1 kj1 hm => ?_)
  · obtain ⟨r3, -, hm⟩ := bd_s hm
    obtain ⟨r4, h5, he, hm⟩ := bd2_s hm
    replace f := fr_tr f (fpX_tell _ _ _ _ _ _ he) (fun b hb => hS b (by simp only [FPdX_tell, List.mem_cons, List.not_mem_nil, or_false] at hb ⊢; omega))
    cases hm
    exact f
  · rcases ite_or hm with ⟨hc, hm⟩ | ⟨hc, hm⟩
    · exact kj1 _ hm
    · exact kj1 _ hm
def FPdX_crumbs (p1 : Int32) : List Nat := [100, 101]
theorem fpX_crumbs (p1 : Int32) (h0 : PH) {r : Int32 × PH} (hm : mX_crumbs p1 h0 = some r) : Fr (FPdX_crumbs p1) r.2 h0 := by
  generalize hSe : FPdX_crumbs p1 = S
  have hS : ∀ b, b ∈ ([100, 101] : List Nat) → b ∈ S := by rw [← hSe]; exact fun b hb => hb
  generalize hge : h0 = g at ⊢
  have f : Fr S h0 g := by rw [hge]; exact fun _ _ => rfl
  unfold mX_crumbs at hm
  obtain ⟨r1, -, hm⟩ := bd_s hm
  rcases ite_or hm with ⟨hc, hm⟩ | ⟨hc, hm⟩
  · cases hm
    exact f
  · rcases ite_or hm with ⟨hc, hm⟩ | ⟨hc, hm⟩
    · obtain ⟨r2, h3, he, hm⟩ := bd2_s hm
      replace f := fr_tr f (fpK_wayHome _ _ he) (fun b hb => hS b ((by decide : ∀ b, b ∈ ([100, 101] : List Nat) → b ∈ ([100, 101] : List Nat)) b hb))
      cases hm
      exact f
    · obtain ⟨r4, h5, he, hm⟩ := bd2_s hm
      replace f := fr_tr f (fpK_placesCrossed _ _ he) (fun b hb => hS b ((by decide : ∀ b, b ∈ ([100, 101] : List Nat) → b ∈ ([100, 101] : List Nat)) b hb))
      cases hm
      exact f
def FPdX_loaf (p1 : Int32) (p2 : Int32) : List Nat := [29, 28]
theorem fpX_loaf (p1 : Int32) (p2 : Int32) (h0 : PH) {r : Int32 × PH} (hm : mX_loaf p1 p2 h0 = some r) : Fr (FPdX_loaf p1 p2) r.2 h0 := by
  generalize hSe : FPdX_loaf p1 p2 = S
  have hS : ∀ b, b ∈ ([29, 28] : List Nat) → b ∈ S := by rw [← hSe]; exact fun b hb => hb
  generalize hge : h0 = g at ⊢
  have f : Fr S h0 g := by rw [hge]; exact fun _ _ => rfl
  unfold mX_loaf at hm
  refine v_j1 (fun (x2 : Int32) => Fr S r.2 g) hm (fun x2 hm => ?_) (fun j1 kj1 hm => ?_)
  · obtain ⟨r3, -, hm⟩ := bd_s hm
    refine v_j1 (fun (x5 : Int32) => Fr S r.2 g) hm (fun x5 hm => ?_) (fun j4 kj4 hm => ?_)
    · obtain ⟨r6, h7, he, hm⟩ := bd2_s hm
      replace f := fr_tr f (fpX_tell _ _ _ _ _ _ he) (fun b hb => hS b (by simp only [FPdX_tell, List.mem_cons, List.not_mem_nil, or_false] at hb ⊢; omega))
      cases hm
      exact f
    · rcases ite_or hm with ⟨hc, hm⟩ | ⟨hc, hm⟩
      · exact kj4 _ hm
      · obtain ⟨r8, -, hm⟩ := bd_s hm
        rcases ite_or hm with ⟨hc, hm⟩ | ⟨hc, hm⟩
        · exact kj4 _ hm
        · exact kj4 _ hm
  · rcases ite_or hm with ⟨hc, hm⟩ | ⟨hc, hm⟩
    · exact kj1 _ hm
    · exact kj1 _ hm
def FPdX_alone (p1 : Int32) : List Nat := [97]
theorem fpX_alone (p1 : Int32) (h0 : PH) {r : Int32 × PH} (hm : mX_alone p1 h0 = some r) : Fr (FPdX_alone p1) r.2 h0 := by
  generalize hSe : FPdX_alone p1 = S
  have hS : ∀ b, b ∈ ([97] : List Nat) → b ∈ S := by rw [← hSe]; exact fun b hb => hb
  generalize hge : h0 = g at ⊢
  have f : Fr S h0 g := by rw [hge]; exact fun _ _ => rfl
  unfold mX_alone at hm
  obtain ⟨r1, -, hm⟩ := bd_s hm
  rcases ite_or hm with ⟨hc, hm⟩ | ⟨hc, hm⟩
  · cases hm
    exact f
  · obtain ⟨r2, h3, he, hm⟩ := bd2_s hm
    replace f := fr_tr f (fpT_mostAlone _ _ _ he) (fun b hb => hS b ((by decide : ∀ b, b ∈ ([97] : List Nat) → b ∈ ([97] : List Nat)) b hb))
    rcases ite_or hm with ⟨hc, hm⟩ | ⟨hc, hm⟩
    · obtain ⟨r4, -, hm⟩ := bd_s hm
      cases hm
      exact f
    · cases hm
      exact f
def FPdX_heir (p1 : Int32) (p2 : Int32) : List Nat := [31, 30]
theorem fpX_heir (p1 : Int32) (p2 : Int32) (h0 : PH) {r : Int32 × PH} (hm : mX_heir p1 p2 h0 = some r) : Fr (FPdX_heir p1 p2) r.2 h0 := by
  generalize hSe : FPdX_heir p1 p2 = S
  have hS : ∀ b, b ∈ ([31, 30] : List Nat) → b ∈ S := by rw [← hSe]; exact fun b hb => hb
  generalize hge : h0 = g at ⊢
  have f : Fr S h0 g := by rw [hge]; exact fun _ _ => rfl
  unfold mX_heir at hm
  obtain ⟨r1, -, hm⟩ := bd_s hm
  refine v_j1 (fun (x3 : Int32) => Fr S r.2 g) hm (fun x3 hm => ?_) (fun j2 kj2 hm => ?_)
  · refine v_j1 (fun (x5 : Int32) => Fr S r.2 g) hm (fun x5 hm => ?_) (fun j4 kj4 hm => ?_)
    · obtain ⟨r6, h7, he, hm⟩ := bd2_s hm
      replace f := fr_tr f (fpX_tell _ _ _ _ _ _ he) (fun b hb => hS b (by simp only [FPdX_tell, List.mem_cons, List.not_mem_nil, or_false] at hb ⊢; omega))
      cases hm
      exact f
    · rcases ite_or hm with ⟨hc, hm⟩ | ⟨hc, hm⟩
      · exact kj4 _ hm
      · exact kj4 _ hm
  · rcases ite_or hm with ⟨hc, hm⟩ | ⟨hc, hm⟩
    · exact kj2 _ hm
    · obtain ⟨r8, -, hm⟩ := bd_s hm
      rcases ite_or hm with ⟨hc, hm⟩ | ⟨hc, hm⟩
      · exact kj2 _ hm
      · rcases ite_or hm with ⟨hc, hm⟩ | ⟨hc, hm⟩
        · exact kj2 _ hm
        · exact kj2 _ hm
def FPdX_member (p1 : Int32) (p2 : Int32) : List Nat := [33, 32]
theorem fpX_member (p1 : Int32) (p2 : Int32) (h0 : PH) {r : Int32 × PH} (hm : mX_member p1 p2 h0 = some r) : Fr (FPdX_member p1 p2) r.2 h0 := by
  generalize hSe : FPdX_member p1 p2 = S
  have hS : ∀ b, b ∈ ([33, 32] : List Nat) → b ∈ S := by rw [← hSe]; exact fun b hb => hb
  generalize hge : h0 = g at ⊢
  have f : Fr S h0 g := by rw [hge]; exact fun _ _ => rfl
  unfold mX_member at hm
  refine v_j1 (fun (x2 : Int32) => Fr S r.2 g) hm (fun x2 hm => ?_) (fun j1 kj1 hm => ?_)
  · obtain ⟨r3, -, hm⟩ := bd_s hm
    refine v_j1 (fun (x5 : Int32) => Fr S r.2 g) hm (fun x5 hm => ?_) (fun j4 kj4 hm => ?_)
    · obtain ⟨r6, h7, he, hm⟩ := bd2_s hm
      replace f := fr_tr f (fpX_tell _ _ _ _ _ _ he) (fun b hb => hS b (by simp only [FPdX_tell, List.mem_cons, List.not_mem_nil, or_false] at hb ⊢; omega))
      cases hm
      exact f
    · rcases ite_or hm with ⟨hc, hm⟩ | ⟨hc, hm⟩
      · exact kj4 _ hm
      · obtain ⟨r8, -, hm⟩ := bd_s hm
        rcases ite_or hm with ⟨hc, hm⟩ | ⟨hc, hm⟩
        · exact kj4 _ hm
        · exact kj4 _ hm
  · rcases ite_or hm with ⟨hc, hm⟩ | ⟨hc, hm⟩
    · exact kj1 _ hm
    · exact kj1 _ hm
def FPdX_game (p1 : Int32) (p2 : Int32) : List Nat := [103, 102]
theorem fpX_game (p1 : Int32) (p2 : Int32) (h0 : PH) {r : Int32 × PH} (hm : mX_game p1 p2 h0 = some r) : Fr (FPdX_game p1 p2) r.2 h0 := by
  generalize hSe : FPdX_game p1 p2 = S
  have hS : ∀ b, b ∈ ([103, 102] : List Nat) → b ∈ S := by rw [← hSe]; exact fun b hb => hb
  generalize hge : h0 = g at ⊢
  have f : Fr S h0 g := by rw [hge]; exact fun _ _ => rfl
  unfold mX_game at hm
  obtain ⟨r1, -, hm⟩ := bd_s hm
  rcases ite_or hm with ⟨hc, hm⟩ | ⟨hc, hm⟩
  · cases hm
    exact f
  · obtain ⟨r2, -, hm⟩ := bd_s hm
    rcases ite_or hm with ⟨hc, hm⟩ | ⟨hc, hm⟩
    · cases hm
      exact f
    · obtain ⟨r3, h4, he, hm⟩ := bd2_s hm
      replace f := fr_tr f (fpL_bestBite _ _ _ he) (fun b hb => hS b ((by decide : ∀ b, b ∈ ([103, 102] : List Nat) → b ∈ ([103, 102] : List Nat)) b hb))
      cases hm
      exact f
def FPdX_undo : List Nat := [70, 2, 1, 16]
theorem fpX_undo (h0 : PH) {r : Int32 × PH} (hm : mX_undo h0 = some r) : Fr (FPdX_undo ) r.2 h0 := by
  generalize hSe : FPdX_undo = S
  have hS : ∀ b, b ∈ ([70, 2, 1, 16] : List Nat) → b ∈ S := by rw [← hSe]; exact fun b hb => hb
  generalize hge : h0 = g at ⊢
  have f : Fr S h0 g := by rw [hge]; exact fun _ _ => rfl
  unfold mX_undo at hm
  rcases ite_or hm with ⟨hc, hm⟩ | ⟨hc, hm⟩
  · cases hm
    exact f
  · obtain ⟨r1, h2, he, hm⟩ := bd2_s hm
    replace f := fr_tr f (fpP_goBack _ _ he) (fun b hb => hS b (by simp only [FPdP_goBack, List.mem_cons, List.not_mem_nil, or_false] at hb ⊢; omega))
    obtain ⟨h3, e1, hm⟩ := lt_some hm
    replace f : Fr S h3 g := by rw [e1]; exact up_fr f (hS _ (by decide))
    cases hm
    exact f
def FPdX_image (p1 : Int32) : List Nat := [2, 1, 7, 6, 9, 8, 11, 10, 13, 12, 15, 14, 17, 16, 19, 18, 21, 20, 23, 22, 25, 24, 27, 26, 29, 28, 31, 30, 33, 32, 70, 38, 37, 41, 40, 43, 42, 45, 44, 47, 46, 49, 48, 51, 50, 53, 52, 55, 54, 57, 56, 59, 58, 61, 60, 63, 62, 65, 64, 67, 66, 0]
theorem fpX_image (p1 : Int32) (h0 : PH) {r : Int32 × PH} (hm : mX_image p1 h0 = some r) : Fr (FPdX_image p1) r.2 h0 := by
  generalize hSe : FPdX_image p1 = S
  have hS : ∀ b, b ∈ ([2, 1, 7, 6, 9, 8, 11, 10, 13, 12, 15, 14, 17, 16, 19, 18, 21, 20, 23, 22, 25, 24, 27, 26, 29, 28, 31, 30, 33, 32, 70, 38, 37, 41, 40, 43, 42, 45, 44, 47, 46, 49, 48, 51, 50, 53, 52, 55, 54, 57, 56, 59, 58, 61, 60, 63, 62, 65, 64, 67, 66, 0] : List Nat) → b ∈ S := by rw [← hSe]; exact fun b hb => hb
  generalize hge : h0 = g at ⊢
  have f : Fr S h0 g := by rw [hge]; exact fun _ _ => rfl
  unfold mX_image at hm
  rcases ite_or hm with ⟨hc, hm⟩ | ⟨hc, hm⟩
  · rcases ite_or hm with ⟨hc, hm⟩ | ⟨hc, hm⟩
    · cases hm
      exact f
    · obtain ⟨h1, he, hm⟩ := bd_s hm
      replace f := fr_tr f (fpB_copyFrom _ _ _ he) (fun b hb => hS b (by simp only [FPdB_copyFrom, List.mem_cons, List.not_mem_nil, or_false] at hb ⊢; omega))
      obtain ⟨h2, he, hm⟩ := bd_s hm
      replace f := fr_tr f (fpO_copyFrom _ _ _ he) (fun b hb => hS b (by simp only [FPdO_copyFrom, List.mem_cons, List.not_mem_nil, or_false] at hb ⊢; omega))
      obtain ⟨h3, he, hm⟩ := bd_s hm
      replace f := fr_tr f (fpP_forget _ he) (fun b hb => hS b ((by decide : ∀ b, b ∈ ([70] : List Nat) → b ∈ ([2, 1, 7, 6, 9, 8, 11, 10, 13, 12, 15, 14, 17, 16, 19, 18, 21, 20, 23, 22, 25, 24, 27, 26, 29, 28, 31, 30, 33, 32, 70, 38, 37, 41, 40, 43, 42, 45, 44, 47, 46, 49, 48, 51, 50, 53, 52, 55, 54, 57, 56, 59, 58, 61, 60, 63, 62, 65, 64, 67, 66, 0] : List Nat)) b hb))
      cases hm
      exact f
  · obtain ⟨h4, he, hm⟩ := bd_s hm
    replace f := fr_tr f (fpB_copyFrom _ _ _ he) (fun b hb => hS b (by simp only [FPdB_copyFrom, List.mem_cons, List.not_mem_nil, or_false] at hb ⊢; omega))
    obtain ⟨h5, he, hm⟩ := bd_s hm
    replace f := fr_tr f (fpO_copyFrom _ _ _ he) (fun b hb => hS b (by simp only [FPdO_copyFrom, List.mem_cons, List.not_mem_nil, or_false] at hb ⊢; omega))
    obtain ⟨h6, e1, hm⟩ := lt_some hm
    replace f : Fr S h6 g := by rw [e1]; exact up_fr f (hS _ (by decide))
    cases hm
    exact f
