/-! FRAMES of the model by slot of its object (cell 104, field j: key 1000 + j) and by cell. Printed by wip/gen/fpk.py -/
def kk (b j : Nat) : Nat := if b = 104 then 1000 + j else b
def Fk (S : List Nat) (h g : PH) : Prop := ∀ b j, kk b j ∉ S → h b j = g b j
theorem up_fk {S : List Nat} {h g : PH} {a j : Nat} {x : Int32} (f : Fk S h g) (h4 : a ≠ 104) (ha : a ∈ S) : Fk S (up h a j x) g := fun b q hb => by
  have : ¬ b = a := fun e => hb (by rw [e]; unfold kk; rw [if_neg h4]; exact ha)
  simp only [up, setC, this, if_false]
  exact f b q hb
theorem up_fk4 {S : List Nat} {h g : PH} {j : Nat} {x : Int32} (f : Fk S h g) (ha : 1000 + j ∈ S) : Fk S (up h 104 j x) g := fun b q hb => by
  by_cases e : b = 104
  · subst e
    have : q ≠ j := fun e => hb (by rw [e]; unfold kk; rw [if_pos rfl]; exact ha)
    rw [up_oj this]
    exact f 104 q hb
  · rw [up_oc e]
    exact f b q hb
theorem fk_tr {S T : List Nat} {h k g : PH} (f : Fk S h g) (e : Fk T k h) (i : ∀ b, b ∈ T → b ∈ S) : Fk S k g := fun b q hb => (e b q (fun z => hb (i _ z))).trans (f b q hb)
def FKdm_keepsAhead : List Nat := [1003, 106]
theorem wk_m_keepsAhead_L55 (k0 : PH → Option (PH)) (S : List Nat) (g : PH) (r : PH) (hS : ∀ b, b ∈ ([106] : List Nat) → b ∈ S) (kk0 : ∀ (y0 : PH), k0 y0 = some r → Fk S y0 g → Fk S r g) : ∀ (n : Nat) (v1 : Int32) (hv : PH), mm_keepsAhead_L55 k0 n v1 hv = some r → Fk S hv g → Fk S r g := by
  intro n
  induction n with
  | zero => intro v1 hv hm; cases hm
  | succ n ih =>
    intro v1 hv hm f
    unfold mm_keepsAhead_L55 at hm
    rcases ite_or hm with ⟨hc, hm⟩ | ⟨hc, hm⟩
    · exact kk0 _ hm f
    · obtain ⟨-, hm⟩ := ck_s hm
      obtain ⟨-, hm⟩ := ck_s hm
      obtain ⟨h3, e1, hm⟩ := lt_some hm
      replace f : Fk S h3 g := by rw [e1]; exact up_fk f (by decide) (hS _ (by decide))
      exact ih _ _ hm f
theorem wk_m_keepsAhead_L21 (k0 : PH → Option (PH)) (S : List Nat) (g : PH) (r : PH) (hS : ∀ b, b ∈ ([106] : List Nat) → b ∈ S) (kk0 : ∀ (y0 : PH), k0 y0 = some r → Fk S y0 g → Fk S r g) : ∀ (n : Nat) (v1 : Int32) (hv : PH), mm_keepsAhead_L21 k0 n v1 hv = some r → Fk S hv g → Fk S r g := by
  intro n
  induction n with
  | zero => intro v1 hv hm; cases hm
  | succ n ih =>
    intro v1 hv hm f
    unfold mm_keepsAhead_L21 at hm
    rcases ite_or hm with ⟨hc, hm⟩ | ⟨hc, hm⟩
    · exact kk0 _ hm f
    · obtain ⟨-, hm⟩ := ck_s hm
      obtain ⟨-, hm⟩ := ck_s hm
      obtain ⟨h7, e1, hm⟩ := lt_some hm
      replace f : Fk S h7 g := by rw [e1]; exact up_fk f (by decide) (hS _ (by decide))
      exact ih _ _ hm f
theorem fkm_keepsAhead (h0 : PH) {r : PH} (hm : mm_keepsAhead h0 = some r) : Fk (FKdm_keepsAhead ) r h0 := by
  generalize hSe : FKdm_keepsAhead = S
  have hS : ∀ b, b ∈ ([1003, 106] : List Nat) → b ∈ S := by rw [← hSe]; exact fun b hb => hb
  generalize hge : h0 = g at ⊢
  have f : Fk S h0 g := by rw [hge]; exact fun _ _ _ => rfl
  unfold mm_keepsAhead at hm
  refine v_j1 (fun (h2 : PH) => Fk S h2 g → Fk S r g) hm (fun h2 hm f => ?_) (fun j1 kj1 hm => ?_)
  · refine wk_m_keepsAhead_L55 _ S g _ (fun b hb => hS b ((by decide +kernel : ∀ b, b ∈ ([106] : List Nat) → b ∈ ([1003, 106] : List Nat)) b hb)) (fun h4 hm f => ?_) _ _ _ hm f
    · obtain ⟨h5, e1, hm⟩ := lt_some hm
      replace f : Fk S h5 g := by rw [e1]; exact up_fk4 f (hS _ (by decide))
      cases hm
      exact f
  · rcases ite_or hm with ⟨hc, hm⟩ | ⟨hc, hm⟩
    · obtain ⟨h6, e1, hm⟩ := lt_some hm
      replace f : Fk S h6 g := by rw [e1]; exact up_fk4 f (hS _ (by decide))
      refine wk_m_keepsAhead_L21 _ S g _ (fun b hb => hS b ((by decide +kernel : ∀ b, b ∈ ([106] : List Nat) → b ∈ ([1003, 106] : List Nat)) b hb)) (fun h8 hm f => ?_) _ _ _ hm f
      · exact kj1 _ hm f
    · exact kj1 _ hm f
def FKdm_undo : List Nat := [1000, 1003, 105]
theorem wk_m_undo_L26  (S : List Nat) (g : PH) (r : Int32 × PH) (hS : ∀ b, b ∈ ([105] : List Nat) → b ∈ S) : ∀ (n : Nat) (v1 : Int32) (hv : PH), mm_undo_L26  n v1 hv = some r → Fk S hv g → Fk S r.2 g := by
  intro n
  induction n with
  | zero => intro v1 hv hm; cases hm
  | succ n ih =>
    intro v1 hv hm f
    unfold mm_undo_L26 at hm
    rcases ite_or hm with ⟨hc, hm⟩ | ⟨hc, hm⟩
    · cases hm
      exact f
    · obtain ⟨-, hm⟩ := ck_s hm
      obtain ⟨-, hm⟩ := ck_s hm
      obtain ⟨h3, e1, hm⟩ := lt_some hm
      replace f : Fk S h3 g := by rw [e1]; exact up_fk f (by decide) (hS _ (by decide))
      exact ih _ _ hm f
theorem fkm_undo (h0 : PH) {r : Int32 × PH} (hm : mm_undo h0 = some r) : Fk (FKdm_undo ) r.2 h0 := by
  generalize hSe : FKdm_undo = S
  have hS : ∀ b, b ∈ ([1000, 1003, 105] : List Nat) → b ∈ S := by rw [← hSe]; exact fun b hb => hb
  generalize hge : h0 = g at ⊢
  have f : Fk S h0 g := by rw [hge]; exact fun _ _ _ => rfl
  unfold mm_undo at hm
  obtain ⟨h1, e1, hm⟩ := lt_some hm
  replace f : Fk S h1 g := by rw [e1]; exact up_fk4 f (hS _ (by decide))
  rcases ite_or hm with ⟨hc, hm⟩ | ⟨hc, hm⟩
  · cases hm
    exact f
  · obtain ⟨h2, e1, hm⟩ := lt_some hm
    replace f : Fk S h2 g := by rw [e1]; exact up_fk4 f (hS _ (by decide))
    exact wk_m_undo_L26 S g _ (fun b hb => hS b ((by decide +kernel : ∀ b, b ∈ ([105] : List Nat) → b ∈ ([1000, 1003, 105] : List Nat)) b hb)) _ _ _ hm f
def FKdm_thinks : List Nat := [1005, 107]
theorem wk_m_thinks_L2 (k0 : PH → Option (PH)) (S : List Nat) (g : PH) (r : PH) (hS : ∀ b, b ∈ ([107] : List Nat) → b ∈ S) (kk0 : ∀ (y0 : PH), k0 y0 = some r → Fk S y0 g → Fk S r g) : ∀ (n : Nat) (v1 : Int32) (hv : PH), mm_thinks_L2 k0 n v1 hv = some r → Fk S hv g → Fk S r g := by
  intro n
  induction n with
  | zero => intro v1 hv hm; cases hm
  | succ n ih =>
    intro v1 hv hm f
    unfold mm_thinks_L2 at hm
    rcases ite_or hm with ⟨hc, hm⟩ | ⟨hc, hm⟩
    · exact kk0 _ hm f
    · obtain ⟨-, hm⟩ := ck_s hm
      obtain ⟨-, hm⟩ := ck_s hm
      obtain ⟨h1, e1, hm⟩ := lt_some hm
      replace f : Fk S h1 g := by rw [e1]; exact up_fk f (by decide) (hS _ (by decide))
      exact ih _ _ hm f
theorem fkm_thinks (h0 : PH) {r : PH} (hm : mm_thinks h0 = some r) : Fk (FKdm_thinks ) r h0 := by
  generalize hSe : FKdm_thinks = S
  have hS : ∀ b, b ∈ ([1005, 107] : List Nat) → b ∈ S := by rw [← hSe]; exact fun b hb => hb
  generalize hge : h0 = g at ⊢
  have f : Fk S h0 g := by rw [hge]; exact fun _ _ _ => rfl
  unfold mm_thinks at hm
  refine wk_m_thinks_L2 _ S g _ (fun b hb => hS b ((by decide +kernel : ∀ b, b ∈ ([107] : List Nat) → b ∈ ([1005, 107] : List Nat)) b hb)) (fun h2 hm f => ?_) _ _ _ hm f
  · obtain ⟨h3, e1, hm⟩ := lt_some hm
    replace f : Fk S h3 g := by rw [e1]; exact up_fk4 f (hS _ (by decide))
    cases hm
    exact f
def FKdm_endsThought : List Nat := [1005, 105]
theorem wk_m_endsThought_L2 (k0 : PH → Option (PH)) (S : List Nat) (g : PH) (r : PH) (hS : ∀ b, b ∈ ([105] : List Nat) → b ∈ S) (kk0 : ∀ (y0 : PH), k0 y0 = some r → Fk S y0 g → Fk S r g) : ∀ (n : Nat) (v1 : Int32) (hv : PH), mm_endsThought_L2 k0 n v1 hv = some r → Fk S hv g → Fk S r g := by
  intro n
  induction n with
  | zero => intro v1 hv hm; cases hm
  | succ n ih =>
    intro v1 hv hm f
    unfold mm_endsThought_L2 at hm
    rcases ite_or hm with ⟨hc, hm⟩ | ⟨hc, hm⟩
    · exact kk0 _ hm f
    · obtain ⟨-, hm⟩ := ck_s hm
      obtain ⟨-, hm⟩ := ck_s hm
      obtain ⟨h1, e1, hm⟩ := lt_some hm
      replace f : Fk S h1 g := by rw [e1]; exact up_fk f (by decide) (hS _ (by decide))
      exact ih _ _ hm f
theorem fkm_endsThought (h0 : PH) {r : PH} (hm : mm_endsThought h0 = some r) : Fk (FKdm_endsThought ) r h0 := by
  generalize hSe : FKdm_endsThought = S
  have hS : ∀ b, b ∈ ([1005, 105] : List Nat) → b ∈ S := by rw [← hSe]; exact fun b hb => hb
  generalize hge : h0 = g at ⊢
  have f : Fk S h0 g := by rw [hge]; exact fun _ _ _ => rfl
  unfold mm_endsThought at hm
  refine wk_m_endsThought_L2 _ S g _ (fun b hb => hS b ((by decide +kernel : ∀ b, b ∈ ([105] : List Nat) → b ∈ ([1005, 105] : List Nat)) b hb)) (fun h2 hm f => ?_) _ _ _ hm f
  · obtain ⟨h3, e1, hm⟩ := lt_some hm
    replace f : Fk S h3 g := by rw [e1]; exact up_fk4 f (hS _ (by decide))
    cases hm
    exact f
def FKdm_state (p1 : Int32) : List Nat := [1000, 105, 1003]
theorem fkm_state (p1 : Int32) (h0 : PH) {r : Int32 × PH} (hm : mm_state p1 h0 = some r) : Fk (FKdm_state p1) r.2 h0 := by
  generalize hSe : FKdm_state p1 = S
  have hS : ∀ b, b ∈ ([1000, 105, 1003] : List Nat) → b ∈ S := by rw [← hSe]; exact fun b hb => hb
  generalize hge : h0 = g at ⊢
  have f : Fk S h0 g := by rw [hge]; exact fun _ _ _ => rfl
  unfold mm_state at hm
  obtain ⟨h1, e1, hm⟩ := lt_some hm
  replace f : Fk S h1 g := by rw [e1]; exact up_fk4 f (hS _ (by decide))
  obtain ⟨-, hm⟩ := ck_s hm
  obtain ⟨x2, -, hm⟩ := lt_some hm
  obtain ⟨-, hm⟩ := ck_s hm
  obtain ⟨h3, e1, hm⟩ := lt_some hm
  replace f : Fk S h3 g := by rw [e1]; exact up_fk f (by decide) (hS _ (by decide))
  obtain ⟨h4, e1, hm⟩ := lt_some hm
  replace f : Fk S h4 g := by rw [e1]; exact up_fk4 f (hS _ (by decide))
  cases hm
  exact f
def FKdm_draw (p1 : Int32) : List Nat := [105]
theorem fkm_draw (p1 : Int32) (h0 : PH) {r : Int32 × PH} (hm : mm_draw p1 h0 = some r) : Fk (FKdm_draw p1) r.2 h0 := by
  generalize hSe : FKdm_draw p1 = S
  have hS : ∀ b, b ∈ ([105] : List Nat) → b ∈ S := by rw [← hSe]; exact fun b hb => hb
  generalize hge : h0 = g at ⊢
  have f : Fk S h0 g := by rw [hge]; exact fun _ _ _ => rfl
  unfold mm_draw at hm
  obtain ⟨-, hm⟩ := ck_s hm
  obtain ⟨-, hm⟩ := ck_s hm
  obtain ⟨h1, e1, hm⟩ := lt_some hm
  replace f : Fk S h1 g := by rw [e1]; exact up_fk f (by decide) (hS _ (by decide))
  obtain ⟨-, hm⟩ := ck_s hm
  obtain ⟨-, hm⟩ := dz_s hm
  cases hm
  exact f
def FKdm_hasWall (p1 : Int32) (p2 : Int32) (p3 : Int32) : List Nat := [105]
theorem fkm_hasWall (p1 : Int32) (p2 : Int32) (p3 : Int32) (h0 : PH) {r : PH} (hm : mm_hasWall p1 p2 p3 h0 = some r) : Fk (FKdm_hasWall p1 p2 p3) r h0 := by
  generalize hSe : FKdm_hasWall p1 p2 p3 = S
  have hS : ∀ b, b ∈ ([105] : List Nat) → b ∈ S := by rw [← hSe]; exact fun b hb => hb
  generalize hge : h0 = g at ⊢
  have f : Fk S h0 g := by rw [hge]; exact fun _ _ _ => rfl
  unfold mm_hasWall at hm
  obtain ⟨r1, -, hm⟩ := bd_s hm
  obtain ⟨-, hm⟩ := ck_s hm
  obtain ⟨h2, e1, hm⟩ := lt_some hm
  replace f : Fk S h2 g := by rw [e1]; exact up_fk f (by decide) (hS _ (by decide))
  cases hm
  exact f
def FKdm_house (p1 : Int32) (p2 : Int32) (p3 : Int32) : List Nat := [1000, 105, 108, 109, 1006, 1003]
theorem wk_m_house_L52 (p1 : Int32) (p2 : Int32) (p3 : Int32) (k0 : PH → Option (Int32 × PH)) (S : List Nat) (g : PH) (r : Int32 × PH) (hS : ∀ b, b ∈ ([105] : List Nat) → b ∈ S) (kk0 : ∀ (y0 : PH), k0 y0 = some r → Fk S y0 g → Fk S r.2 g) : ∀ (n : Nat) (v4 : Int32) (hv : PH), mm_house_L52 p1 p2 p3 k0 n v4 hv = some r → Fk S hv g → Fk S r.2 g := by
  intro n
  induction n with
  | zero => intro v4 hv hm; cases hm
  | succ n ih =>
    intro v4 hv hm f
    unfold mm_house_L52 at hm
    rcases ite_or hm with ⟨hc, hm⟩ | ⟨hc, hm⟩
    · exact kk0 _ hm f
    · obtain ⟨-, hm⟩ := ck_s hm
      obtain ⟨h5, e1, hm⟩ := lt_some hm
      replace f : Fk S h5 g := by rw [e1]; exact up_fk f (by decide) (hS _ (by decide))
      exact ih _ _ hm f
theorem fkm_house (p1 : Int32) (p2 : Int32) (p3 : Int32) (h0 : PH) {r : Int32 × PH} (hm : mm_house p1 p2 p3 h0 = some r) : Fk (FKdm_house p1 p2 p3) r.2 h0 := by
  generalize hSe : FKdm_house p1 p2 p3 = S
  have hS : ∀ b, b ∈ ([1000, 105, 108, 109, 1006, 1003] : List Nat) → b ∈ S := by rw [← hSe]; exact fun b hb => hb
  generalize hge : h0 = g at ⊢
  have f : Fk S h0 g := by rw [hge]; exact fun _ _ _ => rfl
  unfold mm_house at hm
  obtain ⟨h1, e1, hm⟩ := lt_some hm
  replace f : Fk S h1 g := by rw [e1]; exact up_fk4 f (hS _ (by decide))
  obtain ⟨r2, -, hm⟩ := bd_s hm
  rcases ite_or hm with ⟨hc, hm⟩ | ⟨hc, hm⟩
  · cases hm
    exact f
  · obtain ⟨r3, -, hm⟩ := bd_s hm
    rcases ite_or hm with ⟨hc, hm⟩ | ⟨hc, hm⟩
    · cases hm
      exact f
    · obtain ⟨r4, -, hm⟩ := bd_s hm
      rcases ite_or hm with ⟨hc, hm⟩ | ⟨hc, hm⟩
      · cases hm
        exact f
      · rcases ite_or hm with ⟨hc, hm⟩ | ⟨hc, hm⟩
        · cases hm
          exact f
        · refine wk_m_house_L52 _ _ _ _ S g _ (fun b hb => hS b ((by decide +kernel : ∀ b, b ∈ ([105] : List Nat) → b ∈ ([1000, 105, 108, 109, 1006, 1003] : List Nat)) b hb)) (fun h6 hm f => ?_) _ _ _ hm f
          · obtain ⟨-, hm⟩ := ck_s hm
            obtain ⟨h7, e1, hm⟩ := lt_some hm
            replace f : Fk S h7 g := by rw [e1]; exact up_fk f (by decide) (hS _ (by decide))
            obtain ⟨-, hm⟩ := ck_s hm
            obtain ⟨h8, e1, hm⟩ := lt_some hm
            replace f : Fk S h8 g := by rw [e1]; exact up_fk f (by decide) (hS _ (by decide))
            obtain ⟨-, hm⟩ := ck_s hm
            obtain ⟨h9, e1, hm⟩ := lt_some hm
            replace f : Fk S h9 g := by rw [e1]; exact up_fk f (by decide) (hS _ (by decide))
            obtain ⟨-, hm⟩ := ck_s hm
            obtain ⟨h10, e1, hm⟩ := lt_some hm
            replace f : Fk S h10 g := by rw [e1]; exact up_fk f (by decide) (hS _ (by decide))
            obtain ⟨-, hm⟩ := ck_s hm
            obtain ⟨h11, e1, hm⟩ := lt_some hm
            replace f : Fk S h11 g := by rw [e1]; exact up_fk f (by decide) (hS _ (by decide))
            obtain ⟨-, hm⟩ := ck_s hm
            obtain ⟨h12, e1, hm⟩ := lt_some hm
            replace f : Fk S h12 g := by rw [e1]; exact up_fk f (by decide) (hS _ (by decide))
            obtain ⟨-, hm⟩ := ck_s hm
            obtain ⟨h13, e1, hm⟩ := lt_some hm
            replace f : Fk S h13 g := by rw [e1]; exact up_fk f (by decide) (hS _ (by decide))
            obtain ⟨h14, e1, hm⟩ := lt_some hm
            replace f : Fk S h14 g := by rw [e1]; exact up_fk4 f (hS _ (by decide))
            obtain ⟨h15, e1, hm⟩ := lt_some hm
            replace f : Fk S h15 g := by rw [e1]; exact up_fk4 f (hS _ (by decide))
            cases hm
            exact f
def FKdm_set (p1 : Int32) (p2 : Int32) (p3 : Int32) : List Nat := [1000, 1003, 105, 109, 108]
theorem fkm_set (p1 : Int32) (p2 : Int32) (p3 : Int32) (h0 : PH) {r : Int32 × PH} (hm : mm_set p1 p2 p3 h0 = some r) : Fk (FKdm_set p1 p2 p3) r.2 h0 := by
  generalize hSe : FKdm_set p1 p2 p3 = S
  have hS : ∀ b, b ∈ ([1000, 1003, 105, 109, 108] : List Nat) → b ∈ S := by rw [← hSe]; exact fun b hb => hb
  generalize hge : h0 = g at ⊢
  have f : Fk S h0 g := by rw [hge]; exact fun _ _ _ => rfl
  unfold mm_set at hm
  obtain ⟨h1, e1, hm⟩ := lt_some hm
  replace f : Fk S h1 g := by rw [e1]; exact up_fk4 f (hS _ (by decide))
  obtain ⟨r2, -, hm⟩ := bd_s hm
  rcases ite_or hm with ⟨hc, hm⟩ | ⟨hc, hm⟩
  · cases hm
    exact f
  · refine v_j1 (fun (h4 : PH) => Fk S h4 g → Fk S r.2 g) hm (fun h4 hm f => ?_) (fun j3 kj3 hm => ?_)
    · refine v_j1 (fun (h6 : PH) => Fk S h6 g → Fk S r.2 g) hm (fun h6 hm f => ?_) (fun j5 kj5 hm => ?_)
      · refine v_j1 (fun (h8 : PH) => Fk S h8 g → Fk S r.2 g) hm (fun h8 hm f => ?_) (fun j7 kj7 hm => ?_)
        · refine v_j1 (fun (h10 : PH) => Fk S h10 g → Fk S r.2 g) hm (fun h10 hm f => ?_) (fun j9 kj9 hm => ?_)
          · refine v_j1 (fun (h12 : PH) => Fk S h12 g → Fk S r.2 g) hm (fun h12 hm f => ?_) (fun j11 kj11 hm => ?_)
            · refine v_j1 (fun (h14 : PH) => Fk S h14 g → Fk S r.2 g) hm (fun h14 hm f => ?_) (fun j13 kj13 hm => ?_)
              · obtain ⟨h15, e1, hm⟩ := lt_some hm
                replace f : Fk S h15 g := by rw [e1]; exact up_fk4 f (hS _ (by decide))
                cases hm
                exact f
              · rcases ite_or hm with ⟨hc, hm⟩ | ⟨hc, hm⟩
                · obtain ⟨-, hm⟩ := ck_s hm
                  obtain ⟨h16, e1, hm⟩ := lt_some hm
                  replace f : Fk S h16 g := by rw [e1]; exact up_fk f (by decide) (hS _ (by decide))
                  exact kj13 _ hm f
                · exact kj13 _ hm f
            · rcases ite_or hm with ⟨hc, hm⟩ | ⟨hc, hm⟩
              · obtain ⟨-, hm⟩ := ck_s hm
                obtain ⟨h17, e1, hm⟩ := lt_some hm
                replace f : Fk S h17 g := by rw [e1]; exact up_fk f (by decide) (hS _ (by decide))
                exact kj11 _ hm f
              · exact kj11 _ hm f
          · rcases ite_or hm with ⟨hc, hm⟩ | ⟨hc, hm⟩
            · obtain ⟨-, hm⟩ := ck_s hm
              obtain ⟨h18, e1, hm⟩ := lt_some hm
              replace f : Fk S h18 g := by rw [e1]; exact up_fk f (by decide) (hS _ (by decide))
              exact kj9 _ hm f
            · exact kj9 _ hm f
        · rcases ite_or hm with ⟨hc, hm⟩ | ⟨hc, hm⟩
          · obtain ⟨-, hm⟩ := ck_s hm
            obtain ⟨h19, e1, hm⟩ := lt_some hm
            replace f : Fk S h19 g := by rw [e1]; exact up_fk f (by decide) (hS _ (by decide))
            exact kj7 _ hm f
          · exact kj7 _ hm f
      · rcases ite_or hm with ⟨hc, hm⟩ | ⟨hc, hm⟩
        · obtain ⟨-, hm⟩ := ck_s hm
          obtain ⟨h20, e1, hm⟩ := lt_some hm
          replace f : Fk S h20 g := by rw [e1]; exact up_fk f (by decide) (hS _ (by decide))
          exact kj5 _ hm f
        · exact kj5 _ hm f
    · rcases ite_or hm with ⟨hc, hm⟩ | ⟨hc, hm⟩
      · exact kj3 _ hm f
      · obtain ⟨h21, he, hm⟩ := bd_s hm
        replace f := fk_tr f (fkm_hasWall _ _ _ _ he) (fun b hb => hS b ((by decide +kernel : ∀ b, b ∈ ([105] : List Nat) → b ∈ ([1000, 1003, 105, 109, 108] : List Nat)) b hb))
        exact kj3 _ hm f
def FKdm_types (p1 : Int32) : List Nat := [111, 1011]
theorem wk_m_types_L3 (p1 : Int32) (S : List Nat) (g : PH) (r : PH) (hS : ∀ b, b ∈ ([111, 1011] : List Nat) → b ∈ S) : ∀ (n : Nat) (v2 : Int32) (hv : PH), mm_types_L3 p1 n v2 hv = some r → Fk S hv g → Fk S r g := by
  intro n
  induction n with
  | zero => intro v2 hv hm; cases hm
  | succ n ih =>
    intro v2 hv hm f
    unfold mm_types_L3 at hm
    rcases ite_or hm with ⟨hc, hm⟩ | ⟨hc, hm⟩
    · cases hm
      exact f
    · obtain ⟨-, hm⟩ := ck_s hm
      obtain ⟨h1, e1, hm⟩ := lt_some hm
      replace f : Fk S h1 g := by rw [e1]; exact up_fk f (by decide) (hS _ (by decide))
      obtain ⟨h2, e1, hm⟩ := lt_some hm
      replace f : Fk S h2 g := by rw [e1]; exact up_fk4 f (hS _ (by decide))
      exact ih _ _ hm f
theorem fkm_types (p1 : Int32) (h0 : PH) {r : PH} (hm : mm_types p1 h0 = some r) : Fk (FKdm_types p1) r h0 := by
  generalize hSe : FKdm_types p1 = S
  have hS : ∀ b, b ∈ ([111, 1011] : List Nat) → b ∈ S := by rw [← hSe]; exact fun b hb => hb
  generalize hge : h0 = g at ⊢
  have f : Fk S h0 g := by rw [hge]; exact fun _ _ _ => rfl
  unfold mm_types at hm
  exact wk_m_types_L3 _ S g _ (fun b hb => hS b ((by decide +kernel : ∀ b, b ∈ ([111, 1011] : List Nat) → b ∈ ([111, 1011] : List Nat)) b hb)) _ _ _ hm f
def FKdm_feed (p1 : Int32) (p2 : Int32) (p3 : Int32) (p4 : Int32) (p5 : Int32) : List Nat := [1000, 111, 1011]
theorem fkm_feed (p1 : Int32) (p2 : Int32) (p3 : Int32) (p4 : Int32) (p5 : Int32) (h0 : PH) {r : Int32 × PH} (hm : mm_feed p1 p2 p3 p4 p5 h0 = some r) : Fk (FKdm_feed p1 p2 p3 p4 p5) r.2 h0 := by
  generalize hSe : FKdm_feed p1 p2 p3 p4 p5 = S
  have hS : ∀ b, b ∈ ([1000, 111, 1011] : List Nat) → b ∈ S := by rw [← hSe]; exact fun b hb => hb
  generalize hge : h0 = g at ⊢
  have f : Fk S h0 g := by rw [hge]; exact fun _ _ _ => rfl
  unfold mm_feed at hm
  obtain ⟨h1, e1, hm⟩ := lt_some hm
  replace f : Fk S h1 g := by rw [e1]; exact up_fk4 f (hS _ (by decide))
  rcases ite_or hm with ⟨hc, hm⟩ | ⟨hc, hm⟩
  · obtain ⟨h2, he, hm⟩ := bd_s hm
    replace f := fk_tr f (fkm_types _ _ he) (fun b hb => hS b ((by decide +kernel : ∀ b, b ∈ ([111, 1011] : List Nat) → b ∈ ([1000, 111, 1011] : List Nat)) b hb))
    obtain ⟨h3, he, hm⟩ := bd_s hm
    replace f := fk_tr f (fkm_types _ _ he) (fun b hb => hS b ((by decide +kernel : ∀ b, b ∈ ([111, 1011] : List Nat) → b ∈ ([1000, 111, 1011] : List Nat)) b hb))
    obtain ⟨h4, he, hm⟩ := bd_s hm
    replace f := fk_tr f (fkm_types _ _ he) (fun b hb => hS b ((by decide +kernel : ∀ b, b ∈ ([111, 1011] : List Nat) → b ∈ ([1000, 111, 1011] : List Nat)) b hb))
    obtain ⟨h5, he, hm⟩ := bd_s hm
    replace f := fk_tr f (fkm_types _ _ he) (fun b hb => hS b ((by decide +kernel : ∀ b, b ∈ ([111, 1011] : List Nat) → b ∈ ([1000, 111, 1011] : List Nat)) b hb))
    obtain ⟨h6, he, hm⟩ := bd_s hm
    replace f := fk_tr f (fkm_types _ _ he) (fun b hb => hS b ((by decide +kernel : ∀ b, b ∈ ([111, 1011] : List Nat) → b ∈ ([1000, 111, 1011] : List Nat)) b hb))
    cases hm
    exact f
  · cases hm
    exact f
def FKdm_end (p1 : Int32) : List Nat := [1000, 1011]
theorem fkm_end (p1 : Int32) (h0 : PH) {r : Int32 × PH} (hm : mm_end p1 h0 = some r) : Fk (FKdm_end p1) r.2 h0 := by
  generalize hSe : FKdm_end p1 = S
  have hS : ∀ b, b ∈ ([1000, 1011] : List Nat) → b ∈ S := by rw [← hSe]; exact fun b hb => hb
  generalize hge : h0 = g at ⊢
  have f : Fk S h0 g := by rw [hge]; exact fun _ _ _ => rfl
  unfold mm_end at hm
  obtain ⟨h1, e1, hm⟩ := lt_some hm
  replace f : Fk S h1 g := by rw [e1]; exact up_fk4 f (hS _ (by decide))
  obtain ⟨r2, -, hm⟩ := bd_s hm
  rcases ite_or hm with ⟨hc, hm⟩ | ⟨hc, hm⟩
  · cases hm
    exact f
  · obtain ⟨h3, e1, hm⟩ := lt_some hm
    replace f : Fk S h3 g := by rw [e1]; exact up_fk4 f (hS _ (by decide))
    cases hm
    exact f
def FKdm_reads : List Nat := [1013, 1014, 1012, 1015]
theorem wk_m_reads_L0 (k0 : PH → Option (PH)) (S : List Nat) (g : PH) (r : PH) (hS : ∀ b, b ∈ ([1012] : List Nat) → b ∈ S) (kk0 : ∀ (y0 : PH), k0 y0 = some r → Fk S y0 g → Fk S r g) : ∀ (n : Nat) (hv : PH), mm_reads_L0 k0 n hv = some r → Fk S hv g → Fk S r g := by
  intro n
  induction n with
  | zero => intro hv hm; cases hm
  | succ n ih =>
    intro hv hm f
    unfold mm_reads_L0 at hm
    obtain ⟨r1, -, hm⟩ := bd_s hm
    refine v_j0 (Fk S r g) hm (fun hm => ?_) (fun j2 kj2 hm => ?_)
    · obtain ⟨h3, e1, hm⟩ := lt_some hm
      replace f : Fk S h3 g := by rw [e1]; exact up_fk4 f (hS _ (by decide))
      exact ih _ hm f
    · rcases ite_or hm with ⟨hc, hm⟩ | ⟨hc, hm⟩
      · exact kj2 hm
      · obtain ⟨r4, -, hm⟩ := bd_s hm
        rcases ite_or hm with ⟨hc, hm⟩ | ⟨hc, hm⟩
        · exact kj2 hm
        · exact kk0 _ hm f
theorem wk_m_reads_L171 (k0 : PH → Option (PH)) (S : List Nat) (g : PH) (r : PH) (hS : ∀ b, b ∈ ([1015, 1012] : List Nat) → b ∈ S) (kk0 : ∀ (y0 : PH), k0 y0 = some r → Fk S y0 g → Fk S r g) : ∀ (n : Nat) (hv : PH), mm_reads_L171 k0 n hv = some r → Fk S hv g → Fk S r g := by
  intro n
  induction n with
  | zero => intro hv hm; cases hm
  | succ n ih =>
    intro hv hm f
    unfold mm_reads_L171 at hm
    obtain ⟨r17, -, hm⟩ := bd_s hm
    obtain ⟨r18, -, hm⟩ := bd_s hm
    rcases ite_or hm with ⟨hc, hm⟩ | ⟨hc, hm⟩
    · exact kk0 _ hm f
    · refine v_j1 (fun (x20 : Int32) => Fk S r g) hm (fun x20 hm => ?_) (fun j19 kj19 hm => ?_)
      · obtain ⟨h21, e1, hm⟩ := lt_some hm
        replace f : Fk S h21 g := by rw [e1]; exact up_fk4 f (hS _ (by decide))
        obtain ⟨h22, e1, hm⟩ := lt_some hm
        replace f : Fk S h22 g := by rw [e1]; exact up_fk4 f (hS _ (by decide))
        exact ih _ hm f
      · rcases ite_or hm with ⟨hc, hm⟩ | ⟨hc, hm⟩
        · exact kj19 _ hm
        · obtain ⟨r23, -, hm⟩ := bd_s hm
          exact kj19 _ hm
theorem wk_m_reads_L95 (k0 : PH → Option (PH)) (S : List Nat) (g : PH) (r : PH) (hS : ∀ b, b ∈ ([1012] : List Nat) → b ∈ S) (kk0 : ∀ (y0 : PH), k0 y0 = some r → Fk S y0 g → Fk S r g) : ∀ (n : Nat) (hv : PH), mm_reads_L95 k0 n hv = some r → Fk S hv g → Fk S r g := by
  intro n
  induction n with
  | zero => intro hv hm; cases hm
  | succ n ih =>
    intro hv hm f
    unfold mm_reads_L95 at hm
    obtain ⟨r26, -, hm⟩ := bd_s hm
    obtain ⟨r27, -, hm⟩ := bd_s hm
    rcases ite_or hm with ⟨hc, hm⟩ | ⟨hc, hm⟩
    · exact kk0 _ hm f
    · obtain ⟨h28, e1, hm⟩ := lt_some hm
      replace f : Fk S h28 g := by rw [e1]; exact up_fk4 f (hS _ (by decide))
      exact ih _ hm f
theorem fkm_reads (h0 : PH) {r : PH} (hm : mm_reads h0 = some r) : Fk (FKdm_reads ) r h0 := by
  generalize hSe : FKdm_reads = S
  have hS : ∀ b, b ∈ ([1013, 1014, 1012, 1015] : List Nat) → b ∈ S := by rw [← hSe]; exact fun b hb => hb
  generalize hge : h0 = g at ⊢
  have f : Fk S h0 g := by rw [hge]; exact fun _ _ _ => rfl
  unfold mm_reads at hm
  refine wk_m_reads_L0 _ S g _ (fun b hb => hS b ((by decide +kernel : ∀ b, b ∈ ([1012] : List Nat) → b ∈ ([1013, 1014, 1012, 1015] : List Nat)) b hb)) (fun h5 hm f => ?_) _ _ hm f
  · obtain ⟨h6, e1, hm⟩ := lt_some hm
    replace f : Fk S h6 g := by rw [e1]; exact up_fk4 f (hS _ (by decide))
    obtain ⟨h7, e1, hm⟩ := lt_some hm
    replace f : Fk S h7 g := by rw [e1]; exact up_fk4 f (hS _ (by decide))
    obtain ⟨r8, -, hm⟩ := bd_s hm
    rcases ite_or hm with ⟨hc, hm⟩ | ⟨hc, hm⟩
    · obtain ⟨h9, e1, hm⟩ := lt_some hm
      replace f : Fk S h9 g := by rw [e1]; exact up_fk4 f (hS _ (by decide))
      cases hm
      exact f
    · obtain ⟨h10, e1, hm⟩ := lt_some hm
      replace f : Fk S h10 g := by rw [e1]; exact up_fk4 f (hS _ (by decide))
      obtain ⟨h11, e1, hm⟩ := lt_some hm
      replace f : Fk S h11 g := by rw [e1]; exact up_fk4 f (hS _ (by decide))
      obtain ⟨r12, -, hm⟩ := bd_s hm
      rcases ite_or hm with ⟨hc, hm⟩ | ⟨hc, hm⟩
      · obtain ⟨r13, -, hm⟩ := bd_s hm
        rcases ite_or hm with ⟨hc, hm⟩ | ⟨hc, hm⟩
        · obtain ⟨r14, -, hm⟩ := bd_s hm
          rcases ite_or hm with ⟨hc, hm⟩ | ⟨hc, hm⟩
          · cases hm
            exact f
          · obtain ⟨h15, e1, hm⟩ := lt_some hm
            replace f : Fk S h15 g := by rw [e1]; exact up_fk4 f (hS _ (by decide))
            cases hm
            exact f
        · obtain ⟨h16, e1, hm⟩ := lt_some hm
          replace f : Fk S h16 g := by rw [e1]; exact up_fk4 f (hS _ (by decide))
          refine wk_m_reads_L171 _ S g _ (fun b hb => hS b ((by decide +kernel : ∀ b, b ∈ ([1015, 1012] : List Nat) → b ∈ ([1013, 1014, 1012, 1015] : List Nat)) b hb)) (fun h24 hm f => ?_) _ _ hm f
          · rcases ite_or hm with ⟨hc, hm⟩ | ⟨hc, hm⟩
            · cases hm
              exact f
            · obtain ⟨h25, e1, hm⟩ := lt_some hm
              replace f : Fk S h25 g := by rw [e1]; exact up_fk4 f (hS _ (by decide))
              cases hm
              exact f
      · refine wk_m_reads_L95 _ S g _ (fun b hb => hS b ((by decide +kernel : ∀ b, b ∈ ([1012] : List Nat) → b ∈ ([1013, 1014, 1012, 1015] : List Nat)) b hb)) (fun h29 hm f => ?_) _ _ hm f
        · obtain ⟨r30, -, hm⟩ := bd_s hm
          obtain ⟨h31, e1, hm⟩ := lt_some hm
          replace f : Fk S h31 g := by rw [e1]; exact up_fk4 f (hS _ (by decide))
          rcases ite_or hm with ⟨hc, hm⟩ | ⟨hc, hm⟩
          · cases hm
            exact f
          · obtain ⟨h32, e1, hm⟩ := lt_some hm
            replace f : Fk S h32 g := by rw [e1]; exact up_fk4 f (hS _ (by decide))
            cases hm
            exact f
def FKdm_errs (p1 : Int32) : List Nat := [1029, 1030]
theorem fkm_errs (p1 : Int32) (h0 : PH) {r : Int32 × PH} (hm : mm_errs p1 h0 = some r) : Fk (FKdm_errs p1) r.2 h0 := by
  generalize hSe : FKdm_errs p1 = S
  have hS : ∀ b, b ∈ ([1029, 1030] : List Nat) → b ∈ S := by rw [← hSe]; exact fun b hb => hb
  generalize hge : h0 = g at ⊢
  have f : Fk S h0 g := by rw [hge]; exact fun _ _ _ => rfl
  unfold mm_errs at hm
  obtain ⟨h1, e1, hm⟩ := lt_some hm
  replace f : Fk S h1 g := by rw [e1]; exact up_fk4 f (hS _ (by decide))
  obtain ⟨h2, e1, hm⟩ := lt_some hm
  replace f : Fk S h2 g := by rw [e1]; exact up_fk4 f (hS _ (by decide))
  cases hm
  exact f
def FKdm_emits (p1 : Int32) (p2 : Int32) : List Nat := [118, 119, 1025]
theorem fkm_emits (p1 : Int32) (p2 : Int32) (h0 : PH) {r : PH} (hm : mm_emits p1 p2 h0 = some r) : Fk (FKdm_emits p1 p2) r h0 := by
  generalize hSe : FKdm_emits p1 p2 = S
  have hS : ∀ b, b ∈ ([118, 119, 1025] : List Nat) → b ∈ S := by rw [← hSe]; exact fun b hb => hb
  generalize hge : h0 = g at ⊢
  have f : Fk S h0 g := by rw [hge]; exact fun _ _ _ => rfl
  unfold mm_emits at hm
  obtain ⟨-, hm⟩ := ck_s hm
  obtain ⟨h1, e1, hm⟩ := lt_some hm
  replace f : Fk S h1 g := by rw [e1]; exact up_fk f (by decide) (hS _ (by decide))
  obtain ⟨-, hm⟩ := ck_s hm
  obtain ⟨h2, e1, hm⟩ := lt_some hm
  replace f : Fk S h2 g := by rw [e1]; exact up_fk f (by decide) (hS _ (by decide))
  obtain ⟨h3, e1, hm⟩ := lt_some hm
  replace f : Fk S h3 g := by rw [e1]; exact up_fk4 f (hS _ (by decide))
  cases hm
  exact f
def FKdm_readUnit : List Nat := [118, 119, 1025, 1013, 1014, 1012, 1015, 1029, 1030]
theorem fkm_readUnit (h0 : PH) {r : Int32 × PH} (hm : mm_readUnit h0 = some r) : Fk (FKdm_readUnit ) r.2 h0 := by
  generalize hSe : FKdm_readUnit = S
  have hS : ∀ b, b ∈ ([118, 119, 1025, 1013, 1014, 1012, 1015, 1029, 1030] : List Nat) → b ∈ S := by rw [← hSe]; exact fun b hb => hb
  generalize hge : h0 = g at ⊢
  have f : Fk S h0 g := by rw [hge]; exact fun _ _ _ => rfl
  unfold mm_readUnit at hm
  refine v_j1 (fun (x2 : Int32) => Fk S r.2 g) hm (fun x2 hm => ?_) (fun j1 kj1 hm => ?_)
  · refine v_j0 (Fk S r.2 g) hm (fun hm => ?_) (fun j3 kj3 hm => ?_)
    · refine v_j1 (fun (x5 : Int32) => Fk S r.2 g) hm (fun x5 hm => ?_) (fun j4 kj4 hm => ?_)
      · refine v_j1 (fun (x7 : Int32) => Fk S r.2 g) hm (fun x7 hm => ?_) (fun j6 kj6 hm => ?_)
        · obtain ⟨h8, he, hm⟩ := bd_s hm
          replace f := fk_tr f (fkm_emits _ _ _ he) (fun b hb => hS b ((by decide +kernel : ∀ b, b ∈ ([118, 119, 1025] : List Nat) → b ∈ ([118, 119, 1025, 1013, 1014, 1012, 1015, 1029, 1030] : List Nat)) b hb))
          obtain ⟨h9, he, hm⟩ := bd_s hm
          replace f := fk_tr f (fkm_reads _ he) (fun b hb => hS b ((by decide +kernel : ∀ b, b ∈ ([1013, 1014, 1012, 1015] : List Nat) → b ∈ ([118, 119, 1025, 1013, 1014, 1012, 1015, 1029, 1030] : List Nat)) b hb))
          cases hm
          exact f
        · rcases ite_or hm with ⟨hc, hm⟩ | ⟨hc, hm⟩
          · exact kj6 _ hm
          · exact kj6 _ hm
      · rcases ite_or hm with ⟨hc, hm⟩ | ⟨hc, hm⟩
        · exact kj4 _ hm
        · exact kj4 _ hm
    · rcases ite_or hm with ⟨hc, hm⟩ | ⟨hc, hm⟩
      · rcases ite_or hm with ⟨hc, hm⟩ | ⟨hc, hm⟩
        · exact kj3 hm
        · obtain ⟨r10, h11, he, hm⟩ := bd2_s hm
          replace f := fk_tr f (fkm_errs _ _ he) (fun b hb => hS b ((by decide +kernel : ∀ b, b ∈ ([1029, 1030] : List Nat) → b ∈ ([118, 119, 1025, 1013, 1014, 1012, 1015, 1029, 1030] : List Nat)) b hb))
          cases hm
          exact f
      · exact kj3 hm
  · rcases ite_or hm with ⟨hc, hm⟩ | ⟨hc, hm⟩
    · obtain ⟨r12, -, hm⟩ := bd_s hm
      rcases ite_or hm with ⟨hc, hm⟩ | ⟨hc, hm⟩
      · exact kj1 _ hm
      · exact kj1 _ hm
    · exact kj1 _ hm
def FKdm_readProduct : List Nat := [118, 119, 1025, 1013, 1014, 1012, 1015, 1029, 1030]
theorem wk_m_readProduct_L10 (k0 : PH → Option (Int32 × PH)) (k1 : PH → Option (Int32 × PH)) (S : List Nat) (g : PH) (r : Int32 × PH) (hS : ∀ b, b ∈ ([1013, 1014, 1012, 1015, 118, 119, 1025, 1029, 1030] : List Nat) → b ∈ S) (kk0 : ∀ (y0 : PH), k0 y0 = some r → Fk S y0 g → Fk S r.2 g) (kk1 : ∀ (y0 : PH), k1 y0 = some r → Fk S y0 g → Fk S r.2 g) : ∀ (n : Nat) (hv : PH), mm_readProduct_L10 k0 k1 n hv = some r → Fk S hv g → Fk S r.2 g := by
  intro n
  induction n with
  | zero => intro hv hm; cases hm
  | succ n ih =>
    intro hv hm f
    unfold mm_readProduct_L10 at hm
    obtain ⟨r3, -, hm⟩ := bd_s hm
    refine v_j0 (Fk S r.2 g) hm (fun hm => ?_) (fun j4 kj4 hm => ?_)
    · obtain ⟨r5, -, hm⟩ := bd_s hm
      obtain ⟨h6, he, hm⟩ := bd_s hm
      replace f := fk_tr f (fkm_reads _ he) (fun b hb => hS b ((by decide +kernel : ∀ b, b ∈ ([1013, 1014, 1012, 1015] : List Nat) → b ∈ ([1013, 1014, 1012, 1015, 118, 119, 1025, 1029, 1030] : List Nat)) b hb))
      refine v_j0 (Fk S r.2 g) hm (fun hm => ?_) (fun j7 kj7 hm => ?_)
      · refine v_j0 (Fk S r.2 g) hm (fun hm => ?_) (fun j8 kj8 hm => ?_)
        · obtain ⟨r9, h10, he, hm⟩ := bd2_s hm
          replace f := fk_tr f (fkm_readUnit _ he) (fun b hb => hS b ((by decide +kernel : ∀ b, b ∈ ([118, 119, 1025, 1013, 1014, 1012, 1015, 1029, 1030] : List Nat) → b ∈ ([1013, 1014, 1012, 1015, 118, 119, 1025, 1029, 1030] : List Nat)) b hb))
          rcases ite_or hm with ⟨hc, hm⟩ | ⟨hc, hm⟩
          · cases hm
            exact f
          · refine v_j1 (fun (x12 : Int32) => Fk S r.2 g) hm (fun x12 hm => ?_) (fun j11 kj11 hm => ?_)
            · obtain ⟨h13, he, hm⟩ := bd_s hm
              replace f := fk_tr f (fkm_emits _ _ _ he) (fun b hb => hS b ((by decide +kernel : ∀ b, b ∈ ([118, 119, 1025] : List Nat) → b ∈ ([1013, 1014, 1012, 1015, 118, 119, 1025, 1029, 1030] : List Nat)) b hb))
              exact ih _ hm f
            · rcases ite_or hm with ⟨hc, hm⟩ | ⟨hc, hm⟩
              · exact kj11 _ hm
              · exact kj11 _ hm
        · rcases ite_or hm with ⟨hc, hm⟩ | ⟨hc, hm⟩
          · rcases ite_or hm with ⟨hc, hm⟩ | ⟨hc, hm⟩
            · exact kk1 _ hm f
            · exact kj8 hm
          · exact kj8 hm
      · rcases ite_or hm with ⟨hc, hm⟩ | ⟨hc, hm⟩
        · rcases ite_or hm with ⟨hc, hm⟩ | ⟨hc, hm⟩
          · exact kj7 hm
          · exact kk0 _ hm f
        · exact kj7 hm
    · rcases ite_or hm with ⟨hc, hm⟩ | ⟨hc, hm⟩
      · obtain ⟨r14, -, hm⟩ := bd_s hm
        rcases ite_or hm with ⟨hc, hm⟩ | ⟨hc, hm⟩
        · cases hm
          exact f
        · exact kj4 hm
      · exact kj4 hm
theorem fkm_readProduct (h0 : PH) {r : Int32 × PH} (hm : mm_readProduct h0 = some r) : Fk (FKdm_readProduct ) r.2 h0 := by
  generalize hSe : FKdm_readProduct = S
  have hS : ∀ b, b ∈ ([118, 119, 1025, 1013, 1014, 1012, 1015, 1029, 1030] : List Nat) → b ∈ S := by rw [← hSe]; exact fun b hb => hb
  generalize hge : h0 = g at ⊢
  have f : Fk S h0 g := by rw [hge]; exact fun _ _ _ => rfl
  unfold mm_readProduct at hm
  obtain ⟨r1, h2, he, hm⟩ := bd2_s hm
  replace f := fk_tr f (fkm_readUnit _ he) (fun b hb => hS b ((by decide +kernel : ∀ b, b ∈ ([118, 119, 1025, 1013, 1014, 1012, 1015, 1029, 1030] : List Nat) → b ∈ ([118, 119, 1025, 1013, 1014, 1012, 1015, 1029, 1030] : List Nat)) b hb))
  rcases ite_or hm with ⟨hc, hm⟩ | ⟨hc, hm⟩
  · cases hm
    exact f
  · refine wk_m_readProduct_L10 _ _ S g _ (fun b hb => hS b ((by decide +kernel : ∀ b, b ∈ ([1013, 1014, 1012, 1015, 118, 119, 1025, 1029, 1030] : List Nat) → b ∈ ([118, 119, 1025, 1013, 1014, 1012, 1015, 1029, 1030] : List Nat)) b hb)) (fun h15 hm f => ?_) (fun h18 hm f => ?_) _ _ hm f
    · obtain ⟨r16, h17, he, hm⟩ := bd2_s hm
      replace f := fk_tr f (fkm_errs _ _ he) (fun b hb => hS b ((by decide +kernel : ∀ b, b ∈ ([1029, 1030] : List Nat) → b ∈ ([118, 119, 1025, 1013, 1014, 1012, 1015, 1029, 1030] : List Nat)) b hb))
      cases hm
      exact f
    · obtain ⟨r19, h20, he, hm⟩ := bd2_s hm
      replace f := fk_tr f (fkm_errs _ _ he) (fun b hb => hS b ((by decide +kernel : ∀ b, b ∈ ([1029, 1030] : List Nat) → b ∈ ([118, 119, 1025, 1013, 1014, 1012, 1015, 1029, 1030] : List Nat)) b hb))
      cases hm
      exact f
def FKdm_readSum : List Nat := [118, 119, 1025, 1013, 1014, 1012, 1015, 1029, 1030]
theorem wk_m_readSum_L10  (S : List Nat) (g : PH) (r : Int32 × PH) (hS : ∀ b, b ∈ ([1013, 1014, 1012, 1015, 118, 119, 1025, 1029, 1030] : List Nat) → b ∈ S) : ∀ (n : Nat) (hv : PH), mm_readSum_L10  n hv = some r → Fk S hv g → Fk S r.2 g := by
  intro n
  induction n with
  | zero => intro hv hm; cases hm
  | succ n ih =>
    intro hv hm f
    unfold mm_readSum_L10 at hm
    obtain ⟨r3, -, hm⟩ := bd_s hm
    refine v_j0 (Fk S r.2 g) hm (fun hm => ?_) (fun j4 kj4 hm => ?_)
    · refine v_j1 (fun (x6 : Int32) => Fk S r.2 g) hm (fun x6 hm => ?_) (fun j5 kj5 hm => ?_)
      · obtain ⟨h7, he, hm⟩ := bd_s hm
        replace f := fk_tr f (fkm_reads _ he) (fun b hb => hS b ((by decide +kernel : ∀ b, b ∈ ([1013, 1014, 1012, 1015] : List Nat) → b ∈ ([1013, 1014, 1012, 1015, 118, 119, 1025, 1029, 1030] : List Nat)) b hb))
        obtain ⟨r8, h9, he, hm⟩ := bd2_s hm
        replace f := fk_tr f (fkm_readProduct _ he) (fun b hb => hS b ((by decide +kernel : ∀ b, b ∈ ([118, 119, 1025, 1013, 1014, 1012, 1015, 1029, 1030] : List Nat) → b ∈ ([1013, 1014, 1012, 1015, 118, 119, 1025, 1029, 1030] : List Nat)) b hb))
        rcases ite_or hm with ⟨hc, hm⟩ | ⟨hc, hm⟩
        · cases hm
          exact f
        · obtain ⟨h10, he, hm⟩ := bd_s hm
          replace f := fk_tr f (fkm_emits _ _ _ he) (fun b hb => hS b ((by decide +kernel : ∀ b, b ∈ ([118, 119, 1025] : List Nat) → b ∈ ([1013, 1014, 1012, 1015, 118, 119, 1025, 1029, 1030] : List Nat)) b hb))
          exact ih _ hm f
      · rcases ite_or hm with ⟨hc, hm⟩ | ⟨hc, hm⟩
        · exact kj5 _ hm
        · exact kj5 _ hm
    · rcases ite_or hm with ⟨hc, hm⟩ | ⟨hc, hm⟩
      · obtain ⟨r11, -, hm⟩ := bd_s hm
        rcases ite_or hm with ⟨hc, hm⟩ | ⟨hc, hm⟩
        · cases hm
          exact f
        · exact kj4 hm
      · exact kj4 hm
theorem fkm_readSum (h0 : PH) {r : Int32 × PH} (hm : mm_readSum h0 = some r) : Fk (FKdm_readSum ) r.2 h0 := by
  generalize hSe : FKdm_readSum = S
  have hS : ∀ b, b ∈ ([118, 119, 1025, 1013, 1014, 1012, 1015, 1029, 1030] : List Nat) → b ∈ S := by rw [← hSe]; exact fun b hb => hb
  generalize hge : h0 = g at ⊢
  have f : Fk S h0 g := by rw [hge]; exact fun _ _ _ => rfl
  unfold mm_readSum at hm
  obtain ⟨r1, h2, he, hm⟩ := bd2_s hm
  replace f := fk_tr f (fkm_readProduct _ he) (fun b hb => hS b ((by decide +kernel : ∀ b, b ∈ ([118, 119, 1025, 1013, 1014, 1012, 1015, 1029, 1030] : List Nat) → b ∈ ([118, 119, 1025, 1013, 1014, 1012, 1015, 1029, 1030] : List Nat)) b hb))
  rcases ite_or hm with ⟨hc, hm⟩ | ⟨hc, hm⟩
  · cases hm
    exact f
  · exact wk_m_readSum_L10 S g _ (fun b hb => hS b ((by decide +kernel : ∀ b, b ∈ ([1013, 1014, 1012, 1015, 118, 119, 1025, 1029, 1030] : List Nat) → b ∈ ([118, 119, 1025, 1013, 1014, 1012, 1015, 1029, 1030] : List Nat)) b hb)) _ _ hm f
def FKdm_readCompared : List Nat := [118, 119, 1025, 1013, 1014, 1012, 1015, 1029, 1030]
theorem fkm_readCompared (h0 : PH) {r : Int32 × PH} (hm : mm_readCompared h0 = some r) : Fk (FKdm_readCompared ) r.2 h0 := by
  generalize hSe : FKdm_readCompared = S
  have hS : ∀ b, b ∈ ([118, 119, 1025, 1013, 1014, 1012, 1015, 1029, 1030] : List Nat) → b ∈ S := by rw [← hSe]; exact fun b hb => hb
  generalize hge : h0 = g at ⊢
  have f : Fk S h0 g := by rw [hge]; exact fun _ _ _ => rfl
  unfold mm_readCompared at hm
  obtain ⟨r1, h2, he, hm⟩ := bd2_s hm
  replace f := fk_tr f (fkm_readSum _ he) (fun b hb => hS b ((by decide +kernel : ∀ b, b ∈ ([118, 119, 1025, 1013, 1014, 1012, 1015, 1029, 1030] : List Nat) → b ∈ ([118, 119, 1025, 1013, 1014, 1012, 1015, 1029, 1030] : List Nat)) b hb))
  rcases ite_or hm with ⟨hc, hm⟩ | ⟨hc, hm⟩
  · cases hm
    exact f
  · obtain ⟨r3, -, hm⟩ := bd_s hm
    refine v_j0 (Fk S r.2 g) hm (fun hm => ?_) (fun j4 kj4 hm => ?_)
    · refine v_j1 (fun (x6 : Int32) => Fk S r.2 g) hm (fun x6 hm => ?_) (fun j5 kj5 hm => ?_)
      · obtain ⟨h7, he, hm⟩ := bd_s hm
        replace f := fk_tr f (fkm_reads _ he) (fun b hb => hS b ((by decide +kernel : ∀ b, b ∈ ([1013, 1014, 1012, 1015] : List Nat) → b ∈ ([118, 119, 1025, 1013, 1014, 1012, 1015, 1029, 1030] : List Nat)) b hb))
        obtain ⟨r8, h9, he, hm⟩ := bd2_s hm
        replace f := fk_tr f (fkm_readSum _ he) (fun b hb => hS b ((by decide +kernel : ∀ b, b ∈ ([118, 119, 1025, 1013, 1014, 1012, 1015, 1029, 1030] : List Nat) → b ∈ ([118, 119, 1025, 1013, 1014, 1012, 1015, 1029, 1030] : List Nat)) b hb))
        rcases ite_or hm with ⟨hc, hm⟩ | ⟨hc, hm⟩
        · cases hm
          exact f
        · obtain ⟨h10, he, hm⟩ := bd_s hm
          replace f := fk_tr f (fkm_emits _ _ _ he) (fun b hb => hS b ((by decide +kernel : ∀ b, b ∈ ([118, 119, 1025] : List Nat) → b ∈ ([118, 119, 1025, 1013, 1014, 1012, 1015, 1029, 1030] : List Nat)) b hb))
          cases hm
          exact f
      · rcases ite_or hm with ⟨hc, hm⟩ | ⟨hc, hm⟩
        · exact kj5 _ hm
        · rcases ite_or hm with ⟨hc, hm⟩ | ⟨hc, hm⟩
          · exact kj5 _ hm
          · exact kj5 _ hm
    · rcases ite_or hm with ⟨hc, hm⟩ | ⟨hc, hm⟩
      · obtain ⟨r11, -, hm⟩ := bd_s hm
        rcases ite_or hm with ⟨hc, hm⟩ | ⟨hc, hm⟩
        · obtain ⟨r12, -, hm⟩ := bd_s hm
          rcases ite_or hm with ⟨hc, hm⟩ | ⟨hc, hm⟩
          · obtain ⟨r13, h14, he, hm⟩ := bd2_s hm
            replace f := fk_tr f (fkm_errs _ _ he) (fun b hb => hS b ((by decide +kernel : ∀ b, b ∈ ([1029, 1030] : List Nat) → b ∈ ([118, 119, 1025, 1013, 1014, 1012, 1015, 1029, 1030] : List Nat)) b hb))
            cases hm
            exact f
          · exact kj4 hm
        · exact kj4 hm
      · exact kj4 hm
def FKdm_waits (p1 : Int32) : List Nat := [120, 1028]
theorem fkm_waits (p1 : Int32) (h0 : PH) {r : PH} (hm : mm_waits p1 h0 = some r) : Fk (FKdm_waits p1) r h0 := by
  generalize hSe : FKdm_waits p1 = S
  have hS : ∀ b, b ∈ ([120, 1028] : List Nat) → b ∈ S := by rw [← hSe]; exact fun b hb => hb
  generalize hge : h0 = g at ⊢
  have f : Fk S h0 g := by rw [hge]; exact fun _ _ _ => rfl
  unfold mm_waits at hm
  obtain ⟨-, hm⟩ := ck_s hm
  obtain ⟨h1, e1, hm⟩ := lt_some hm
  replace f : Fk S h1 g := by rw [e1]; exact up_fk f (by decide) (hS _ (by decide))
  obtain ⟨h2, e1, hm⟩ := lt_some hm
  replace f : Fk S h2 g := by rw [e1]; exact up_fk4 f (hS _ (by decide))
  cases hm
  exact f
def FKdm_settles (p1 : Int32) : List Nat := [1028, 118, 119, 1025, 1026]
theorem wk_m_settles_L0 (p1 : Int32) (S : List Nat) (g : PH) (r : PH) (hS : ∀ b, b ∈ ([1028, 118, 119, 1025, 1026] : List Nat) → b ∈ S) : ∀ (n : Nat) (hv : PH), mm_settles_L0 p1 n hv = some r → Fk S hv g → Fk S r g := by
  intro n
  induction n with
  | zero => intro hv hm; cases hm
  | succ n ih =>
    intro hv hm f
    unfold mm_settles_L0 at hm
    rcases ite_or hm with ⟨hc, hm⟩ | ⟨hc, hm⟩
    · cases hm
      exact f
    · obtain ⟨-, hm⟩ := ck_s hm
      rcases ite_or hm with ⟨hc, hm⟩ | ⟨hc, hm⟩
      · obtain ⟨h1, e1, hm⟩ := lt_some hm
        replace f : Fk S h1 g := by rw [e1]; exact up_fk4 f (hS _ (by decide))
        obtain ⟨h2, he, hm⟩ := bd_s hm
        replace f := fk_tr f (fkm_emits _ _ _ he) (fun b hb => hS b ((by decide +kernel : ∀ b, b ∈ ([118, 119, 1025] : List Nat) → b ∈ ([1028, 118, 119, 1025, 1026] : List Nat)) b hb))
        rcases ite_or hm with ⟨hc, hm⟩ | ⟨hc, hm⟩
        · obtain ⟨h3, e1, hm⟩ := lt_some hm
          replace f : Fk S h3 g := by rw [e1]; exact up_fk4 f (hS _ (by decide))
          exact ih _ hm f
        · exact ih _ hm f
      · cases hm
        exact f
theorem fkm_settles (p1 : Int32) (h0 : PH) {r : PH} (hm : mm_settles p1 h0 = some r) : Fk (FKdm_settles p1) r h0 := by
  generalize hSe : FKdm_settles p1 = S
  have hS : ∀ b, b ∈ ([1028, 118, 119, 1025, 1026] : List Nat) → b ∈ S := by rw [← hSe]; exact fun b hb => hb
  generalize hge : h0 = g at ⊢
  have f : Fk S h0 g := by rw [hge]; exact fun _ _ _ => rfl
  unfold mm_settles at hm
  exact wk_m_settles_L0 _ S g _ (fun b hb => hS b ((by decide +kernel : ∀ b, b ∈ ([1028, 118, 119, 1025, 1026] : List Nat) → b ∈ ([1028, 118, 119, 1025, 1026] : List Nat)) b hb)) _ _ hm f
def FKdm_readAny : List Nat := [1028, 1029, 1030, 118, 119, 1025, 1026, 1013, 1014, 1012, 1015, 120]
theorem wk_m_readAny_L9 (k0 : PH → Option (Int32 × PH)) (k1 : PH → Option (Int32 × PH)) (S : List Nat) (g : PH) (r : Int32 × PH) (hS : ∀ b, b ∈ ([1028, 118, 119, 1025, 1026, 1013, 1014, 1012, 1015, 120, 1029, 1030] : List Nat) → b ∈ S) (kk0 : ∀ (y0 : PH), k0 y0 = some r → Fk S y0 g → Fk S r.2 g) (kk1 : ∀ (y0 : PH), k1 y0 = some r → Fk S y0 g → Fk S r.2 g) : ∀ (n : Nat) (v1 : Int32) (v2 : Int32) (hv : PH), mm_readAny_L9 k0 k1 n v1 v2 hv = some r → Fk S hv g → Fk S r.2 g := by
  intro n
  induction n with
  | zero => intro v1 v2 hv hm; cases hm
  | succ n ih =>
    intro v1 v2 hv hm f
    unfold mm_readAny_L9 at hm
    rcases ite_or hm with ⟨hc, hm⟩ | ⟨hc, hm⟩
    · obtain ⟨r2, -, hm⟩ := bd_s hm
      rcases ite_or hm with ⟨hc, hm⟩ | ⟨hc, hm⟩
      · obtain ⟨r3, -, hm⟩ := bd_s hm
        rcases ite_or hm with ⟨hc, hm⟩ | ⟨hc, hm⟩
        · obtain ⟨h4, he, hm⟩ := bd_s hm
          replace f := fk_tr f (fkm_settles _ _ he) (fun b hb => hS b ((by decide +kernel : ∀ b, b ∈ ([1028, 118, 119, 1025, 1026] : List Nat) → b ∈ ([1028, 118, 119, 1025, 1026, 1013, 1014, 1012, 1015, 120, 1029, 1030] : List Nat)) b hb))
          obtain ⟨h5, he, hm⟩ := bd_s hm
          replace f := fk_tr f (fkm_settles _ _ he) (fun b hb => hS b ((by decide +kernel : ∀ b, b ∈ ([1028, 118, 119, 1025, 1026] : List Nat) → b ∈ ([1028, 118, 119, 1025, 1026, 1013, 1014, 1012, 1015, 120, 1029, 1030] : List Nat)) b hb))
          rcases ite_or hm with ⟨hc, hm⟩ | ⟨hc, hm⟩
          · cases hm
            exact f
          · obtain ⟨r6, -, hm⟩ := bd_s hm
            rcases ite_or hm with ⟨hc, hm⟩ | ⟨hc, hm⟩
            · exact kk1 _ hm f
            · obtain ⟨h7, e1, hm⟩ := lt_some hm
              replace f : Fk S h7 g := by rw [e1]; exact up_fk4 f (hS _ (by decide))
              obtain ⟨x8, -, hm⟩ := lt_some hm
              obtain ⟨h9, e1, hm⟩ := lt_some hm
              replace f : Fk S h9 g := by rw [e1]; exact up_fk4 f (hS _ (by decide))
              obtain ⟨h10, he, hm⟩ := bd_s hm
              replace f := fk_tr f (fkm_settles _ _ he) (fun b hb => hS b ((by decide +kernel : ∀ b, b ∈ ([1028, 118, 119, 1025, 1026] : List Nat) → b ∈ ([1028, 118, 119, 1025, 1026, 1013, 1014, 1012, 1015, 120, 1029, 1030] : List Nat)) b hb))
              obtain ⟨h11, he, hm⟩ := bd_s hm
              replace f := fk_tr f (fkm_reads _ he) (fun b hb => hS b ((by decide +kernel : ∀ b, b ∈ ([1013, 1014, 1012, 1015] : List Nat) → b ∈ ([1028, 118, 119, 1025, 1026, 1013, 1014, 1012, 1015, 120, 1029, 1030] : List Nat)) b hb))
              exact ih _ _ _ hm f
        · obtain ⟨h12, he, hm⟩ := bd_s hm
          replace f := fk_tr f (fkm_settles _ _ he) (fun b hb => hS b ((by decide +kernel : ∀ b, b ∈ ([1028, 118, 119, 1025, 1026] : List Nat) → b ∈ ([1028, 118, 119, 1025, 1026, 1013, 1014, 1012, 1015, 120, 1029, 1030] : List Nat)) b hb))
          obtain ⟨h13, he, hm⟩ := bd_s hm
          replace f := fk_tr f (fkm_settles _ _ he) (fun b hb => hS b ((by decide +kernel : ∀ b, b ∈ ([1028, 118, 119, 1025, 1026] : List Nat) → b ∈ ([1028, 118, 119, 1025, 1026, 1013, 1014, 1012, 1015, 120, 1029, 1030] : List Nat)) b hb))
          obtain ⟨h14, he, hm⟩ := bd_s hm
          replace f := fk_tr f (fkm_waits _ _ he) (fun b hb => hS b ((by decide +kernel : ∀ b, b ∈ ([120, 1028] : List Nat) → b ∈ ([1028, 118, 119, 1025, 1026, 1013, 1014, 1012, 1015, 120, 1029, 1030] : List Nat)) b hb))
          obtain ⟨h15, he, hm⟩ := bd_s hm
          replace f := fk_tr f (fkm_reads _ he) (fun b hb => hS b ((by decide +kernel : ∀ b, b ∈ ([1013, 1014, 1012, 1015] : List Nat) → b ∈ ([1028, 118, 119, 1025, 1026, 1013, 1014, 1012, 1015, 120, 1029, 1030] : List Nat)) b hb))
          exact ih _ _ _ hm f
      · obtain ⟨h16, he, hm⟩ := bd_s hm
        replace f := fk_tr f (fkm_settles _ _ he) (fun b hb => hS b ((by decide +kernel : ∀ b, b ∈ ([1028, 118, 119, 1025, 1026] : List Nat) → b ∈ ([1028, 118, 119, 1025, 1026, 1013, 1014, 1012, 1015, 120, 1029, 1030] : List Nat)) b hb))
        obtain ⟨h17, he, hm⟩ := bd_s hm
        replace f := fk_tr f (fkm_waits _ _ he) (fun b hb => hS b ((by decide +kernel : ∀ b, b ∈ ([120, 1028] : List Nat) → b ∈ ([1028, 118, 119, 1025, 1026, 1013, 1014, 1012, 1015, 120, 1029, 1030] : List Nat)) b hb))
        obtain ⟨h18, he, hm⟩ := bd_s hm
        replace f := fk_tr f (fkm_reads _ he) (fun b hb => hS b ((by decide +kernel : ∀ b, b ∈ ([1013, 1014, 1012, 1015] : List Nat) → b ∈ ([1028, 118, 119, 1025, 1026, 1013, 1014, 1012, 1015, 120, 1029, 1030] : List Nat)) b hb))
        exact ih _ _ _ hm f
    · obtain ⟨r19, -, hm⟩ := bd_s hm
      refine v_j0 (Fk S r.2 g) hm (fun hm => ?_) (fun j20 kj20 hm => ?_)
      · rcases ite_or hm with ⟨hc, hm⟩ | ⟨hc, hm⟩
        · exact kk0 _ hm f
        · obtain ⟨h21, e1, hm⟩ := lt_some hm
          replace f : Fk S h21 g := by rw [e1]; exact up_fk4 f (hS _ (by decide))
          refine v_j1 (fun (x23 : Int32) => Fk S r.2 g) hm (fun x23 hm => ?_) (fun j22 kj22 hm => ?_)
          · refine v_j1 (fun (x25 : Int32) => Fk S r.2 g) hm (fun x25 hm => ?_) (fun j24 kj24 hm => ?_)
            · obtain ⟨h26, he, hm⟩ := bd_s hm
              replace f := fk_tr f (fkm_waits _ _ he) (fun b hb => hS b ((by decide +kernel : ∀ b, b ∈ ([120, 1028] : List Nat) → b ∈ ([1028, 118, 119, 1025, 1026, 1013, 1014, 1012, 1015, 120, 1029, 1030] : List Nat)) b hb))
              obtain ⟨h27, he, hm⟩ := bd_s hm
              replace f := fk_tr f (fkm_reads _ he) (fun b hb => hS b ((by decide +kernel : ∀ b, b ∈ ([1013, 1014, 1012, 1015] : List Nat) → b ∈ ([1028, 118, 119, 1025, 1026, 1013, 1014, 1012, 1015, 120, 1029, 1030] : List Nat)) b hb))
              exact ih _ _ _ hm f
            · rcases ite_or hm with ⟨hc, hm⟩ | ⟨hc, hm⟩
              · exact kj24 _ hm
              · exact kj24 _ hm
          · rcases ite_or hm with ⟨hc, hm⟩ | ⟨hc, hm⟩
            · obtain ⟨x28, -, hm⟩ := lt_some hm
              exact kj22 _ hm
            · exact kj22 _ hm
      · rcases ite_or hm with ⟨hc, hm⟩ | ⟨hc, hm⟩
        · obtain ⟨r29, -, hm⟩ := bd_s hm
          rcases ite_or hm with ⟨hc, hm⟩ | ⟨hc, hm⟩
          · obtain ⟨r30, h31, he, hm⟩ := bd2_s hm
            replace f := fk_tr f (fkm_readCompared _ he) (fun b hb => hS b ((by decide +kernel : ∀ b, b ∈ ([118, 119, 1025, 1013, 1014, 1012, 1015, 1029, 1030] : List Nat) → b ∈ ([1028, 118, 119, 1025, 1026, 1013, 1014, 1012, 1015, 120, 1029, 1030] : List Nat)) b hb))
            rcases ite_or hm with ⟨hc, hm⟩ | ⟨hc, hm⟩
            · cases hm
              exact f
            · obtain ⟨h32, he, hm⟩ := bd_s hm
              replace f := fk_tr f (fkm_settles _ _ he) (fun b hb => hS b ((by decide +kernel : ∀ b, b ∈ ([1028, 118, 119, 1025, 1026] : List Nat) → b ∈ ([1028, 118, 119, 1025, 1026, 1013, 1014, 1012, 1015, 120, 1029, 1030] : List Nat)) b hb))
              exact ih _ _ _ hm f
          · exact kj20 hm
        · exact kj20 hm
theorem fkm_readAny (h0 : PH) {r : Int32 × PH} (hm : mm_readAny h0 = some r) : Fk (FKdm_readAny ) r.2 h0 := by
  generalize hSe : FKdm_readAny = S
  have hS : ∀ b, b ∈ ([1028, 1029, 1030, 118, 119, 1025, 1026, 1013, 1014, 1012, 1015, 120] : List Nat) → b ∈ S := by rw [← hSe]; exact fun b hb => hb
  generalize hge : h0 = g at ⊢
  have f : Fk S h0 g := by rw [hge]; exact fun _ _ _ => rfl
  unfold mm_readAny at hm
  obtain ⟨h1, e1, hm⟩ := lt_some hm
  replace f : Fk S h1 g := by rw [e1]; exact up_fk4 f (hS _ (by decide))
  refine wk_m_readAny_L9 _ _ S g _ (fun b hb => hS b ((by decide +kernel : ∀ b, b ∈ ([1028, 118, 119, 1025, 1026, 1013, 1014, 1012, 1015, 120, 1029, 1030] : List Nat) → b ∈ ([1028, 1029, 1030, 118, 119, 1025, 1026, 1013, 1014, 1012, 1015, 120] : List Nat)) b hb)) (fun h33 hm f => ?_) (fun h36 hm f => ?_) _ _ _ _ hm f
  · obtain ⟨r34, h35, he, hm⟩ := bd2_s hm
    replace f := fk_tr f (fkm_errs _ _ he) (fun b hb => hS b ((by decide +kernel : ∀ b, b ∈ ([1029, 1030] : List Nat) → b ∈ ([1028, 1029, 1030, 118, 119, 1025, 1026, 1013, 1014, 1012, 1015, 120] : List Nat)) b hb))
    cases hm
    exact f
  · obtain ⟨r37, h38, he, hm⟩ := bd2_s hm
    replace f := fk_tr f (fkm_errs _ _ he) (fun b hb => hS b ((by decide +kernel : ∀ b, b ∈ ([1029, 1030] : List Nat) → b ∈ ([1028, 1029, 1030, 118, 119, 1025, 1026, 1013, 1014, 1012, 1015, 120] : List Nat)) b hb))
    cases hm
    exact f
def FKdm_readLaw : List Nat := [1029, 1030, 114, 1013, 1014, 1012, 1015, 115, 118, 119, 1025, 116, 117, 1028, 1026, 120]
theorem wk_m_readLaw_L2 (k0 : PH → Option (Int32 × PH)) (k1 : PH → Option (Int32 × PH)) (k2 : Int32 → PH → Option (Int32 × PH)) (S : List Nat) (g : PH) (r : Int32 × PH) (hS : ∀ b, b ∈ ([114, 1013, 1014, 1012, 1015, 115, 118, 119, 1025, 1029, 1030, 116, 117, 1028, 1026, 120] : List Nat) → b ∈ S) (kk0 : ∀ (y0 : PH), k0 y0 = some r → Fk S y0 g → Fk S r.2 g) (kk1 : ∀ (y0 : PH), k1 y0 = some r → Fk S y0 g → Fk S r.2 g) (kk2 : ∀ (y0 : Int32) (y1 : PH), k2 y0 y1 = some r → Fk S y1 g → Fk S r.2 g) : ∀ (n : Nat) (v1 : Int32) (hv : PH), mm_readLaw_L2 k0 k1 k2 n v1 hv = some r → Fk S hv g → Fk S r.2 g := by
  intro n
  induction n with
  | zero => intro v1 hv hm; cases hm
  | succ n ih =>
    intro v1 hv hm f
    unfold mm_readLaw_L2 at hm
    obtain ⟨r1, -, hm⟩ := bd_s hm
    rcases ite_or hm with ⟨hc, hm⟩ | ⟨hc, hm⟩
    · exact kk2 _ _ hm f
    · rcases ite_or hm with ⟨hc, hm⟩ | ⟨hc, hm⟩
      · exact kk0 _ hm f
      · obtain ⟨x2, -, hm⟩ := lt_some hm
        obtain ⟨-, hm⟩ := ck_s hm
        obtain ⟨h3, e1, hm⟩ := lt_some hm
        replace f : Fk S h3 g := by rw [e1]; exact up_fk f (by decide) (hS _ (by decide))
        obtain ⟨h4, he, hm⟩ := bd_s hm
        replace f := fk_tr f (fkm_reads _ he) (fun b hb => hS b ((by decide +kernel : ∀ b, b ∈ ([1013, 1014, 1012, 1015] : List Nat) → b ∈ ([114, 1013, 1014, 1012, 1015, 115, 118, 119, 1025, 1029, 1030, 116, 117, 1028, 1026, 120] : List Nat)) b hb))
        obtain ⟨-, hm⟩ := ck_s hm
        obtain ⟨h5, e1, hm⟩ := lt_some hm
        replace f : Fk S h5 g := by rw [e1]; exact up_fk f (by decide) (hS _ (by decide))
        obtain ⟨r6, h7, he, hm⟩ := bd2_s hm
        replace f := fk_tr f (fkm_readSum _ he) (fun b hb => hS b ((by decide +kernel : ∀ b, b ∈ ([118, 119, 1025, 1013, 1014, 1012, 1015, 1029, 1030] : List Nat) → b ∈ ([114, 1013, 1014, 1012, 1015, 115, 118, 119, 1025, 1029, 1030, 116, 117, 1028, 1026, 120] : List Nat)) b hb))
        rcases ite_or hm with ⟨hc, hm⟩ | ⟨hc, hm⟩
        · cases hm
          exact f
        · obtain ⟨-, hm⟩ := ck_s hm
          obtain ⟨h8, e1, hm⟩ := lt_some hm
          replace f : Fk S h8 g := by rw [e1]; exact up_fk f (by decide) (hS _ (by decide))
          obtain ⟨r9, -, hm⟩ := bd_s hm
          refine v_j1 (fun (h11 : PH) => Fk S h11 g → Fk S r.2 g) hm (fun h11 hm f => ?_) (fun j10 kj10 hm => ?_)
          · obtain ⟨-, hm⟩ := ck_s hm
            obtain ⟨h12, e1, hm⟩ := lt_some hm
            replace f : Fk S h12 g := by rw [e1]; exact up_fk f (by decide) (hS _ (by decide))
            obtain ⟨r13, -, hm⟩ := bd_s hm
            rcases ite_or hm with ⟨hc, hm⟩ | ⟨hc, hm⟩
            · exact kk1 _ hm f
            · obtain ⟨h14, he, hm⟩ := bd_s hm
              replace f := fk_tr f (fkm_reads _ he) (fun b hb => hS b ((by decide +kernel : ∀ b, b ∈ ([1013, 1014, 1012, 1015] : List Nat) → b ∈ ([114, 1013, 1014, 1012, 1015, 115, 118, 119, 1025, 1029, 1030, 116, 117, 1028, 1026, 120] : List Nat)) b hb))
              obtain ⟨x15, -, hm⟩ := lt_some hm
              exact ih _ _ hm f
          · rcases ite_or hm with ⟨hc, hm⟩ | ⟨hc, hm⟩
            · exact kj10 _ hm f
            · obtain ⟨h16, he, hm⟩ := bd_s hm
              replace f := fk_tr f (fkm_reads _ he) (fun b hb => hS b ((by decide +kernel : ∀ b, b ∈ ([1013, 1014, 1012, 1015] : List Nat) → b ∈ ([114, 1013, 1014, 1012, 1015, 115, 118, 119, 1025, 1029, 1030, 116, 117, 1028, 1026, 120] : List Nat)) b hb))
              obtain ⟨r17, h18, he, hm⟩ := bd2_s hm
              replace f := fk_tr f (fkm_readAny _ he) (fun b hb => hS b ((by decide +kernel : ∀ b, b ∈ ([1028, 1029, 1030, 118, 119, 1025, 1026, 1013, 1014, 1012, 1015, 120] : List Nat) → b ∈ ([114, 1013, 1014, 1012, 1015, 115, 118, 119, 1025, 1029, 1030, 116, 117, 1028, 1026, 120] : List Nat)) b hb))
              rcases ite_or hm with ⟨hc, hm⟩ | ⟨hc, hm⟩
              · cases hm
                exact f
              · exact kj10 _ hm f
theorem fkm_readLaw (h0 : PH) {r : Int32 × PH} (hm : mm_readLaw h0 = some r) : Fk (FKdm_readLaw ) r.2 h0 := by
  generalize hSe : FKdm_readLaw = S
  have hS : ∀ b, b ∈ ([1029, 1030, 114, 1013, 1014, 1012, 1015, 115, 118, 119, 1025, 116, 117, 1028, 1026, 120] : List Nat) → b ∈ S := by rw [← hSe]; exact fun b hb => hb
  generalize hge : h0 = g at ⊢
  have f : Fk S h0 g := by rw [hge]; exact fun _ _ _ => rfl
  unfold mm_readLaw at hm
  refine wk_m_readLaw_L2 _ _ _ S g _ (fun b hb => hS b ((by decide +kernel : ∀ b, b ∈ ([114, 1013, 1014, 1012, 1015, 115, 118, 119, 1025, 1029, 1030, 116, 117, 1028, 1026, 120] : List Nat) → b ∈ ([1029, 1030, 114, 1013, 1014, 1012, 1015, 115, 118, 119, 1025, 116, 117, 1028, 1026, 120] : List Nat)) b hb)) (fun h19 hm f => ?_) (fun h22 hm f => ?_) (fun x25 h26 hm f => ?_) _ _ _ hm f
  · obtain ⟨r20, h21, he, hm⟩ := bd2_s hm
    replace f := fk_tr f (fkm_errs _ _ he) (fun b hb => hS b ((by decide +kernel : ∀ b, b ∈ ([1029, 1030] : List Nat) → b ∈ ([1029, 1030, 114, 1013, 1014, 1012, 1015, 115, 118, 119, 1025, 116, 117, 1028, 1026, 120] : List Nat)) b hb))
    cases hm
    exact f
  · obtain ⟨r23, h24, he, hm⟩ := bd2_s hm
    replace f := fk_tr f (fkm_errs _ _ he) (fun b hb => hS b ((by decide +kernel : ∀ b, b ∈ ([1029, 1030] : List Nat) → b ∈ ([1029, 1030, 114, 1013, 1014, 1012, 1015, 115, 118, 119, 1025, 116, 117, 1028, 1026, 120] : List Nat)) b hb))
    cases hm
    exact f
  · rcases ite_or hm with ⟨hc, hm⟩ | ⟨hc, hm⟩
    · cases hm
      exact f
    · obtain ⟨r27, h28, he, hm⟩ := bd2_s hm
      replace f := fk_tr f (fkm_errs _ _ he) (fun b hb => hS b ((by decide +kernel : ∀ b, b ∈ ([1029, 1030] : List Nat) → b ∈ ([1029, 1030, 114, 1013, 1014, 1012, 1015, 115, 118, 119, 1025, 116, 117, 1028, 1026, 120] : List Nat)) b hb))
      cases hm
      exact f
def FKdm_takesLaw (p1 : Int32) : List Nat := [113, 118, 119, 114, 115, 116, 117]
theorem wk_m_takesLaw_L2 (p1 : Int32) (k0 : PH → Option (PH)) (S : List Nat) (g : PH) (r : PH) (hS : ∀ b, b ∈ ([114, 115, 116, 117] : List Nat) → b ∈ S) (kk0 : ∀ (y0 : PH), k0 y0 = some r → Fk S y0 g → Fk S r g) : ∀ (n : Nat) (v2 : Int32) (hv : PH), mm_takesLaw_L2 p1 k0 n v2 hv = some r → Fk S hv g → Fk S r g := by
  intro n
  induction n with
  | zero => intro v2 hv hm; cases hm
  | succ n ih =>
    intro v2 hv hm f
    unfold mm_takesLaw_L2 at hm
    rcases ite_or hm with ⟨hc, hm⟩ | ⟨hc, hm⟩
    · exact kk0 _ hm f
    · obtain ⟨-, hm⟩ := ck_s hm
      obtain ⟨-, hm⟩ := ck_s hm
      obtain ⟨h1, e1, hm⟩ := lt_some hm
      replace f : Fk S h1 g := by rw [e1]; exact up_fk f (by decide) (hS _ (by decide))
      obtain ⟨-, hm⟩ := ck_s hm
      obtain ⟨-, hm⟩ := ck_s hm
      obtain ⟨h2, e1, hm⟩ := lt_some hm
      replace f : Fk S h2 g := by rw [e1]; exact up_fk f (by decide) (hS _ (by decide))
      obtain ⟨-, hm⟩ := ck_s hm
      obtain ⟨-, hm⟩ := ck_s hm
      obtain ⟨h3, e1, hm⟩ := lt_some hm
      replace f : Fk S h3 g := by rw [e1]; exact up_fk f (by decide) (hS _ (by decide))
      obtain ⟨-, hm⟩ := ck_s hm
      obtain ⟨-, hm⟩ := ck_s hm
      obtain ⟨h4, e1, hm⟩ := lt_some hm
      replace f : Fk S h4 g := by rw [e1]; exact up_fk f (by decide) (hS _ (by decide))
      exact ih _ _ hm f
theorem wk_m_takesLaw_L107 (p1 : Int32) (k0 : PH → Option (PH)) (S : List Nat) (g : PH) (r : PH) (hS : ∀ b, b ∈ ([118, 119] : List Nat) → b ∈ S) (kk0 : ∀ (y0 : PH), k0 y0 = some r → Fk S y0 g → Fk S r g) : ∀ (n : Nat) (v2 : Int32) (hv : PH), mm_takesLaw_L107 p1 k0 n v2 hv = some r → Fk S hv g → Fk S r g := by
  intro n
  induction n with
  | zero => intro v2 hv hm; cases hm
  | succ n ih =>
    intro v2 hv hm f
    unfold mm_takesLaw_L107 at hm
    rcases ite_or hm with ⟨hc, hm⟩ | ⟨hc, hm⟩
    · exact kk0 _ hm f
    · obtain ⟨-, hm⟩ := ck_s hm
      obtain ⟨-, hm⟩ := ck_s hm
      obtain ⟨h6, e1, hm⟩ := lt_some hm
      replace f : Fk S h6 g := by rw [e1]; exact up_fk f (by decide) (hS _ (by decide))
      obtain ⟨-, hm⟩ := ck_s hm
      obtain ⟨-, hm⟩ := ck_s hm
      obtain ⟨h7, e1, hm⟩ := lt_some hm
      replace f : Fk S h7 g := by rw [e1]; exact up_fk f (by decide) (hS _ (by decide))
      exact ih _ _ hm f
theorem fkm_takesLaw (p1 : Int32) (h0 : PH) {r : PH} (hm : mm_takesLaw p1 h0 = some r) : Fk (FKdm_takesLaw p1) r h0 := by
  generalize hSe : FKdm_takesLaw p1 = S
  have hS : ∀ b, b ∈ ([113, 118, 119, 114, 115, 116, 117] : List Nat) → b ∈ S := by rw [← hSe]; exact fun b hb => hb
  generalize hge : h0 = g at ⊢
  have f : Fk S h0 g := by rw [hge]; exact fun _ _ _ => rfl
  unfold mm_takesLaw at hm
  refine wk_m_takesLaw_L2 _ _ S g _ (fun b hb => hS b ((by decide +kernel : ∀ b, b ∈ ([114, 115, 116, 117] : List Nat) → b ∈ ([113, 118, 119, 114, 115, 116, 117] : List Nat)) b hb)) (fun h5 hm f => ?_) _ _ _ hm f
  · refine wk_m_takesLaw_L107 _ _ S g _ (fun b hb => hS b ((by decide +kernel : ∀ b, b ∈ ([118, 119] : List Nat) → b ∈ ([113, 118, 119, 114, 115, 116, 117] : List Nat)) b hb)) (fun h8 hm f => ?_) _ _ _ hm f
    · obtain ⟨-, hm⟩ := ck_s hm
      obtain ⟨h9, e1, hm⟩ := lt_some hm
      replace f : Fk S h9 g := by rw [e1]; exact up_fk f (by decide) (hS _ (by decide))
      cases hm
      exact f
def FKdm_readNumber (p1 : Int32) (p2 : Int32) : List Nat := [1029, 1030, 1013, 1014, 1012, 1015]
theorem fkm_readNumber (p1 : Int32) (p2 : Int32) (h0 : PH) {r : Int32 × PH} (hm : mm_readNumber p1 p2 h0 = some r) : Fk (FKdm_readNumber p1 p2) r.2 h0 := by
  generalize hSe : FKdm_readNumber p1 p2 = S
  have hS : ∀ b, b ∈ ([1029, 1030, 1013, 1014, 1012, 1015] : List Nat) → b ∈ S := by rw [← hSe]; exact fun b hb => hb
  generalize hge : h0 = g at ⊢
  have f : Fk S h0 g := by rw [hge]; exact fun _ _ _ => rfl
  unfold mm_readNumber at hm
  rcases ite_or hm with ⟨hc, hm⟩ | ⟨hc, hm⟩
  · obtain ⟨r1, -, hm⟩ := bd_s hm
    rcases ite_or hm with ⟨hc, hm⟩ | ⟨hc, hm⟩
    · obtain ⟨r2, h3, he, hm⟩ := bd2_s hm
      replace f := fk_tr f (fkm_errs _ _ he) (fun b hb => hS b ((by decide +kernel : ∀ b, b ∈ ([1029, 1030] : List Nat) → b ∈ ([1029, 1030, 1013, 1014, 1012, 1015] : List Nat)) b hb))
      cases hm
      exact f
    · obtain ⟨x4, -, hm⟩ := lt_some hm
      obtain ⟨h5, he, hm⟩ := bd_s hm
      replace f := fk_tr f (fkm_reads _ he) (fun b hb => hS b ((by decide +kernel : ∀ b, b ∈ ([1013, 1014, 1012, 1015] : List Nat) → b ∈ ([1029, 1030, 1013, 1014, 1012, 1015] : List Nat)) b hb))
      cases hm
      exact f
  · obtain ⟨r6, h7, he, hm⟩ := bd2_s hm
    replace f := fk_tr f (fkm_errs _ _ he) (fun b hb => hS b ((by decide +kernel : ∀ b, b ∈ ([1029, 1030] : List Nat) → b ∈ ([1029, 1030, 1013, 1014, 1012, 1015] : List Nat)) b hb))
    cases hm
    exact f
def FKdm_readMark (p1 : Int32) : List Nat := [1029, 1030, 1013, 1014, 1012, 1015]
theorem fkm_readMark (p1 : Int32) (h0 : PH) {r : Int32 × PH} (hm : mm_readMark p1 h0 = some r) : Fk (FKdm_readMark p1) r.2 h0 := by
  generalize hSe : FKdm_readMark p1 = S
  have hS : ∀ b, b ∈ ([1029, 1030, 1013, 1014, 1012, 1015] : List Nat) → b ∈ S := by rw [← hSe]; exact fun b hb => hb
  generalize hge : h0 = g at ⊢
  have f : Fk S h0 g := by rw [hge]; exact fun _ _ _ => rfl
  unfold mm_readMark at hm
  obtain ⟨r1, -, hm⟩ := bd_s hm
  rcases ite_or hm with ⟨hc, hm⟩ | ⟨hc, hm⟩
  · obtain ⟨r2, h3, he, hm⟩ := bd2_s hm
    replace f := fk_tr f (fkm_errs _ _ he) (fun b hb => hS b ((by decide +kernel : ∀ b, b ∈ ([1029, 1030] : List Nat) → b ∈ ([1029, 1030, 1013, 1014, 1012, 1015] : List Nat)) b hb))
    cases hm
    exact f
  · obtain ⟨h4, he, hm⟩ := bd_s hm
    replace f := fk_tr f (fkm_reads _ he) (fun b hb => hS b ((by decide +kernel : ∀ b, b ∈ ([1013, 1014, 1012, 1015] : List Nat) → b ∈ ([1029, 1030, 1013, 1014, 1012, 1015] : List Nat)) b hb))
    cases hm
    exact f
def FKdm_readTold (p1 : Int32) (p2 : Int32) (p3 : Int32) : List Nat := [1029, 1030, 1013, 1014, 1012, 1015]
theorem fkm_readTold (p1 : Int32) (p2 : Int32) (p3 : Int32) (h0 : PH) {r : Int32 × PH} (hm : mm_readTold p1 p2 p3 h0 = some r) : Fk (FKdm_readTold p1 p2 p3) r.2 h0 := by
  generalize hSe : FKdm_readTold p1 p2 p3 = S
  have hS : ∀ b, b ∈ ([1029, 1030, 1013, 1014, 1012, 1015] : List Nat) → b ∈ S := by rw [← hSe]; exact fun b hb => hb
  generalize hge : h0 = g at ⊢
  have f : Fk S h0 g := by rw [hge]; exact fun _ _ _ => rfl
  unfold mm_readTold at hm
  obtain ⟨r1, -, hm⟩ := bd_s hm
  rcases ite_or hm with ⟨hc, hm⟩ | ⟨hc, hm⟩
  · obtain ⟨r2, h3, he, hm⟩ := bd2_s hm
    replace f := fk_tr f (fkm_errs _ _ he) (fun b hb => hS b ((by decide +kernel : ∀ b, b ∈ ([1029, 1030] : List Nat) → b ∈ ([1029, 1030, 1013, 1014, 1012, 1015] : List Nat)) b hb))
    cases hm
    exact f
  · obtain ⟨h4, he, hm⟩ := bd_s hm
    replace f := fk_tr f (fkm_reads _ he) (fun b hb => hS b ((by decide +kernel : ∀ b, b ∈ ([1013, 1014, 1012, 1015] : List Nat) → b ∈ ([1029, 1030, 1013, 1014, 1012, 1015] : List Nat)) b hb))
    obtain ⟨r5, h6, he, hm⟩ := bd2_s hm
    replace f := fk_tr f (fkm_readNumber _ _ _ he) (fun b hb => hS b ((by decide +kernel : ∀ b, b ∈ ([1029, 1030, 1013, 1014, 1012, 1015] : List Nat) → b ∈ ([1029, 1030, 1013, 1014, 1012, 1015] : List Nat)) b hb))
    cases hm
    exact f
def FKdm_readSkyLine (p1 : Int32) : List Nat := [1029, 1030, 1013, 1014, 1012, 1015, 121]
theorem fkm_readSkyLine (p1 : Int32) (h0 : PH) {r : Int32 × PH} (hm : mm_readSkyLine p1 h0 = some r) : Fk (FKdm_readSkyLine p1) r.2 h0 := by
  generalize hSe : FKdm_readSkyLine p1 = S
  have hS : ∀ b, b ∈ ([1029, 1030, 1013, 1014, 1012, 1015, 121] : List Nat) → b ∈ S := by rw [← hSe]; exact fun b hb => hb
  generalize hge : h0 = g at ⊢
  have f : Fk S h0 g := by rw [hge]; exact fun _ _ _ => rfl
  unfold mm_readSkyLine at hm
  obtain ⟨r1, h2, he, hm⟩ := bd2_s hm
  replace f := fk_tr f (fkm_readTold _ _ _ _ he) (fun b hb => hS b ((by decide +kernel : ∀ b, b ∈ ([1029, 1030, 1013, 1014, 1012, 1015] : List Nat) → b ∈ ([1029, 1030, 1013, 1014, 1012, 1015, 121] : List Nat)) b hb))
  obtain ⟨-, hm⟩ := ck_s hm
  obtain ⟨h3, e1, hm⟩ := lt_some hm
  replace f : Fk S h3 g := by rw [e1]; exact up_fk f (by decide) (hS _ (by decide))
  obtain ⟨-, hm⟩ := ck_s hm
  rcases ite_or hm with ⟨hc, hm⟩ | ⟨hc, hm⟩
  · cases hm
    exact f
  · obtain ⟨r4, -, hm⟩ := bd_s hm
    refine v_j1 (fun (x6 : Int32) => Fk S r.2 g) hm (fun x6 hm => ?_) (fun j5 kj5 hm => ?_)
    · rcases ite_or hm with ⟨hc, hm⟩ | ⟨hc, hm⟩
      · obtain ⟨r7, h8, he, hm⟩ := bd2_s hm
        replace f := fk_tr f (fkm_errs _ _ he) (fun b hb => hS b ((by decide +kernel : ∀ b, b ∈ ([1029, 1030] : List Nat) → b ∈ ([1029, 1030, 1013, 1014, 1012, 1015, 121] : List Nat)) b hb))
        cases hm
        exact f
      · obtain ⟨h9, he, hm⟩ := bd_s hm
        replace f := fk_tr f (fkm_reads _ he) (fun b hb => hS b ((by decide +kernel : ∀ b, b ∈ ([1013, 1014, 1012, 1015] : List Nat) → b ∈ ([1029, 1030, 1013, 1014, 1012, 1015, 121] : List Nat)) b hb))
        obtain ⟨-, hm⟩ := ck_s hm
        obtain ⟨h10, e1, hm⟩ := lt_some hm
        replace f : Fk S h10 g := by rw [e1]; exact up_fk f (by decide) (hS _ (by decide))
        refine v_j2 (fun (x12 : Int32) (h13 : PH) => Fk S h13 g → Fk S r.2 g) hm (fun x12 h13 hm f => ?_) (fun j11 kj11 hm => ?_)
        · obtain ⟨-, hm⟩ := ck_s hm
          obtain ⟨h14, e1, hm⟩ := lt_some hm
          replace f : Fk S h14 g := by rw [e1]; exact up_fk f (by decide) (hS _ (by decide))
          obtain ⟨-, hm⟩ := ck_s hm
          rcases ite_or hm with ⟨hc, hm⟩ | ⟨hc, hm⟩
          · cases hm
            exact f
          · obtain ⟨r15, h16, he, hm⟩ := bd2_s hm
            replace f := fk_tr f (fkm_readMark _ _ he) (fun b hb => hS b ((by decide +kernel : ∀ b, b ∈ ([1029, 1030, 1013, 1014, 1012, 1015] : List Nat) → b ∈ ([1029, 1030, 1013, 1014, 1012, 1015, 121] : List Nat)) b hb))
            cases hm
            exact f
        · rcases ite_or hm with ⟨hc, hm⟩ | ⟨hc, hm⟩
          · obtain ⟨r17, h18, he, hm⟩ := bd2_s hm
            replace f := fk_tr f (fkm_readNumber _ _ _ he) (fun b hb => hS b ((by decide +kernel : ∀ b, b ∈ ([1029, 1030, 1013, 1014, 1012, 1015] : List Nat) → b ∈ ([1029, 1030, 1013, 1014, 1012, 1015, 121] : List Nat)) b hb))
            exact kj11 _ _ hm f
          · exact kj11 _ _ hm f
    · rcases ite_or hm with ⟨hc, hm⟩ | ⟨hc, hm⟩
      · obtain ⟨r19, -, hm⟩ := bd_s hm
        rcases ite_or hm with ⟨hc, hm⟩ | ⟨hc, hm⟩
        · obtain ⟨r20, -, hm⟩ := bd_s hm
          rcases ite_or hm with ⟨hc, hm⟩ | ⟨hc, hm⟩
          · exact kj5 _ hm
          · exact kj5 _ hm
        · exact kj5 _ hm
      · exact kj5 _ hm
def FKdm_readSky : List Nat := [1029, 1030, 1013, 1014, 1012, 1015, 121]
theorem wk_m_readSky_L2 (k0 : PH → Option (Int32 × PH)) (k1 : Int32 → PH → Option (Int32 × PH)) (S : List Nat) (g : PH) (r : Int32 × PH) (hS : ∀ b, b ∈ ([1029, 1030, 1013, 1014, 1012, 1015, 121] : List Nat) → b ∈ S) (kk0 : ∀ (y0 : PH), k0 y0 = some r → Fk S y0 g → Fk S r.2 g) (kk1 : ∀ (y0 : Int32) (y1 : PH), k1 y0 y1 = some r → Fk S y1 g → Fk S r.2 g) : ∀ (n : Nat) (v1 : Int32) (hv : PH), mm_readSky_L2 k0 k1 n v1 hv = some r → Fk S hv g → Fk S r.2 g := by
  intro n
  induction n with
  | zero => intro v1 hv hm; cases hm
  | succ n ih =>
    intro v1 hv hm f
    unfold mm_readSky_L2 at hm
    obtain ⟨r1, -, hm⟩ := bd_s hm
    rcases ite_or hm with ⟨hc, hm⟩ | ⟨hc, hm⟩
    · exact kk1 _ _ hm f
    · rcases ite_or hm with ⟨hc, hm⟩ | ⟨hc, hm⟩
      · exact kk0 _ hm f
      · obtain ⟨r2, h3, he, hm⟩ := bd2_s hm
        replace f := fk_tr f (fkm_readSkyLine _ _ he) (fun b hb => hS b ((by decide +kernel : ∀ b, b ∈ ([1029, 1030, 1013, 1014, 1012, 1015, 121] : List Nat) → b ∈ ([1029, 1030, 1013, 1014, 1012, 1015, 121] : List Nat)) b hb))
        rcases ite_or hm with ⟨hc, hm⟩ | ⟨hc, hm⟩
        · cases hm
          exact f
        · obtain ⟨x4, -, hm⟩ := lt_some hm
          exact ih _ _ hm f
theorem fkm_readSky (h0 : PH) {r : Int32 × PH} (hm : mm_readSky h0 = some r) : Fk (FKdm_readSky ) r.2 h0 := by
  generalize hSe : FKdm_readSky = S
  have hS : ∀ b, b ∈ ([1029, 1030, 1013, 1014, 1012, 1015, 121] : List Nat) → b ∈ S := by rw [← hSe]; exact fun b hb => hb
  generalize hge : h0 = g at ⊢
  have f : Fk S h0 g := by rw [hge]; exact fun _ _ _ => rfl
  unfold mm_readSky at hm
  refine wk_m_readSky_L2 _ _ S g _ (fun b hb => hS b ((by decide +kernel : ∀ b, b ∈ ([1029, 1030, 1013, 1014, 1012, 1015, 121] : List Nat) → b ∈ ([1029, 1030, 1013, 1014, 1012, 1015, 121] : List Nat)) b hb)) (fun h5 hm f => ?_) (fun x8 h9 hm f => ?_) _ _ _ hm f
  · obtain ⟨r6, h7, he, hm⟩ := bd2_s hm
    replace f := fk_tr f (fkm_errs _ _ he) (fun b hb => hS b ((by decide +kernel : ∀ b, b ∈ ([1029, 1030] : List Nat) → b ∈ ([1029, 1030, 1013, 1014, 1012, 1015, 121] : List Nat)) b hb))
    cases hm
    exact f
  · rcases ite_or hm with ⟨hc, hm⟩ | ⟨hc, hm⟩
    · cases hm
      exact f
    · obtain ⟨r10, h11, he, hm⟩ := bd2_s hm
      replace f := fk_tr f (fkm_errs _ _ he) (fun b hb => hS b ((by decide +kernel : ∀ b, b ∈ ([1029, 1030] : List Nat) → b ∈ ([1029, 1030, 1013, 1014, 1012, 1015, 121] : List Nat)) b hb))
      cases hm
      exact f
def FKdm_readDeed (p1 : Int32) : List Nat := [1029, 1030, 1013, 1014, 1012, 1015, 122]
theorem fkm_readDeed (p1 : Int32) (h0 : PH) {r : Int32 × PH} (hm : mm_readDeed p1 h0 = some r) : Fk (FKdm_readDeed p1) r.2 h0 := by
  generalize hSe : FKdm_readDeed p1 = S
  have hS : ∀ b, b ∈ ([1029, 1030, 1013, 1014, 1012, 1015, 122] : List Nat) → b ∈ S := by rw [← hSe]; exact fun b hb => hb
  generalize hge : h0 = g at ⊢
  have f : Fk S h0 g := by rw [hge]; exact fun _ _ _ => rfl
  unfold mm_readDeed at hm
  obtain ⟨r1, h2, he, hm⟩ := bd2_s hm
  replace f := fk_tr f (fkm_readTold _ _ _ _ he) (fun b hb => hS b ((by decide +kernel : ∀ b, b ∈ ([1029, 1030, 1013, 1014, 1012, 1015] : List Nat) → b ∈ ([1029, 1030, 1013, 1014, 1012, 1015, 122] : List Nat)) b hb))
  obtain ⟨-, hm⟩ := ck_s hm
  obtain ⟨h3, e1, hm⟩ := lt_some hm
  replace f : Fk S h3 g := by rw [e1]; exact up_fk f (by decide) (hS _ (by decide))
  obtain ⟨-, hm⟩ := ck_s hm
  rcases ite_or hm with ⟨hc, hm⟩ | ⟨hc, hm⟩
  · cases hm
    exact f
  · refine v_j0 (Fk S r.2 g) hm (fun hm => ?_) (fun j4 kj4 hm => ?_)
    · obtain ⟨r5, h6, he, hm⟩ := bd2_s hm
      replace f := fk_tr f (fkm_errs _ _ he) (fun b hb => hS b ((by decide +kernel : ∀ b, b ∈ ([1029, 1030] : List Nat) → b ∈ ([1029, 1030, 1013, 1014, 1012, 1015, 122] : List Nat)) b hb))
      cases hm
      exact f
    · rcases ite_or hm with ⟨hc, hm⟩ | ⟨hc, hm⟩
      · obtain ⟨r7, -, hm⟩ := bd_s hm
        rcases ite_or hm with ⟨hc, hm⟩ | ⟨hc, hm⟩
        · exact kj4 hm
        · obtain ⟨x8, -, hm⟩ := lt_some hm
          obtain ⟨h9, he, hm⟩ := bd_s hm
          replace f := fk_tr f (fkm_reads _ he) (fun b hb => hS b ((by decide +kernel : ∀ b, b ∈ ([1013, 1014, 1012, 1015] : List Nat) → b ∈ ([1029, 1030, 1013, 1014, 1012, 1015, 122] : List Nat)) b hb))
          obtain ⟨-, hm⟩ := ck_s hm
          obtain ⟨h10, e1, hm⟩ := lt_some hm
          replace f : Fk S h10 g := by rw [e1]; exact up_fk f (by decide) (hS _ (by decide))
          obtain ⟨r11, h12, he, hm⟩ := bd2_s hm
          replace f := fk_tr f (fkm_readNumber _ _ _ he) (fun b hb => hS b ((by decide +kernel : ∀ b, b ∈ ([1029, 1030, 1013, 1014, 1012, 1015] : List Nat) → b ∈ ([1029, 1030, 1013, 1014, 1012, 1015, 122] : List Nat)) b hb))
          obtain ⟨-, hm⟩ := ck_s hm
          obtain ⟨h13, e1, hm⟩ := lt_some hm
          replace f : Fk S h13 g := by rw [e1]; exact up_fk f (by decide) (hS _ (by decide))
          obtain ⟨-, hm⟩ := ck_s hm
          rcases ite_or hm with ⟨hc, hm⟩ | ⟨hc, hm⟩
          · cases hm
            exact f
          · refine v_j2 (fun (x15 : Int32) (h16 : PH) => Fk S h16 g → Fk S r.2 g) hm (fun x15 h16 hm f => ?_) (fun j14 kj14 hm => ?_)
            · obtain ⟨-, hm⟩ := ck_s hm
              obtain ⟨h17, e1, hm⟩ := lt_some hm
              replace f : Fk S h17 g := by rw [e1]; exact up_fk f (by decide) (hS _ (by decide))
              obtain ⟨-, hm⟩ := ck_s hm
              rcases ite_or hm with ⟨hc, hm⟩ | ⟨hc, hm⟩
              · cases hm
                exact f
              · refine v_j2 (fun (x19 : Int32) (h20 : PH) => Fk S h20 g → Fk S r.2 g) hm (fun x19 h20 hm f => ?_) (fun j18 kj18 hm => ?_)
                · obtain ⟨-, hm⟩ := ck_s hm
                  obtain ⟨h21, e1, hm⟩ := lt_some hm
                  replace f : Fk S h21 g := by rw [e1]; exact up_fk f (by decide) (hS _ (by decide))
                  obtain ⟨-, hm⟩ := ck_s hm
                  rcases ite_or hm with ⟨hc, hm⟩ | ⟨hc, hm⟩
                  · cases hm
                    exact f
                  · obtain ⟨r22, h23, he, hm⟩ := bd2_s hm
                    replace f := fk_tr f (fkm_readMark _ _ he) (fun b hb => hS b ((by decide +kernel : ∀ b, b ∈ ([1029, 1030, 1013, 1014, 1012, 1015] : List Nat) → b ∈ ([1029, 1030, 1013, 1014, 1012, 1015, 122] : List Nat)) b hb))
                    cases hm
                    exact f
                · refine v_j0 (Fk S r.2 g) hm (fun hm => ?_) (fun j24 kj24 hm => ?_)
                  · obtain ⟨r25, h26, he, hm⟩ := bd2_s hm
                    replace f := fk_tr f (fkm_readNumber _ _ _ he) (fun b hb => hS b ((by decide +kernel : ∀ b, b ∈ ([1029, 1030, 1013, 1014, 1012, 1015] : List Nat) → b ∈ ([1029, 1030, 1013, 1014, 1012, 1015, 122] : List Nat)) b hb))
                    exact kj18 _ _ hm f
                  · rcases ite_or hm with ⟨hc, hm⟩ | ⟨hc, hm⟩
                    · exact kj24 hm
                    · rcases ite_or hm with ⟨hc, hm⟩ | ⟨hc, hm⟩
                      · exact kj24 hm
                      · exact kj18 _ _ hm f
            · rcases ite_or hm with ⟨hc, hm⟩ | ⟨hc, hm⟩
              · obtain ⟨r27, h28, he, hm⟩ := bd2_s hm
                replace f := fk_tr f (fkm_readNumber _ _ _ he) (fun b hb => hS b ((by decide +kernel : ∀ b, b ∈ ([1029, 1030, 1013, 1014, 1012, 1015] : List Nat) → b ∈ ([1029, 1030, 1013, 1014, 1012, 1015, 122] : List Nat)) b hb))
                exact kj14 _ _ hm f
              · exact kj14 _ _ hm f
      · exact kj4 hm
def FKdm_readOffice : List Nat := [1029, 1030, 1013, 1014, 1012, 1015, 122]
theorem wk_m_readOffice_L2 (k0 : PH → Option (Int32 × PH)) (k1 : Int32 → PH → Option (Int32 × PH)) (S : List Nat) (g : PH) (r : Int32 × PH) (hS : ∀ b, b ∈ ([1029, 1030, 1013, 1014, 1012, 1015, 122] : List Nat) → b ∈ S) (kk0 : ∀ (y0 : PH), k0 y0 = some r → Fk S y0 g → Fk S r.2 g) (kk1 : ∀ (y0 : Int32) (y1 : PH), k1 y0 y1 = some r → Fk S y1 g → Fk S r.2 g) : ∀ (n : Nat) (v1 : Int32) (hv : PH), mm_readOffice_L2 k0 k1 n v1 hv = some r → Fk S hv g → Fk S r.2 g := by
  intro n
  induction n with
  | zero => intro v1 hv hm; cases hm
  | succ n ih =>
    intro v1 hv hm f
    unfold mm_readOffice_L2 at hm
    obtain ⟨r1, -, hm⟩ := bd_s hm
    rcases ite_or hm with ⟨hc, hm⟩ | ⟨hc, hm⟩
    · exact kk1 _ _ hm f
    · rcases ite_or hm with ⟨hc, hm⟩ | ⟨hc, hm⟩
      · exact kk0 _ hm f
      · obtain ⟨r2, h3, he, hm⟩ := bd2_s hm
        replace f := fk_tr f (fkm_readDeed _ _ he) (fun b hb => hS b ((by decide +kernel : ∀ b, b ∈ ([1029, 1030, 1013, 1014, 1012, 1015, 122] : List Nat) → b ∈ ([1029, 1030, 1013, 1014, 1012, 1015, 122] : List Nat)) b hb))
        rcases ite_or hm with ⟨hc, hm⟩ | ⟨hc, hm⟩
        · cases hm
          exact f
        · obtain ⟨x4, -, hm⟩ := lt_some hm
          exact ih _ _ hm f
theorem fkm_readOffice (h0 : PH) {r : Int32 × PH} (hm : mm_readOffice h0 = some r) : Fk (FKdm_readOffice ) r.2 h0 := by
  generalize hSe : FKdm_readOffice = S
  have hS : ∀ b, b ∈ ([1029, 1030, 1013, 1014, 1012, 1015, 122] : List Nat) → b ∈ S := by rw [← hSe]; exact fun b hb => hb
  generalize hge : h0 = g at ⊢
  have f : Fk S h0 g := by rw [hge]; exact fun _ _ _ => rfl
  unfold mm_readOffice at hm
  refine wk_m_readOffice_L2 _ _ S g _ (fun b hb => hS b ((by decide +kernel : ∀ b, b ∈ ([1029, 1030, 1013, 1014, 1012, 1015, 122] : List Nat) → b ∈ ([1029, 1030, 1013, 1014, 1012, 1015, 122] : List Nat)) b hb)) (fun h5 hm f => ?_) (fun x8 h9 hm f => ?_) _ _ _ hm f
  · obtain ⟨r6, h7, he, hm⟩ := bd2_s hm
    replace f := fk_tr f (fkm_errs _ _ he) (fun b hb => hS b ((by decide +kernel : ∀ b, b ∈ ([1029, 1030] : List Nat) → b ∈ ([1029, 1030, 1013, 1014, 1012, 1015, 122] : List Nat)) b hb))
    cases hm
    exact f
  · rcases ite_or hm with ⟨hc, hm⟩ | ⟨hc, hm⟩
    · cases hm
      exact f
    · obtain ⟨r10, h11, he, hm⟩ := bd2_s hm
      replace f := fk_tr f (fkm_errs _ _ he) (fun b hb => hS b ((by decide +kernel : ∀ b, b ∈ ([1029, 1030] : List Nat) → b ∈ ([1029, 1030, 1013, 1014, 1012, 1015, 122] : List Nat)) b hb))
      cases hm
      exact f
def FKdm_readNext : List Nat := [1029, 1030, 1013, 1014, 1012, 1015, 123]
theorem fkm_readNext (h0 : PH) {r : Int32 × PH} (hm : mm_readNext h0 = some r) : Fk (FKdm_readNext ) r.2 h0 := by
  generalize hSe : FKdm_readNext = S
  have hS : ∀ b, b ∈ ([1029, 1030, 1013, 1014, 1012, 1015, 123] : List Nat) → b ∈ S := by rw [← hSe]; exact fun b hb => hb
  generalize hge : h0 = g at ⊢
  have f : Fk S h0 g := by rw [hge]; exact fun _ _ _ => rfl
  unfold mm_readNext at hm
  obtain ⟨r1, h2, he, hm⟩ := bd2_s hm
  replace f := fk_tr f (fkm_readTold _ _ _ _ he) (fun b hb => hS b ((by decide +kernel : ∀ b, b ∈ ([1029, 1030, 1013, 1014, 1012, 1015] : List Nat) → b ∈ ([1029, 1030, 1013, 1014, 1012, 1015, 123] : List Nat)) b hb))
  rcases ite_or hm with ⟨hc, hm⟩ | ⟨hc, hm⟩
  · cases hm
    exact f
  · obtain ⟨r3, -, hm⟩ := bd_s hm
    rcases ite_or hm with ⟨hc, hm⟩ | ⟨hc, hm⟩
    · obtain ⟨r4, h5, he, hm⟩ := bd2_s hm
      replace f := fk_tr f (fkm_errs _ _ he) (fun b hb => hS b ((by decide +kernel : ∀ b, b ∈ ([1029, 1030] : List Nat) → b ∈ ([1029, 1030, 1013, 1014, 1012, 1015, 123] : List Nat)) b hb))
      cases hm
      exact f
    · obtain ⟨h6, he, hm⟩ := bd_s hm
      replace f := fk_tr f (fkm_reads _ he) (fun b hb => hS b ((by decide +kernel : ∀ b, b ∈ ([1013, 1014, 1012, 1015] : List Nat) → b ∈ ([1029, 1030, 1013, 1014, 1012, 1015, 123] : List Nat)) b hb))
      refine v_j0 (Fk S r.2 g) hm (fun hm => ?_) (fun j7 kj7 hm => ?_)
      · obtain ⟨r8, h9, he, hm⟩ := bd2_s hm
        replace f := fk_tr f (fkm_readNumber _ _ _ he) (fun b hb => hS b ((by decide +kernel : ∀ b, b ∈ ([1029, 1030, 1013, 1014, 1012, 1015] : List Nat) → b ∈ ([1029, 1030, 1013, 1014, 1012, 1015, 123] : List Nat)) b hb))
        rcases ite_or hm with ⟨hc, hm⟩ | ⟨hc, hm⟩
        · cases hm
          exact f
        · obtain ⟨-, hm⟩ := ck_s hm
          obtain ⟨-, hm⟩ := ck_s hm
          obtain ⟨h10, e1, hm⟩ := lt_some hm
          replace f : Fk S h10 g := by rw [e1]; exact up_fk f (by decide) (hS _ (by decide))
          obtain ⟨-, hm⟩ := ck_s hm
          obtain ⟨-, hm⟩ := ck_s hm
          obtain ⟨h11, e1, hm⟩ := lt_some hm
          replace f : Fk S h11 g := by rw [e1]; exact up_fk f (by decide) (hS _ (by decide))
          obtain ⟨r12, h13, he, hm⟩ := bd2_s hm
          replace f := fk_tr f (fkm_readMark _ _ he) (fun b hb => hS b ((by decide +kernel : ∀ b, b ∈ ([1029, 1030, 1013, 1014, 1012, 1015] : List Nat) → b ∈ ([1029, 1030, 1013, 1014, 1012, 1015, 123] : List Nat)) b hb))
          cases hm
          exact f
      · rcases ite_or hm with ⟨hc, hm⟩ | ⟨hc, hm⟩
        · rcases ite_or hm with ⟨hc, hm⟩ | ⟨hc, hm⟩
          · obtain ⟨r14, h15, he, hm⟩ := bd2_s hm
            replace f := fk_tr f (fkm_errs _ _ he) (fun b hb => hS b ((by decide +kernel : ∀ b, b ∈ ([1029, 1030] : List Nat) → b ∈ ([1029, 1030, 1013, 1014, 1012, 1015, 123] : List Nat)) b hb))
            cases hm
            exact f
          · exact kj7 hm
        · exact kj7 hm
def FKdm_readNexts : List Nat := [1029, 1030, 1013, 1014, 1012, 1015, 123]
theorem wk_m_readNexts_L2 (k0 : PH → Option (Int32 × PH)) (S : List Nat) (g : PH) (r : Int32 × PH) (hS : ∀ b, b ∈ ([123] : List Nat) → b ∈ S) (kk0 : ∀ (y0 : PH), k0 y0 = some r → Fk S y0 g → Fk S r.2 g) : ∀ (n : Nat) (v1 : Int32) (hv : PH), mm_readNexts_L2 k0 n v1 hv = some r → Fk S hv g → Fk S r.2 g := by
  intro n
  induction n with
  | zero => intro v1 hv hm; cases hm
  | succ n ih =>
    intro v1 hv hm f
    unfold mm_readNexts_L2 at hm
    rcases ite_or hm with ⟨hc, hm⟩ | ⟨hc, hm⟩
    · exact kk0 _ hm f
    · obtain ⟨-, hm⟩ := ck_s hm
      obtain ⟨h1, e1, hm⟩ := lt_some hm
      replace f : Fk S h1 g := by rw [e1]; exact up_fk f (by decide) (hS _ (by decide))
      exact ih _ _ hm f
theorem wk_m_readNexts_L26 (k0 : PH → Option (Int32 × PH)) (k1 : Int32 → PH → Option (Int32 × PH)) (S : List Nat) (g : PH) (r : Int32 × PH) (hS : ∀ b, b ∈ ([1029, 1030, 1013, 1014, 1012, 1015, 123] : List Nat) → b ∈ S) (kk0 : ∀ (y0 : PH), k0 y0 = some r → Fk S y0 g → Fk S r.2 g) (kk1 : ∀ (y0 : Int32) (y1 : PH), k1 y0 y1 = some r → Fk S y1 g → Fk S r.2 g) : ∀ (n : Nat) (v1 : Int32) (hv : PH), mm_readNexts_L26 k0 k1 n v1 hv = some r → Fk S hv g → Fk S r.2 g := by
  intro n
  induction n with
  | zero => intro v1 hv hm; cases hm
  | succ n ih =>
    intro v1 hv hm f
    unfold mm_readNexts_L26 at hm
    obtain ⟨r3, -, hm⟩ := bd_s hm
    rcases ite_or hm with ⟨hc, hm⟩ | ⟨hc, hm⟩
    · exact kk1 _ _ hm f
    · rcases ite_or hm with ⟨hc, hm⟩ | ⟨hc, hm⟩
      · exact kk0 _ hm f
      · obtain ⟨r4, h5, he, hm⟩ := bd2_s hm
        replace f := fk_tr f (fkm_readNext _ he) (fun b hb => hS b ((by decide +kernel : ∀ b, b ∈ ([1029, 1030, 1013, 1014, 1012, 1015, 123] : List Nat) → b ∈ ([1029, 1030, 1013, 1014, 1012, 1015, 123] : List Nat)) b hb))
        rcases ite_or hm with ⟨hc, hm⟩ | ⟨hc, hm⟩
        · cases hm
          exact f
        · obtain ⟨x6, -, hm⟩ := lt_some hm
          exact ih _ _ hm f
theorem fkm_readNexts (h0 : PH) {r : Int32 × PH} (hm : mm_readNexts h0 = some r) : Fk (FKdm_readNexts ) r.2 h0 := by
  generalize hSe : FKdm_readNexts = S
  have hS : ∀ b, b ∈ ([1029, 1030, 1013, 1014, 1012, 1015, 123] : List Nat) → b ∈ S := by rw [← hSe]; exact fun b hb => hb
  generalize hge : h0 = g at ⊢
  have f : Fk S h0 g := by rw [hge]; exact fun _ _ _ => rfl
  unfold mm_readNexts at hm
  refine wk_m_readNexts_L2 _ S g _ (fun b hb => hS b ((by decide +kernel : ∀ b, b ∈ ([123] : List Nat) → b ∈ ([1029, 1030, 1013, 1014, 1012, 1015, 123] : List Nat)) b hb)) (fun h2 hm f => ?_) _ _ _ hm f
  · refine wk_m_readNexts_L26 _ _ S g _ (fun b hb => hS b ((by decide +kernel : ∀ b, b ∈ ([1029, 1030, 1013, 1014, 1012, 1015, 123] : List Nat) → b ∈ ([1029, 1030, 1013, 1014, 1012, 1015, 123] : List Nat)) b hb)) (fun h7 hm f => ?_) (fun x10 h11 hm f => ?_) _ _ _ hm f
    · obtain ⟨r8, h9, he, hm⟩ := bd2_s hm
      replace f := fk_tr f (fkm_errs _ _ he) (fun b hb => hS b ((by decide +kernel : ∀ b, b ∈ ([1029, 1030] : List Nat) → b ∈ ([1029, 1030, 1013, 1014, 1012, 1015, 123] : List Nat)) b hb))
      cases hm
      exact f
    · rcases ite_or hm with ⟨hc, hm⟩ | ⟨hc, hm⟩
      · cases hm
        exact f
      · obtain ⟨r12, h13, he, hm⟩ := bd2_s hm
        replace f := fk_tr f (fkm_errs _ _ he) (fun b hb => hS b ((by decide +kernel : ∀ b, b ∈ ([1029, 1030] : List Nat) → b ∈ ([1029, 1030, 1013, 1014, 1012, 1015, 123] : List Nat)) b hb))
        cases hm
        exact f
def FKdm_readsText (p1 : Int32) : List Nat := [1024, 1013, 1014, 1012, 1015, 1029, 1030, 121, 122, 123, 114, 115, 118, 119, 1025, 116, 117, 1028, 1026, 120]
theorem fkm_readsText (p1 : Int32) (h0 : PH) {r : Int32 × PH} (hm : mm_readsText p1 h0 = some r) : Fk (FKdm_readsText p1) r.2 h0 := by
  generalize hSe : FKdm_readsText p1 = S
  have hS : ∀ b, b ∈ ([1024, 1013, 1014, 1012, 1015, 1029, 1030, 121, 122, 123, 114, 115, 118, 119, 1025, 116, 117, 1028, 1026, 120] : List Nat) → b ∈ S := by rw [← hSe]; exact fun b hb => hb
  generalize hge : h0 = g at ⊢
  have f : Fk S h0 g := by rw [hge]; exact fun _ _ _ => rfl
  unfold mm_readsText at hm
  obtain ⟨h1, e1, hm⟩ := lt_some hm
  replace f : Fk S h1 g := by rw [e1]; exact up_fk4 f (hS _ (by decide))
  obtain ⟨h2, he, hm⟩ := bd_s hm
  replace f := fk_tr f (fkm_reads _ he) (fun b hb => hS b ((by decide +kernel : ∀ b, b ∈ ([1013, 1014, 1012, 1015] : List Nat) → b ∈ ([1024, 1013, 1014, 1012, 1015, 1029, 1030, 121, 122, 123, 114, 115, 118, 119, 1025, 116, 117, 1028, 1026, 120] : List Nat)) b hb))
  rcases ite_or hm with ⟨hc, hm⟩ | ⟨hc, hm⟩
  · obtain ⟨r3, h4, he, hm⟩ := bd2_s hm
    replace f := fk_tr f (fkm_readSky _ he) (fun b hb => hS b ((by decide +kernel : ∀ b, b ∈ ([1029, 1030, 1013, 1014, 1012, 1015, 121] : List Nat) → b ∈ ([1024, 1013, 1014, 1012, 1015, 1029, 1030, 121, 122, 123, 114, 115, 118, 119, 1025, 116, 117, 1028, 1026, 120] : List Nat)) b hb))
    cases hm
    exact f
  · rcases ite_or hm with ⟨hc, hm⟩ | ⟨hc, hm⟩
    · obtain ⟨r5, h6, he, hm⟩ := bd2_s hm
      replace f := fk_tr f (fkm_readOffice _ he) (fun b hb => hS b ((by decide +kernel : ∀ b, b ∈ ([1029, 1030, 1013, 1014, 1012, 1015, 122] : List Nat) → b ∈ ([1024, 1013, 1014, 1012, 1015, 1029, 1030, 121, 122, 123, 114, 115, 118, 119, 1025, 116, 117, 1028, 1026, 120] : List Nat)) b hb))
      cases hm
      exact f
    · rcases ite_or hm with ⟨hc, hm⟩ | ⟨hc, hm⟩
      · obtain ⟨r7, h8, he, hm⟩ := bd2_s hm
        replace f := fk_tr f (fkm_readNexts _ he) (fun b hb => hS b ((by decide +kernel : ∀ b, b ∈ ([1029, 1030, 1013, 1014, 1012, 1015, 123] : List Nat) → b ∈ ([1024, 1013, 1014, 1012, 1015, 1029, 1030, 121, 122, 123, 114, 115, 118, 119, 1025, 116, 117, 1028, 1026, 120] : List Nat)) b hb))
        cases hm
        exact f
      · obtain ⟨r9, h10, he, hm⟩ := bd2_s hm
        replace f := fk_tr f (fkm_readLaw _ he) (fun b hb => hS b ((by decide +kernel : ∀ b, b ∈ ([1029, 1030, 114, 1013, 1014, 1012, 1015, 115, 118, 119, 1025, 116, 117, 1028, 1026, 120] : List Nat) → b ∈ ([1024, 1013, 1014, 1012, 1015, 1029, 1030, 121, 122, 123, 114, 115, 118, 119, 1025, 116, 117, 1028, 1026, 120] : List Nat)) b hb))
        cases hm
        exact f
def FKdm_takesOther (p1 : Int32) (p2 : Int32) : List Nat := [1037, 123, 1003, 1033, 121, 1035, 122]
theorem wk_m_takesOther_L7 (p2 : Int32) (k0 : PH → Option (PH)) (S : List Nat) (g : PH) (r : PH) (hS : ∀ b, b ∈ ([123] : List Nat) → b ∈ S) (kk0 : ∀ (y0 : PH), k0 y0 = some r → Fk S y0 g → Fk S r g) : ∀ (n : Nat) (v3 : Int32) (hv : PH), mm_takesOther_L7 p2 k0 n v3 hv = some r → Fk S hv g → Fk S r g := by
  intro n
  induction n with
  | zero => intro v3 hv hm; cases hm
  | succ n ih =>
    intro v3 hv hm f
    unfold mm_takesOther_L7 at hm
    rcases ite_or hm with ⟨hc, hm⟩ | ⟨hc, hm⟩
    · exact kk0 _ hm f
    · obtain ⟨-, hm⟩ := ck_s hm
      obtain ⟨-, hm⟩ := ck_s hm
      obtain ⟨h1, e1, hm⟩ := lt_some hm
      replace f : Fk S h1 g := by rw [e1]; exact up_fk f (by decide) (hS _ (by decide))
      exact ih _ _ hm f
theorem wk_m_takesOther_L47 (p2 : Int32) (k0 : PH → Option (PH)) (S : List Nat) (g : PH) (r : PH) (hS : ∀ b, b ∈ ([121] : List Nat) → b ∈ S) (kk0 : ∀ (y0 : PH), k0 y0 = some r → Fk S y0 g → Fk S r g) : ∀ (n : Nat) (v3 : Int32) (hv : PH), mm_takesOther_L47 p2 k0 n v3 hv = some r → Fk S hv g → Fk S r g := by
  intro n
  induction n with
  | zero => intro v3 hv hm; cases hm
  | succ n ih =>
    intro v3 hv hm f
    unfold mm_takesOther_L47 at hm
    rcases ite_or hm with ⟨hc, hm⟩ | ⟨hc, hm⟩
    · exact kk0 _ hm f
    · obtain ⟨-, hm⟩ := ck_s hm
      obtain ⟨-, hm⟩ := ck_s hm
      obtain ⟨h7, e1, hm⟩ := lt_some hm
      replace f : Fk S h7 g := by rw [e1]; exact up_fk f (by decide) (hS _ (by decide))
      exact ih _ _ hm f
theorem wk_m_takesOther_L85 (p2 : Int32) (k0 : PH → Option (PH)) (S : List Nat) (g : PH) (r : PH) (hS : ∀ b, b ∈ ([122] : List Nat) → b ∈ S) (kk0 : ∀ (y0 : PH), k0 y0 = some r → Fk S y0 g → Fk S r g) : ∀ (n : Nat) (v3 : Int32) (hv : PH), mm_takesOther_L85 p2 k0 n v3 hv = some r → Fk S hv g → Fk S r g := by
  intro n
  induction n with
  | zero => intro v3 hv hm; cases hm
  | succ n ih =>
    intro v3 hv hm f
    unfold mm_takesOther_L85 at hm
    rcases ite_or hm with ⟨hc, hm⟩ | ⟨hc, hm⟩
    · exact kk0 _ hm f
    · obtain ⟨-, hm⟩ := ck_s hm
      obtain ⟨-, hm⟩ := ck_s hm
      obtain ⟨h10, e1, hm⟩ := lt_some hm
      replace f : Fk S h10 g := by rw [e1]; exact up_fk f (by decide) (hS _ (by decide))
      exact ih _ _ hm f
theorem fkm_takesOther (p1 : Int32) (p2 : Int32) (h0 : PH) {r : PH} (hm : mm_takesOther p1 p2 h0 = some r) : Fk (FKdm_takesOther p1 p2) r h0 := by
  generalize hSe : FKdm_takesOther p1 p2 = S
  have hS : ∀ b, b ∈ ([1037, 123, 1003, 1033, 121, 1035, 122] : List Nat) → b ∈ S := by rw [← hSe]; exact fun b hb => hb
  generalize hge : h0 = g at ⊢
  have f : Fk S h0 g := by rw [hge]; exact fun _ _ _ => rfl
  unfold mm_takesOther at hm
  rcases ite_or hm with ⟨hc, hm⟩ | ⟨hc, hm⟩
  · refine wk_m_takesOther_L7 _ _ S g _ (fun b hb => hS b ((by decide +kernel : ∀ b, b ∈ ([123] : List Nat) → b ∈ ([1037, 123, 1003, 1033, 121, 1035, 122] : List Nat)) b hb)) (fun h2 hm f => ?_) _ _ _ hm f
    · obtain ⟨h3, e1, hm⟩ := lt_some hm
      replace f : Fk S h3 g := by rw [e1]; exact up_fk4 f (hS _ (by decide))
      cases hm
      exact f
  · refine v_j1 (fun (h5 : PH) => Fk S h5 g → Fk S r g) hm (fun h5 hm f => ?_) (fun j4 kj4 hm => ?_)
    · obtain ⟨h6, e1, hm⟩ := lt_some hm
      replace f : Fk S h6 g := by rw [e1]; exact up_fk4 f (hS _ (by decide))
      cases hm
      exact f
    · rcases ite_or hm with ⟨hc, hm⟩ | ⟨hc, hm⟩
      · refine wk_m_takesOther_L47 _ _ S g _ (fun b hb => hS b ((by decide +kernel : ∀ b, b ∈ ([121] : List Nat) → b ∈ ([1037, 123, 1003, 1033, 121, 1035, 122] : List Nat)) b hb)) (fun h8 hm f => ?_) _ _ _ hm f
        · obtain ⟨h9, e1, hm⟩ := lt_some hm
          replace f : Fk S h9 g := by rw [e1]; exact up_fk4 f (hS _ (by decide))
          exact kj4 _ hm f
      · refine wk_m_takesOther_L85 _ _ S g _ (fun b hb => hS b ((by decide +kernel : ∀ b, b ∈ ([122] : List Nat) → b ∈ ([1037, 123, 1003, 1033, 121, 1035, 122] : List Nat)) b hb)) (fun h11 hm f => ?_) _ _ _ hm f
        · obtain ⟨h12, e1, hm⟩ := lt_some hm
          replace f : Fk S h12 g := by rw [e1]; exact up_fk4 f (hS _ (by decide))
          exact kj4 _ hm f
def FKdm_text (p1 : Int32) : List Nat := [1000, 1031, 1032, 1012, 1025, 1026, 1011, 113, 118, 119, 114, 115, 116, 117, 1037, 123, 1003, 1033, 121, 1035, 122, 1024, 1013, 1014, 1015, 1029, 1030, 1028, 120]
theorem fkm_text (p1 : Int32) (h0 : PH) {r : Int32 × PH} (hm : mm_text p1 h0 = some r) : Fk (FKdm_text p1) r.2 h0 := by
  generalize hSe : FKdm_text p1 = S
  have hS : ∀ b, b ∈ ([1000, 1031, 1032, 1012, 1025, 1026, 1011, 113, 118, 119, 114, 115, 116, 117, 1037, 123, 1003, 1033, 121, 1035, 122, 1024, 1013, 1014, 1015, 1029, 1030, 1028, 120] : List Nat) → b ∈ S := by rw [← hSe]; exact fun b hb => hb
  generalize hge : h0 = g at ⊢
  have f : Fk S h0 g := by rw [hge]; exact fun _ _ _ => rfl
  unfold mm_text at hm
  obtain ⟨h1, e1, hm⟩ := lt_some hm
  replace f : Fk S h1 g := by rw [e1]; exact up_fk4 f (hS _ (by decide))
  obtain ⟨h2, e1, hm⟩ := lt_some hm
  replace f : Fk S h2 g := by rw [e1]; exact up_fk4 f (hS _ (by decide))
  obtain ⟨h3, e1, hm⟩ := lt_some hm
  replace f : Fk S h3 g := by rw [e1]; exact up_fk4 f (hS _ (by decide))
  obtain ⟨h4, e1, hm⟩ := lt_some hm
  replace f : Fk S h4 g := by rw [e1]; exact up_fk4 f (hS _ (by decide))
  obtain ⟨h5, e1, hm⟩ := lt_some hm
  replace f : Fk S h5 g := by rw [e1]; exact up_fk4 f (hS _ (by decide))
  obtain ⟨h6, e1, hm⟩ := lt_some hm
  replace f : Fk S h6 g := by rw [e1]; exact up_fk4 f (hS _ (by decide))
  obtain ⟨r7, -, hm⟩ := bd_s hm
  refine v_j2 (fun (x9 : Int32) (h10 : PH) => Fk S h10 g → Fk S r.2 g) hm (fun x9 h10 hm f => ?_) (fun j8 kj8 hm => ?_)
  · obtain ⟨h11, e1, hm⟩ := lt_some hm
    replace f : Fk S h11 g := by rw [e1]; exact up_fk4 f (hS _ (by decide))
    rcases ite_or hm with ⟨hc, hm⟩ | ⟨hc, hm⟩
    · cases hm
      exact f
    · rcases ite_or hm with ⟨hc, hm⟩ | ⟨hc, hm⟩
      · obtain ⟨h12, he, hm⟩ := bd_s hm
        replace f := fk_tr f (fkm_takesLaw _ _ he) (fun b hb => hS b ((by decide +kernel : ∀ b, b ∈ ([113, 118, 119, 114, 115, 116, 117] : List Nat) → b ∈ ([1000, 1031, 1032, 1012, 1025, 1026, 1011, 113, 118, 119, 114, 115, 116, 117, 1037, 123, 1003, 1033, 121, 1035, 122, 1024, 1013, 1014, 1015, 1029, 1030, 1028, 120] : List Nat)) b hb))
        cases hm
        exact f
      · obtain ⟨h13, he, hm⟩ := bd_s hm
        replace f := fk_tr f (fkm_takesOther _ _ _ he) (fun b hb => hS b ((by decide +kernel : ∀ b, b ∈ ([1037, 123, 1003, 1033, 121, 1035, 122] : List Nat) → b ∈ ([1000, 1031, 1032, 1012, 1025, 1026, 1011, 113, 118, 119, 114, 115, 116, 117, 1037, 123, 1003, 1033, 121, 1035, 122, 1024, 1013, 1014, 1015, 1029, 1030, 1028, 120] : List Nat)) b hb))
        cases hm
        exact f
  · rcases ite_or hm with ⟨hc, hm⟩ | ⟨hc, hm⟩
    · exact kj8 _ _ hm f
    · obtain ⟨r14, h15, he, hm⟩ := bd2_s hm
      replace f := fk_tr f (fkm_readsText _ _ he) (fun b hb => hS b ((by decide +kernel : ∀ b, b ∈ ([1024, 1013, 1014, 1012, 1015, 1029, 1030, 121, 122, 123, 114, 115, 118, 119, 1025, 116, 117, 1028, 1026, 120] : List Nat) → b ∈ ([1000, 1031, 1032, 1012, 1025, 1026, 1011, 113, 118, 119, 114, 115, 116, 117, 1037, 123, 1003, 1033, 121, 1035, 122, 1024, 1013, 1014, 1015, 1029, 1030, 1028, 120] : List Nat)) b hb))
      rcases ite_or hm with ⟨hc, hm⟩ | ⟨hc, hm⟩
      · obtain ⟨h16, e1, hm⟩ := lt_some hm
        replace f : Fk S h16 g := by rw [e1]; exact up_fk4 f (hS _ (by decide))
        obtain ⟨h17, e1, hm⟩ := lt_some hm
        replace f : Fk S h17 g := by rw [e1]; exact up_fk4 f (hS _ (by decide))
        exact kj8 _ _ hm f
      · exact kj8 _ _ hm f
def FKdm_fault (p1 : Int32) : List Nat := [1000]
theorem fkm_fault (p1 : Int32) (h0 : PH) {r : Int32 × PH} (hm : mm_fault p1 h0 = some r) : Fk (FKdm_fault p1) r.2 h0 := by
  generalize hSe : FKdm_fault p1 = S
  have hS : ∀ b, b ∈ ([1000] : List Nat) → b ∈ S := by rw [← hSe]; exact fun b hb => hb
  generalize hge : h0 = g at ⊢
  have f : Fk S h0 g := by rw [hge]; exact fun _ _ _ => rfl
  unfold mm_fault at hm
  obtain ⟨h1, e1, hm⟩ := lt_some hm
  replace f : Fk S h1 g := by rw [e1]; exact up_fk4 f (hS _ (by decide))
  rcases ite_or hm with ⟨hc, hm⟩ | ⟨hc, hm⟩
  · cases hm
    exact f
  · rcases ite_or hm with ⟨hc, hm⟩ | ⟨hc, hm⟩
    · cases hm
      exact f
    · cases hm
      exact f
def FKdm_runs (p1 : Int32) (p2 : Int32) (p3 : Int32) : List Nat := [125]
theorem wk_m_runs_L12 (p1 : Int32) (p3 : Int32) (k0 : PH → Option (Int32 × PH)) (S : List Nat) (g : PH) (r : Int32 × PH) (hS : ∀ b, b ∈ ([125] : List Nat) → b ∈ S) (kk0 : ∀ (y0 : PH), k0 y0 = some r → Fk S y0 g → Fk S r.2 g) : ∀ (n : Nat) (v4 : Int32) (v5 : Int32) (hv : PH), mm_runs_L12 p1 p3 k0 n v4 v5 hv = some r → Fk S hv g → Fk S r.2 g := by
  intro n
  induction n with
  | zero => intro v4 v5 hv hm; cases hm
  | succ n ih =>
    intro v4 v5 hv hm f
    unfold mm_runs_L12 at hm
    rcases ite_or hm with ⟨hc, hm⟩ | ⟨hc, hm⟩
    · exact kk0 _ hm f
    · obtain ⟨-, hm⟩ := ck_s hm
      refine v_j0 (Fk S r.2 g) hm (fun hm => ?_) (fun j2 kj2 hm => ?_)
      · obtain ⟨-, hm⟩ := ck_s hm
        refine v_j1 (fun (x4 : Int32) => Fk S r.2 g) hm (fun x4 hm => ?_) (fun j3 kj3 hm => ?_)
        · obtain ⟨-, hm⟩ := ck_s hm
          obtain ⟨h5, e1, hm⟩ := lt_some hm
          replace f : Fk S h5 g := by rw [e1]; exact up_fk f (by decide) (hS _ (by decide))
          obtain ⟨x6, -, hm⟩ := lt_some hm
          exact ih _ _ _ hm f
        · rcases ite_or hm with ⟨hc, hm⟩ | ⟨hc, hm⟩
          · obtain ⟨-, hm⟩ := ck_s hm
            exact kj3 _ hm
          · obtain ⟨-, hm⟩ := ck_s hm
            obtain ⟨-, hm⟩ := ck_s hm
            exact kj3 _ hm
      · rcases ite_or hm with ⟨hc, hm⟩ | ⟨hc, hm⟩
        · exact kj2 hm
        · obtain ⟨-, hm⟩ := ck_s hm
          rcases ite_or hm with ⟨hc, hm⟩ | ⟨hc, hm⟩
          · exact kj2 hm
          · obtain ⟨-, hm⟩ := ck_s hm
            rcases ite_or hm with ⟨hc, hm⟩ | ⟨hc, hm⟩
            · obtain ⟨-, hm⟩ := ck_s hm
              obtain ⟨-, hm⟩ := ck_s hm
              obtain ⟨h7, e1, hm⟩ := lt_some hm
              replace f : Fk S h7 g := by rw [e1]; exact up_fk f (by decide) (hS _ (by decide))
              exact ih _ _ _ hm f
            · obtain ⟨x8, -, hm⟩ := lt_some hm
              obtain ⟨-, hm⟩ := ck_s hm
              obtain ⟨-, hm⟩ := ck_s hm
              obtain ⟨-, hm⟩ := ck_s hm
              obtain ⟨r9, -, hm⟩ := bd_s hm
              obtain ⟨-, hm⟩ := ck_s hm
              obtain ⟨h10, e1, hm⟩ := lt_some hm
              replace f : Fk S h10 g := by rw [e1]; exact up_fk f (by decide) (hS _ (by decide))
              exact ih _ _ _ hm f
theorem fkm_runs (p1 : Int32) (p2 : Int32) (p3 : Int32) (h0 : PH) {r : Int32 × PH} (hm : mm_runs p1 p2 p3 h0 = some r) : Fk (FKdm_runs p1 p2 p3) r.2 h0 := by
  generalize hSe : FKdm_runs p1 p2 p3 = S
  have hS : ∀ b, b ∈ ([125] : List Nat) → b ∈ S := by rw [← hSe]; exact fun b hb => hb
  generalize hge : h0 = g at ⊢
  have f : Fk S h0 g := by rw [hge]; exact fun _ _ _ => rfl
  unfold mm_runs at hm
  obtain ⟨x1, -, hm⟩ := lt_some hm
  refine wk_m_runs_L12 _ _ _ S g _ (fun b hb => hS b ((by decide +kernel : ∀ b, b ∈ ([125] : List Nat) → b ∈ ([125] : List Nat)) b hb)) (fun h11 hm f => ?_) _ _ _ _ hm f
  · obtain ⟨-, hm⟩ := ck_s hm
    cases hm
    exact f
def FKdm_lineOf (p1 : Int32) : List Nat := [125]
theorem wk_m_lineOf_L2 (p1 : Int32) (S : List Nat) (g : PH) (r : Int32 × PH) (hS : ∀ b, b ∈ ([125] : List Nat) → b ∈ S) : ∀ (n : Nat) (v2 : Int32) (hv : PH), mm_lineOf_L2 p1 n v2 hv = some r → Fk S hv g → Fk S r.2 g := by
  intro n
  induction n with
  | zero => intro v2 hv hm; cases hm
  | succ n ih =>
    intro v2 hv hm f
    unfold mm_lineOf_L2 at hm
    obtain ⟨-, hm⟩ := ck_s hm
    rcases ite_or hm with ⟨hc, hm⟩ | ⟨hc, hm⟩
    · cases hm
      exact f
    · obtain ⟨-, hm⟩ := ck_s hm
      rcases ite_or hm with ⟨hc, hm⟩ | ⟨hc, hm⟩
      · obtain ⟨-, hm⟩ := ck_s hm
        obtain ⟨-, hm⟩ := ck_s hm
        rcases ite_or hm with ⟨hc, hm⟩ | ⟨hc, hm⟩
        · cases hm
          exact f
        · obtain ⟨-, hm⟩ := ck_s hm
          obtain ⟨-, hm⟩ := ck_s hm
          obtain ⟨r1, h2, he, hm⟩ := bd2_s hm
          replace f := fk_tr f (fkm_runs _ _ _ _ he) (fun b hb => hS b ((by decide +kernel : ∀ b, b ∈ ([125] : List Nat) → b ∈ ([125] : List Nat)) b hb))
          rcases ite_or hm with ⟨hc, hm⟩ | ⟨hc, hm⟩
          · exact ih _ _ hm f
          · cases hm
            exact f
      · exact ih _ _ hm f
theorem fkm_lineOf (p1 : Int32) (h0 : PH) {r : Int32 × PH} (hm : mm_lineOf p1 h0 = some r) : Fk (FKdm_lineOf p1) r.2 h0 := by
  generalize hSe : FKdm_lineOf p1 = S
  have hS : ∀ b, b ∈ ([125] : List Nat) → b ∈ S := by rw [← hSe]; exact fun b hb => hb
  generalize hge : h0 = g at ⊢
  have f : Fk S h0 g := by rw [hge]; exact fun _ _ _ => rfl
  unfold mm_lineOf at hm
  exact wk_m_lineOf_L2 _ S g _ (fun b hb => hS b ((by decide +kernel : ∀ b, b ∈ ([125] : List Nat) → b ∈ ([125] : List Nat)) b hb)) _ _ _ hm f
def FKdm_asks (p1 : Int32) (p2 : Int32) : List Nat := [124]
theorem fkm_asks (p1 : Int32) (p2 : Int32) (h0 : PH) {r : PH} (hm : mm_asks p1 p2 h0 = some r) : Fk (FKdm_asks p1 p2) r h0 := by
  generalize hSe : FKdm_asks p1 p2 = S
  have hS : ∀ b, b ∈ ([124] : List Nat) → b ∈ S := by rw [← hSe]; exact fun b hb => hb
  generalize hge : h0 = g at ⊢
  have f : Fk S h0 g := by rw [hge]; exact fun _ _ _ => rfl
  unfold mm_asks at hm
  obtain ⟨-, hm⟩ := ck_s hm
  obtain ⟨h1, e1, hm⟩ := lt_some hm
  replace f : Fk S h1 g := by rw [e1]; exact up_fk f (by decide) (hS _ (by decide))
  obtain ⟨r2, -, hm⟩ := bd_s hm
  obtain ⟨-, hm⟩ := ck_s hm
  obtain ⟨h3, e1, hm⟩ := lt_some hm
  replace f : Fk S h3 g := by rw [e1]; exact up_fk f (by decide) (hS _ (by decide))
  obtain ⟨-, hm⟩ := ck_s hm
  obtain ⟨-, hm⟩ := ck_s hm
  obtain ⟨h4, e1, hm⟩ := lt_some hm
  replace f : Fk S h4 g := by rw [e1]; exact up_fk f (by decide) (hS _ (by decide))
  obtain ⟨-, hm⟩ := ck_s hm
  obtain ⟨-, hm⟩ := ck_s hm
  obtain ⟨h5, e1, hm⟩ := lt_some hm
  replace f : Fk S h5 g := by rw [e1]; exact up_fk f (by decide) (hS _ (by decide))
  obtain ⟨-, hm⟩ := ck_s hm
  obtain ⟨-, hm⟩ := ck_s hm
  obtain ⟨h6, e1, hm⟩ := lt_some hm
  replace f : Fk S h6 g := by rw [e1]; exact up_fk f (by decide) (hS _ (by decide))
  obtain ⟨-, hm⟩ := ck_s hm
  obtain ⟨-, hm⟩ := ck_s hm
  obtain ⟨h7, e1, hm⟩ := lt_some hm
  replace f : Fk S h7 g := by rw [e1]; exact up_fk f (by decide) (hS _ (by decide))
  obtain ⟨-, hm⟩ := ck_s hm
  obtain ⟨-, hm⟩ := ck_s hm
  obtain ⟨h8, e1, hm⟩ := lt_some hm
  replace f : Fk S h8 g := by rw [e1]; exact up_fk f (by decide) (hS _ (by decide))
  obtain ⟨-, hm⟩ := ck_s hm
  obtain ⟨-, hm⟩ := ck_s hm
  obtain ⟨h9, e1, hm⟩ := lt_some hm
  replace f : Fk S h9 g := by rw [e1]; exact up_fk f (by decide) (hS _ (by decide))
  obtain ⟨-, hm⟩ := ck_s hm
  obtain ⟨-, hm⟩ := ck_s hm
  obtain ⟨h10, e1, hm⟩ := lt_some hm
  replace f : Fk S h10 g := by rw [e1]; exact up_fk f (by decide) (hS _ (by decide))
  obtain ⟨-, hm⟩ := ck_s hm
  obtain ⟨-, hm⟩ := ck_s hm
  obtain ⟨h11, e1, hm⟩ := lt_some hm
  replace f : Fk S h11 g := by rw [e1]; exact up_fk f (by decide) (hS _ (by decide))
  obtain ⟨-, hm⟩ := ck_s hm
  obtain ⟨-, hm⟩ := ck_s hm
  obtain ⟨h12, e1, hm⟩ := lt_some hm
  replace f : Fk S h12 g := by rw [e1]; exact up_fk f (by decide) (hS _ (by decide))
  obtain ⟨-, hm⟩ := ck_s hm
  obtain ⟨-, hm⟩ := ck_s hm
  obtain ⟨h13, e1, hm⟩ := lt_some hm
  replace f : Fk S h13 g := by rw [e1]; exact up_fk f (by decide) (hS _ (by decide))
  cases hm
  exact f
def FKdm_lawTells (p1 : Int32) (p2 : Int32) (p3 : Int32) : List Nat := [125]
theorem fkm_lawTells (p1 : Int32) (p2 : Int32) (p3 : Int32) (h0 : PH) {r : Int32 × PH} (hm : mm_lawTells p1 p2 p3 h0 = some r) : Fk (FKdm_lawTells p1 p2 p3) r.2 h0 := by
  generalize hSe : FKdm_lawTells p1 p2 p3 = S
  have hS : ∀ b, b ∈ ([125] : List Nat) → b ∈ S := by rw [← hSe]; exact fun b hb => hb
  generalize hge : h0 = g at ⊢
  have f : Fk S h0 g := by rw [hge]; exact fun _ _ _ => rfl
  unfold mm_lawTells at hm
  obtain ⟨r1, h2, he, hm⟩ := bd2_s hm
  replace f := fk_tr f (fkm_lineOf _ _ he) (fun b hb => hS b ((by decide +kernel : ∀ b, b ∈ ([125] : List Nat) → b ∈ ([125] : List Nat)) b hb))
  refine v_j2 (fun (x4 : Int32) (h5 : PH) => Fk S h5 g → Fk S r.2 g) hm (fun x4 h5 hm f => ?_) (fun j3 kj3 hm => ?_)
  · obtain ⟨r6, -, hm⟩ := bd_s hm
    cases hm
    exact f
  · rcases ite_or hm with ⟨hc, hm⟩ | ⟨hc, hm⟩
    · exact kj3 _ _ hm f
    · obtain ⟨-, hm⟩ := ck_s hm
      obtain ⟨-, hm⟩ := ck_s hm
      obtain ⟨r7, h8, he, hm⟩ := bd2_s hm
      replace f := fk_tr f (fkm_runs _ _ _ _ he) (fun b hb => hS b ((by decide +kernel : ∀ b, b ∈ ([125] : List Nat) → b ∈ ([125] : List Nat)) b hb))
      exact kj3 _ _ hm f
def FKdm_rentOf (p1 : Int32) : List Nat := [124, 125]
theorem fkm_rentOf (p1 : Int32) (h0 : PH) {r : Int32 × PH} (hm : mm_rentOf p1 h0 = some r) : Fk (FKdm_rentOf p1) r.2 h0 := by
  generalize hSe : FKdm_rentOf p1 = S
  have hS : ∀ b, b ∈ ([124, 125] : List Nat) → b ∈ S := by rw [← hSe]; exact fun b hb => hb
  generalize hge : h0 = g at ⊢
  have f : Fk S h0 g := by rw [hge]; exact fun _ _ _ => rfl
  unfold mm_rentOf at hm
  obtain ⟨r1, -, hm⟩ := bd_s hm
  obtain ⟨r2, -, hm⟩ := bd_s hm
  obtain ⟨h3, he, hm⟩ := bd_s hm
  replace f := fk_tr f (fkm_asks _ _ _ he) (fun b hb => hS b ((by decide +kernel : ∀ b, b ∈ ([124] : List Nat) → b ∈ ([124, 125] : List Nat)) b hb))
  obtain ⟨-, hm⟩ := ck_s hm
  obtain ⟨r4, h5, he, hm⟩ := bd2_s hm
  replace f := fk_tr f (fkm_lawTells _ _ _ _ he) (fun b hb => hS b ((by decide +kernel : ∀ b, b ∈ ([125] : List Nat) → b ∈ ([124, 125] : List Nat)) b hb))
  cases hm
  exact f
def FKdm_gnawsOf (p1 : Int32) (p2 : Int32) : List Nat := [124, 125]
theorem fkm_gnawsOf (p1 : Int32) (p2 : Int32) (h0 : PH) {r : Int32 × PH} (hm : mm_gnawsOf p1 p2 h0 = some r) : Fk (FKdm_gnawsOf p1 p2) r.2 h0 := by
  generalize hSe : FKdm_gnawsOf p1 p2 = S
  have hS : ∀ b, b ∈ ([124, 125] : List Nat) → b ∈ S := by rw [← hSe]; exact fun b hb => hb
  generalize hge : h0 = g at ⊢
  have f : Fk S h0 g := by rw [hge]; exact fun _ _ _ => rfl
  unfold mm_gnawsOf at hm
  obtain ⟨r1, -, hm⟩ := bd_s hm
  obtain ⟨h2, he, hm⟩ := bd_s hm
  replace f := fk_tr f (fkm_asks _ _ _ he) (fun b hb => hS b ((by decide +kernel : ∀ b, b ∈ ([124] : List Nat) → b ∈ ([124, 125] : List Nat)) b hb))
  obtain ⟨-, hm⟩ := ck_s hm
  obtain ⟨r3, h4, he, hm⟩ := bd2_s hm
  replace f := fk_tr f (fkm_lawTells _ _ _ _ he) (fun b hb => hS b ((by decide +kernel : ∀ b, b ∈ ([125] : List Nat) → b ∈ ([124, 125] : List Nat)) b hb))
  cases hm
  exact f
def FKdm_meltsOf (p1 : Int32) (p2 : Int32) : List Nat := [124, 125]
theorem fkm_meltsOf (p1 : Int32) (p2 : Int32) (h0 : PH) {r : Int32 × PH} (hm : mm_meltsOf p1 p2 h0 = some r) : Fk (FKdm_meltsOf p1 p2) r.2 h0 := by
  generalize hSe : FKdm_meltsOf p1 p2 = S
  have hS : ∀ b, b ∈ ([124, 125] : List Nat) → b ∈ S := by rw [← hSe]; exact fun b hb => hb
  generalize hge : h0 = g at ⊢
  have f : Fk S h0 g := by rw [hge]; exact fun _ _ _ => rfl
  unfold mm_meltsOf at hm
  obtain ⟨r1, -, hm⟩ := bd_s hm
  obtain ⟨h2, he, hm⟩ := bd_s hm
  replace f := fk_tr f (fkm_asks _ _ _ he) (fun b hb => hS b ((by decide +kernel : ∀ b, b ∈ ([124] : List Nat) → b ∈ ([124, 125] : List Nat)) b hb))
  obtain ⟨-, hm⟩ := ck_s hm
  obtain ⟨-, hm⟩ := ck_s hm
  obtain ⟨r3, h4, he, hm⟩ := bd2_s hm
  replace f := fk_tr f (fkm_lawTells _ _ _ _ he) (fun b hb => hS b ((by decide +kernel : ∀ b, b ∈ ([125] : List Nat) → b ∈ ([124, 125] : List Nat)) b hb))
  cases hm
  exact f
def FKdm_notes (p1 : Int32) (p2 : Int32) (p3 : Int32) : List Nat := [110, 105]
theorem fkm_notes (p1 : Int32) (p2 : Int32) (p3 : Int32) (h0 : PH) {r : PH} (hm : mm_notes p1 p2 p3 h0 = some r) : Fk (FKdm_notes p1 p2 p3) r h0 := by
  generalize hSe : FKdm_notes p1 p2 p3 = S
  have hS : ∀ b, b ∈ ([110, 105] : List Nat) → b ∈ S := by rw [← hSe]; exact fun b hb => hb
  generalize hge : h0 = g at ⊢
  have f : Fk S h0 g := by rw [hge]; exact fun _ _ _ => rfl
  unfold mm_notes at hm
  rcases ite_or hm with ⟨hc, hm⟩ | ⟨hc, hm⟩
  · obtain ⟨-, hm⟩ := ck_s hm
    rcases ite_or hm with ⟨hc, hm⟩ | ⟨hc, hm⟩
    · cases hm
      exact f
    · obtain ⟨-, hm⟩ := ck_s hm
      obtain ⟨x1, -, hm⟩ := lt_some hm
      obtain ⟨-, hm⟩ := ck_s hm
      obtain ⟨-, hm⟩ := ck_s hm
      obtain ⟨h2, e1, hm⟩ := lt_some hm
      replace f : Fk S h2 g := by rw [e1]; exact up_fk f (by decide) (hS _ (by decide))
      obtain ⟨-, hm⟩ := ck_s hm
      obtain ⟨h3, e1, hm⟩ := lt_some hm
      replace f : Fk S h3 g := by rw [e1]; exact up_fk f (by decide) (hS _ (by decide))
      obtain ⟨-, hm⟩ := ck_s hm
      obtain ⟨h4, e1, hm⟩ := lt_some hm
      replace f : Fk S h4 g := by rw [e1]; exact up_fk f (by decide) (hS _ (by decide))
      obtain ⟨-, hm⟩ := ck_s hm
      obtain ⟨h5, e1, hm⟩ := lt_some hm
      replace f : Fk S h5 g := by rw [e1]; exact up_fk f (by decide) (hS _ (by decide))
      obtain ⟨-, hm⟩ := ck_s hm
      obtain ⟨-, hm⟩ := ck_s hm
      obtain ⟨h6, e1, hm⟩ := lt_some hm
      replace f : Fk S h6 g := by rw [e1]; exact up_fk f (by decide) (hS _ (by decide))
      cases hm
      exact f
  · cases hm
    exact f
def FKdm_lodgersGo (p1 : Int32) (p2 : Int32) : List Nat := [110, 105]
theorem fkm_lodgersGo (p1 : Int32) (p2 : Int32) (h0 : PH) {r : PH} (hm : mm_lodgersGo p1 p2 h0 = some r) : Fk (FKdm_lodgersGo p1 p2) r h0 := by
  generalize hSe : FKdm_lodgersGo p1 p2 = S
  have hS : ∀ b, b ∈ ([110, 105] : List Nat) → b ∈ S := by rw [← hSe]; exact fun b hb => hb
  generalize hge : h0 = g at ⊢
  have f : Fk S h0 g := by rw [hge]; exact fun _ _ _ => rfl
  unfold mm_lodgersGo at hm
  obtain ⟨h1, he, hm⟩ := bd_s hm
  replace f := fk_tr f (fkm_notes _ _ _ _ he) (fun b hb => hS b ((by decide +kernel : ∀ b, b ∈ ([110, 105] : List Nat) → b ∈ ([110, 105] : List Nat)) b hb))
  obtain ⟨-, hm⟩ := ck_s hm
  obtain ⟨x2, -, hm⟩ := lt_some hm
  obtain ⟨-, hm⟩ := ck_s hm
  obtain ⟨h3, e1, hm⟩ := lt_some hm
  replace f : Fk S h3 g := by rw [e1]; exact up_fk f (by decide) (hS _ (by decide))
  rcases ite_or hm with ⟨hc, hm⟩ | ⟨hc, hm⟩
  · cases hm
    exact f
  · obtain ⟨-, hm⟩ := ck_s hm
    obtain ⟨-, hm⟩ := ck_s hm
    obtain ⟨h4, e1, hm⟩ := lt_some hm
    replace f : Fk S h4 g := by rw [e1]; exact up_fk f (by decide) (hS _ (by decide))
    cases hm
    exact f
def FKdm_areOut (p1 : Int32) : List Nat := [110, 105]
theorem wk_m_areOut_L30 (p1 : Int32) (h0 : PH) (k0 : Int32 → Option (PH)) (S : List Nat) (g : PH) (r : PH) (hS : ∀ b, b ∈ ([] : List Nat) → b ∈ S) (f : Fk S h0 g) (kk0 : ∀ (y0 : Int32), k0 y0 = some r → Fk S r g) : ∀ (n : Nat) (v2 : Int32) (v3 : Int32), mm_areOut_L30 p1 h0 k0 n v2 v3 = some r → Fk S r g := by
  intro n
  induction n with
  | zero => intro v2 v3 hm; cases hm
  | succ n ih =>
    intro v2 v3 hm
    unfold mm_areOut_L30 at hm
    rcases ite_or hm with ⟨hc, hm⟩ | ⟨hc, hm⟩
    · exact kk0 _ hm
    · obtain ⟨-, hm⟩ := ck_s hm
      obtain ⟨r3, -, hm⟩ := bd_s hm
      rcases ite_or hm with ⟨hc, hm⟩ | ⟨hc, hm⟩
      · exact ih _ _ hm
      · obtain ⟨r4, -, hm⟩ := bd_s hm
        rcases ite_or hm with ⟨hc, hm⟩ | ⟨hc, hm⟩
        · exact ih _ _ hm
        · exact ih _ _ hm
theorem fkm_areOut (p1 : Int32) (h0 : PH) {r : PH} (hm : mm_areOut p1 h0 = some r) : Fk (FKdm_areOut p1) r h0 := by
  generalize hSe : FKdm_areOut p1 = S
  have hS : ∀ b, b ∈ ([110, 105] : List Nat) → b ∈ S := by rw [← hSe]; exact fun b hb => hb
  generalize hge : h0 = g at ⊢
  have f : Fk S h0 g := by rw [hge]; exact fun _ _ _ => rfl
  unfold mm_areOut at hm
  obtain ⟨r1, -, hm⟩ := bd_s hm
  rcases ite_or hm with ⟨hc, hm⟩ | ⟨hc, hm⟩
  · obtain ⟨-, hm⟩ := ck_s hm
    rcases ite_or hm with ⟨hc, hm⟩ | ⟨hc, hm⟩
    · cases hm
      exact f
    · obtain ⟨x2, -, hm⟩ := lt_some hm
      refine wk_m_areOut_L30 _ _ _ S g _ (fun b hb => hS b ((by decide +kernel : ∀ b, b ∈ ([] : List Nat) → b ∈ ([110, 105] : List Nat)) b hb)) f (fun x5 hm => ?_) _ _ _ hm
      · obtain ⟨h6, he, hm⟩ := bd_s hm
        replace f := fk_tr f (fkm_lodgersGo _ _ _ he) (fun b hb => hS b ((by decide +kernel : ∀ b, b ∈ ([110, 105] : List Nat) → b ∈ ([110, 105] : List Nat)) b hb))
        cases hm
        exact f
  · cases hm
    exact f
def FKdm_isWed (p1 : Int32) : List Nat := [105, 110]
theorem fkm_isWed (p1 : Int32) (h0 : PH) {r : PH} (hm : mm_isWed p1 h0 = some r) : Fk (FKdm_isWed p1) r h0 := by
  generalize hSe : FKdm_isWed p1 = S
  have hS : ∀ b, b ∈ ([105, 110] : List Nat) → b ∈ S := by rw [← hSe]; exact fun b hb => hb
  generalize hge : h0 = g at ⊢
  have f : Fk S h0 g := by rw [hge]; exact fun _ _ _ => rfl
  unfold mm_isWed at hm
  obtain ⟨r1, -, hm⟩ := bd_s hm
  obtain ⟨-, hm⟩ := ck_s hm
  obtain ⟨h2, e1, hm⟩ := lt_some hm
  replace f : Fk S h2 g := by rw [e1]; exact up_fk f (by decide) (hS _ (by decide))
  obtain ⟨r3, -, hm⟩ := bd_s hm
  obtain ⟨h4, he, hm⟩ := bd_s hm
  replace f := fk_tr f (fkm_hasWall _ _ _ _ he) (fun b hb => hS b ((by decide +kernel : ∀ b, b ∈ ([105] : List Nat) → b ∈ ([105, 110] : List Nat)) b hb))
  obtain ⟨-, hm⟩ := ck_s hm
  obtain ⟨-, hm⟩ := ck_s hm
  obtain ⟨h5, e1, hm⟩ := lt_some hm
  replace f : Fk S h5 g := by rw [e1]; exact up_fk f (by decide) (hS _ (by decide))
  obtain ⟨-, hm⟩ := ck_s hm
  obtain ⟨h6, he, hm⟩ := bd_s hm
  replace f := fk_tr f (fkm_notes _ _ _ _ he) (fun b hb => hS b ((by decide +kernel : ∀ b, b ∈ ([110, 105] : List Nat) → b ∈ ([105, 110] : List Nat)) b hb))
  obtain ⟨h7, he, hm⟩ := bd_s hm
  replace f := fk_tr f (fkm_areOut _ _ he) (fun b hb => hS b ((by decide +kernel : ∀ b, b ∈ ([110, 105] : List Nat) → b ∈ ([105, 110] : List Nat)) b hb))
  cases hm
  exact f
def FKdm_isRazed (p1 : Int32) : List Nat := [110, 105]
theorem wk_m_isRazed_L2 (p1 : Int32) (k0 : PH → Option (PH)) (S : List Nat) (g : PH) (r : PH) (hS : ∀ b, b ∈ ([105] : List Nat) → b ∈ S) (kk0 : ∀ (y0 : PH), k0 y0 = some r → Fk S y0 g → Fk S r g) : ∀ (n : Nat) (v2 : Int32) (hv : PH), mm_isRazed_L2 p1 k0 n v2 hv = some r → Fk S hv g → Fk S r g := by
  intro n
  induction n with
  | zero => intro v2 hv hm; cases hm
  | succ n ih =>
    intro v2 hv hm f
    unfold mm_isRazed_L2 at hm
    rcases ite_or hm with ⟨hc, hm⟩ | ⟨hc, hm⟩
    · exact kk0 _ hm f
    · obtain ⟨h1, he, hm⟩ := bd_s hm
      replace f := fk_tr f (fkm_hasWall _ _ _ _ he) (fun b hb => hS b ((by decide +kernel : ∀ b, b ∈ ([105] : List Nat) → b ∈ ([105] : List Nat)) b hb))
      exact ih _ _ hm f
theorem fkm_isRazed (p1 : Int32) (h0 : PH) {r : PH} (hm : mm_isRazed p1 h0 = some r) : Fk (FKdm_isRazed p1) r h0 := by
  generalize hSe : FKdm_isRazed p1 = S
  have hS : ∀ b, b ∈ ([110, 105] : List Nat) → b ∈ S := by rw [← hSe]; exact fun b hb => hb
  generalize hge : h0 = g at ⊢
  have f : Fk S h0 g := by rw [hge]; exact fun _ _ _ => rfl
  unfold mm_isRazed at hm
  refine wk_m_isRazed_L2 _ _ S g _ (fun b hb => hS b ((by decide +kernel : ∀ b, b ∈ ([105] : List Nat) → b ∈ ([110, 105] : List Nat)) b hb)) (fun h2 hm f => ?_) _ _ _ hm f
  · obtain ⟨h3, he, hm⟩ := bd_s hm
    replace f := fk_tr f (fkm_areOut _ _ he) (fun b hb => hS b ((by decide +kernel : ∀ b, b ∈ ([110, 105] : List Nat) → b ∈ ([110, 105] : List Nat)) b hb))
    cases hm
    exact f
def FKdm_act (p1 : Int32) (p2 : Int32) (p3 : Int32) : List Nat := [1000, 1003, 106, 110, 105]
theorem fkm_act (p1 : Int32) (p2 : Int32) (p3 : Int32) (h0 : PH) {r : Int32 × PH} (hm : mm_act p1 p2 p3 h0 = some r) : Fk (FKdm_act p1 p2 p3) r.2 h0 := by
  generalize hSe : FKdm_act p1 p2 p3 = S
  have hS : ∀ b, b ∈ ([1000, 1003, 106, 110, 105] : List Nat) → b ∈ S := by rw [← hSe]; exact fun b hb => hb
  generalize hge : h0 = g at ⊢
  have f : Fk S h0 g := by rw [hge]; exact fun _ _ _ => rfl
  unfold mm_act at hm
  obtain ⟨h1, e1, hm⟩ := lt_some hm
  replace f : Fk S h1 g := by rw [e1]; exact up_fk4 f (hS _ (by decide))
  obtain ⟨r2, -, hm⟩ := bd_s hm
  rcases ite_or hm with ⟨hc, hm⟩ | ⟨hc, hm⟩
  · cases hm
    exact f
  · obtain ⟨h3, he, hm⟩ := bd_s hm
    replace f := fk_tr f (fkm_keepsAhead _ he) (fun b hb => hS b ((by decide +kernel : ∀ b, b ∈ ([1003, 106] : List Nat) → b ∈ ([1000, 1003, 106, 110, 105] : List Nat)) b hb))
    refine v_j1 (fun (h5 : PH) => Fk S h5 g → Fk S r.2 g) hm (fun h5 hm f => ?_) (fun j4 kj4 hm => ?_)
    · obtain ⟨r6, -, hm⟩ := bd_s hm
      refine v_j1 (fun (h8 : PH) => Fk S h8 g → Fk S r.2 g) hm (fun h8 hm f => ?_) (fun j7 kj7 hm => ?_)
      · refine v_j1 (fun (h10 : PH) => Fk S h10 g → Fk S r.2 g) hm (fun h10 hm f => ?_) (fun j9 kj9 hm => ?_)
        · refine v_j1 (fun (h12 : PH) => Fk S h12 g → Fk S r.2 g) hm (fun h12 hm f => ?_) (fun j11 kj11 hm => ?_)
          · rcases ite_or hm with ⟨hc, hm⟩ | ⟨hc, hm⟩
            · obtain ⟨h13, he, hm⟩ := bd_s hm
              replace f := fk_tr f (fkm_isRazed _ _ he) (fun b hb => hS b ((by decide +kernel : ∀ b, b ∈ ([110, 105] : List Nat) → b ∈ ([1000, 1003, 106, 110, 105] : List Nat)) b hb))
              cases hm
              exact f
            · cases hm
              exact f
          · rcases ite_or hm with ⟨hc, hm⟩ | ⟨hc, hm⟩
            · obtain ⟨h14, he, hm⟩ := bd_s hm
              replace f := fk_tr f (fkm_lodgersGo _ _ _ he) (fun b hb => hS b ((by decide +kernel : ∀ b, b ∈ ([110, 105] : List Nat) → b ∈ ([1000, 1003, 106, 110, 105] : List Nat)) b hb))
              exact kj11 _ hm f
            · exact kj11 _ hm f
        · rcases ite_or hm with ⟨hc, hm⟩ | ⟨hc, hm⟩
          · obtain ⟨h15, he, hm⟩ := bd_s hm
            replace f := fk_tr f (fkm_isWed _ _ he) (fun b hb => hS b ((by decide +kernel : ∀ b, b ∈ ([105, 110] : List Nat) → b ∈ ([1000, 1003, 106, 110, 105] : List Nat)) b hb))
            exact kj9 _ hm f
          · exact kj9 _ hm f
      · rcases ite_or hm with ⟨hc, hm⟩ | ⟨hc, hm⟩
        · exact kj7 _ hm f
        · obtain ⟨r16, -, hm⟩ := bd_s hm
          obtain ⟨h17, he, hm⟩ := bd_s hm
          replace f := fk_tr f (fkm_hasWall _ _ _ _ he) (fun b hb => hS b ((by decide +kernel : ∀ b, b ∈ ([105] : List Nat) → b ∈ ([1000, 1003, 106, 110, 105] : List Nat)) b hb))
          exact kj7 _ hm f
    · rcases ite_or hm with ⟨hc, hm⟩ | ⟨hc, hm⟩
      · exact kj4 _ hm f
      · obtain ⟨r18, -, hm⟩ := bd_s hm
        obtain ⟨h19, he, hm⟩ := bd_s hm
        replace f := fk_tr f (fkm_hasWall _ _ _ _ he) (fun b hb => hS b ((by decide +kernel : ∀ b, b ∈ ([105] : List Nat) → b ∈ ([1000, 1003, 106, 110, 105] : List Nat)) b hb))
        obtain ⟨-, hm⟩ := ck_s hm
        obtain ⟨-, hm⟩ := ck_s hm
        obtain ⟨h20, e1, hm⟩ := lt_some hm
        replace f : Fk S h20 g := by rw [e1]; exact up_fk f (by decide) (hS _ (by decide))
        obtain ⟨h21, he, hm⟩ := bd_s hm
        replace f := fk_tr f (fkm_notes _ _ _ _ he) (fun b hb => hS b ((by decide +kernel : ∀ b, b ∈ ([110, 105] : List Nat) → b ∈ ([1000, 1003, 106, 110, 105] : List Nat)) b hb))
        obtain ⟨h22, he, hm⟩ := bd_s hm
        replace f := fk_tr f (fkm_areOut _ _ he) (fun b hb => hS b ((by decide +kernel : ∀ b, b ∈ ([110, 105] : List Nat) → b ∈ ([1000, 1003, 106, 110, 105] : List Nat)) b hb))
        exact kj4 _ hm f
def FKdm_skyOf : List Nat := [105]
theorem wk_m_skyOf_L2  (S : List Nat) (g : PH) (r : PH) (hS : ∀ b, b ∈ ([105] : List Nat) → b ∈ S) : ∀ (n : Nat) (v1 : Int32) (hv : PH), mm_skyOf_L2  n v1 hv = some r → Fk S hv g → Fk S r g := by
  intro n
  induction n with
  | zero => intro v1 hv hm; cases hm
  | succ n ih =>
    intro v1 hv hm f
    unfold mm_skyOf_L2 at hm
    rcases ite_or hm with ⟨hc, hm⟩ | ⟨hc, hm⟩
    · cases hm
      exact f
    · obtain ⟨-, hm⟩ := ck_s hm
      obtain ⟨-, hm⟩ := ck_s hm
      rcases ite_or hm with ⟨hc, hm⟩ | ⟨hc, hm⟩
      · obtain ⟨-, hm⟩ := ck_s hm
        rcases ite_or hm with ⟨hc, hm⟩ | ⟨hc, hm⟩
        · obtain ⟨-, hm⟩ := ck_s hm
          obtain ⟨-, hm⟩ := ck_s hm
          obtain ⟨h1, e1, hm⟩ := lt_some hm
          replace f : Fk S h1 g := by rw [e1]; exact up_fk f (by decide) (hS _ (by decide))
          obtain ⟨x2, -, hm⟩ := lt_some hm
          exact ih _ _ hm f
        · obtain ⟨-, hm⟩ := ck_s hm
          refine v_j1 (fun (x4 : Int32) => Fk S r g) hm (fun x4 hm => ?_) (fun j3 kj3 hm => ?_)
          · obtain ⟨-, hm⟩ := ck_s hm
            obtain ⟨h5, e1, hm⟩ := lt_some hm
            replace f : Fk S h5 g := by rw [e1]; exact up_fk f (by decide) (hS _ (by decide))
            obtain ⟨x6, -, hm⟩ := lt_some hm
            exact ih _ _ hm f
          · rcases ite_or hm with ⟨hc, hm⟩ | ⟨hc, hm⟩
            · exact kj3 _ hm
            · exact kj3 _ hm
      · obtain ⟨x7, -, hm⟩ := lt_some hm
        exact ih _ _ hm f
theorem fkm_skyOf (h0 : PH) {r : PH} (hm : mm_skyOf h0 = some r) : Fk (FKdm_skyOf ) r h0 := by
  generalize hSe : FKdm_skyOf = S
  have hS : ∀ b, b ∈ ([105] : List Nat) → b ∈ S := by rw [← hSe]; exact fun b hb => hb
  generalize hge : h0 = g at ⊢
  have f : Fk S h0 g := by rw [hge]; exact fun _ _ _ => rfl
  unfold mm_skyOf at hm
  exact wk_m_skyOf_L2 S g _ (fun b hb => hS b ((by decide +kernel : ∀ b, b ∈ ([105] : List Nat) → b ∈ ([105] : List Nat)) b hb)) _ _ _ hm f
def FKdm_does (p1 : Int32) : List Nat := [110, 105]
theorem fkm_does (p1 : Int32) (h0 : PH) {r : PH} (hm : mm_does p1 h0 = some r) : Fk (FKdm_does p1) r h0 := by
  generalize hSe : FKdm_does p1 = S
  have hS : ∀ b, b ∈ ([110, 105] : List Nat) → b ∈ S := by rw [← hSe]; exact fun b hb => hb
  generalize hge : h0 = g at ⊢
  have f : Fk S h0 g := by rw [hge]; exact fun _ _ _ => rfl
  unfold mm_does at hm
  obtain ⟨-, hm⟩ := ck_s hm
  obtain ⟨x1, -, hm⟩ := lt_some hm
  obtain ⟨-, hm⟩ := ck_s hm
  obtain ⟨x2, -, hm⟩ := lt_some hm
  obtain ⟨-, hm⟩ := ck_s hm
  obtain ⟨x3, -, hm⟩ := lt_some hm
  refine v_j1 (fun (h5 : PH) => Fk S h5 g → Fk S r g) hm (fun h5 hm f => ?_) (fun j4 kj4 hm => ?_)
  · refine v_j1 (fun (h7 : PH) => Fk S h7 g → Fk S r g) hm (fun h7 hm f => ?_) (fun j6 kj6 hm => ?_)
    · refine v_j1 (fun (h9 : PH) => Fk S h9 g → Fk S r g) hm (fun h9 hm f => ?_) (fun j8 kj8 hm => ?_)
      · rcases ite_or hm with ⟨hc, hm⟩ | ⟨hc, hm⟩
        · obtain ⟨r10, -, hm⟩ := bd_s hm
          rcases ite_or hm with ⟨hc, hm⟩ | ⟨hc, hm⟩
          · cases hm
            exact f
          · obtain ⟨h11, he, hm⟩ := bd_s hm
            replace f := fk_tr f (fkm_isRazed _ _ he) (fun b hb => hS b ((by decide +kernel : ∀ b, b ∈ ([110, 105] : List Nat) → b ∈ ([110, 105] : List Nat)) b hb))
            cases hm
            exact f
        · cases hm
          exact f
      · rcases ite_or hm with ⟨hc, hm⟩ | ⟨hc, hm⟩
        · obtain ⟨r12, -, hm⟩ := bd_s hm
          rcases ite_or hm with ⟨hc, hm⟩ | ⟨hc, hm⟩
          · exact kj8 _ hm f
          · obtain ⟨h13, he, hm⟩ := bd_s hm
            replace f := fk_tr f (fkm_isWed _ _ he) (fun b hb => hS b ((by decide +kernel : ∀ b, b ∈ ([105, 110] : List Nat) → b ∈ ([110, 105] : List Nat)) b hb))
            exact kj8 _ hm f
        · exact kj8 _ hm f
    · rcases ite_or hm with ⟨hc, hm⟩ | ⟨hc, hm⟩
      · obtain ⟨-, hm⟩ := ck_s hm
        obtain ⟨-, hm⟩ := ck_s hm
        obtain ⟨r14, -, hm⟩ := bd_s hm
        obtain ⟨h15, he, hm⟩ := bd_s hm
        replace f := fk_tr f (fkm_hasWall _ _ _ _ he) (fun b hb => hS b ((by decide +kernel : ∀ b, b ∈ ([105] : List Nat) → b ∈ ([110, 105] : List Nat)) b hb))
        exact kj6 _ hm f
      · exact kj6 _ hm f
  · rcases ite_or hm with ⟨hc, hm⟩ | ⟨hc, hm⟩
    · obtain ⟨-, hm⟩ := ck_s hm
      obtain ⟨r16, -, hm⟩ := bd_s hm
      obtain ⟨-, hm⟩ := ck_s hm
      obtain ⟨h17, e1, hm⟩ := lt_some hm
      replace f : Fk S h17 g := by rw [e1]; exact up_fk f (by decide) (hS _ (by decide))
      exact kj4 _ hm f
    · exact kj4 _ hm f
def FKdm_paysRent (p1 : Int32) : List Nat := [124, 125, 105, 110]
theorem wk_m_paysRent_L8 (p1 : Int32) (p2 : Int32) (k0 : Int32 → PH → Option (PH)) (S : List Nat) (g : PH) (r : PH) (hS : ∀ b, b ∈ ([105] : List Nat) → b ∈ S) (kk0 : ∀ (y0 : Int32) (y1 : PH), k0 y0 y1 = some r → Fk S y1 g → Fk S r g) : ∀ (n : Nat) (v3 : Int32) (hv : PH), mm_paysRent_L8 p1 p2 k0 n v3 hv = some r → Fk S hv g → Fk S r g := by
  intro n
  induction n with
  | zero => intro v3 hv hm; cases hm
  | succ n ih =>
    intro v3 hv hm f
    unfold mm_paysRent_L8 at hm
    rcases ite_or hm with ⟨hc, hm⟩ | ⟨hc, hm⟩
    · exact kk0 _ _ hm f
    · obtain ⟨r3, -, hm⟩ := bd_s hm
      rcases ite_or hm with ⟨hc, hm⟩ | ⟨hc, hm⟩
      · exact kk0 _ _ hm f
      · obtain ⟨r4, -, hm⟩ := bd_s hm
        obtain ⟨r5, -, hm⟩ := bd_s hm
        obtain ⟨h6, he, hm⟩ := bd_s hm
        replace f := fk_tr f (fkm_hasWall _ _ _ _ he) (fun b hb => hS b ((by decide +kernel : ∀ b, b ∈ ([105] : List Nat) → b ∈ ([105] : List Nat)) b hb))
        obtain ⟨x7, -, hm⟩ := lt_some hm
        exact ih _ _ hm f
theorem fkm_paysRent (p1 : Int32) (h0 : PH) {r : PH} (hm : mm_paysRent p1 h0 = some r) : Fk (FKdm_paysRent p1) r h0 := by
  generalize hSe : FKdm_paysRent p1 = S
  have hS : ∀ b, b ∈ ([124, 125, 105, 110] : List Nat) → b ∈ S := by rw [← hSe]; exact fun b hb => hb
  generalize hge : h0 = g at ⊢
  have f : Fk S h0 g := by rw [hge]; exact fun _ _ _ => rfl
  unfold mm_paysRent at hm
  obtain ⟨r1, h2, he, hm⟩ := bd2_s hm
  replace f := fk_tr f (fkm_rentOf _ _ he) (fun b hb => hS b ((by decide +kernel : ∀ b, b ∈ ([124, 125] : List Nat) → b ∈ ([124, 125, 105, 110] : List Nat)) b hb))
  refine wk_m_paysRent_L8 _ _ _ S g _ (fun b hb => hS b ((by decide +kernel : ∀ b, b ∈ ([105] : List Nat) → b ∈ ([124, 125, 105, 110] : List Nat)) b hb)) (fun x8 h9 hm f => ?_) _ _ _ hm f
  · obtain ⟨-, hm⟩ := ck_s hm
    obtain ⟨-, hm⟩ := ck_s hm
    obtain ⟨h10, e1, hm⟩ := lt_some hm
    replace f : Fk S h10 g := by rw [e1]; exact up_fk f (by decide) (hS _ (by decide))
    refine v_j1 (fun (h12 : PH) => Fk S h12 g → Fk S r g) hm (fun h12 hm f => ?_) (fun j11 kj11 hm => ?_)
    · obtain ⟨-, hm⟩ := ck_s hm
      obtain ⟨-, hm⟩ := ck_s hm
      obtain ⟨h13, e1, hm⟩ := lt_some hm
      replace f : Fk S h13 g := by rw [e1]; exact up_fk f (by decide) (hS _ (by decide))
      refine v_j1 (fun (h15 : PH) => Fk S h15 g → Fk S r g) hm (fun h15 hm f => ?_) (fun j14 kj14 hm => ?_)
      · obtain ⟨h16, he, hm⟩ := bd_s hm
        replace f := fk_tr f (fkm_areOut _ _ he) (fun b hb => hS b ((by decide +kernel : ∀ b, b ∈ ([110, 105] : List Nat) → b ∈ ([124, 125, 105, 110] : List Nat)) b hb))
        cases hm
        exact f
      · rcases ite_or hm with ⟨hc, hm⟩ | ⟨hc, hm⟩
        · exact kj14 _ hm f
        · obtain ⟨h17, he, hm⟩ := bd_s hm
          replace f := fk_tr f (fkm_notes _ _ _ _ he) (fun b hb => hS b ((by decide +kernel : ∀ b, b ∈ ([110, 105] : List Nat) → b ∈ ([124, 125, 105, 110] : List Nat)) b hb))
          exact kj14 _ hm f
    · rcases ite_or hm with ⟨hc, hm⟩ | ⟨hc, hm⟩
      · exact kj11 _ hm f
      · obtain ⟨h18, he, hm⟩ := bd_s hm
        replace f := fk_tr f (fkm_notes _ _ _ _ he) (fun b hb => hS b ((by decide +kernel : ∀ b, b ∈ ([110, 105] : List Nat) → b ∈ ([124, 125, 105, 110] : List Nat)) b hb))
        exact kj11 _ hm f
def FKdm_isGnawed (p1 : Int32) : List Nat := [105, 110, 124, 125]
theorem wk_m_isGnawed_L4 (p1 : Int32) (k0 : Int32 → PH → Option (PH)) (S : List Nat) (g : PH) (r : PH) (hS : ∀ b, b ∈ ([124, 125, 105] : List Nat) → b ∈ S) (kk0 : ∀ (y0 : Int32) (y1 : PH), k0 y0 y1 = some r → Fk S y1 g → Fk S r g) : ∀ (n : Nat) (v2 : Int32) (v3 : Int32) (hv : PH), mm_isGnawed_L4 p1 k0 n v2 v3 hv = some r → Fk S hv g → Fk S r g := by
  intro n
  induction n with
  | zero => intro v2 v3 hv hm; cases hm
  | succ n ih =>
    intro v2 v3 hv hm f
    unfold mm_isGnawed_L4 at hm
    rcases ite_or hm with ⟨hc, hm⟩ | ⟨hc, hm⟩
    · exact kk0 _ _ hm f
    · obtain ⟨r1, -, hm⟩ := bd_s hm
      rcases ite_or hm with ⟨hc, hm⟩ | ⟨hc, hm⟩
      · exact ih _ _ _ hm f
      · obtain ⟨r2, h3, he, hm⟩ := bd2_s hm
        replace f := fk_tr f (fkm_gnawsOf _ _ _ he) (fun b hb => hS b ((by decide +kernel : ∀ b, b ∈ ([124, 125] : List Nat) → b ∈ ([124, 125, 105] : List Nat)) b hb))
        refine v_j2 (fun (x5 : Int32) (h6 : PH) => Fk S h6 g → Fk S r g) hm (fun x5 h6 hm f => ?_) (fun j4 kj4 hm => ?_)
        · rcases ite_or hm with ⟨hc, hm⟩ | ⟨hc, hm⟩
          · exact ih _ _ _ hm f
          · obtain ⟨r7, -, hm⟩ := bd_s hm
            obtain ⟨h8, he, hm⟩ := bd_s hm
            replace f := fk_tr f (fkm_hasWall _ _ _ _ he) (fun b hb => hS b ((by decide +kernel : ∀ b, b ∈ ([105] : List Nat) → b ∈ ([124, 125, 105] : List Nat)) b hb))
            obtain ⟨x9, -, hm⟩ := lt_some hm
            exact ih _ _ _ hm f
        · rcases ite_or hm with ⟨hc, hm⟩ | ⟨hc, hm⟩
          · rcases ite_or hm with ⟨hc, hm⟩ | ⟨hc, hm⟩
            · exact kj4 _ _ hm f
            · obtain ⟨r10, h11, he, hm⟩ := bd2_s hm
              replace f := fk_tr f (fkm_draw _ _ he) (fun b hb => hS b ((by decide +kernel : ∀ b, b ∈ ([105] : List Nat) → b ∈ ([124, 125, 105] : List Nat)) b hb))
              rcases ite_or hm with ⟨hc, hm⟩ | ⟨hc, hm⟩
              · exact kj4 _ _ hm f
              · exact kj4 _ _ hm f
          · rcases ite_or hm with ⟨hc, hm⟩ | ⟨hc, hm⟩
            · exact kj4 _ _ hm f
            · exact kj4 _ _ hm f
theorem fkm_isGnawed (p1 : Int32) (h0 : PH) {r : PH} (hm : mm_isGnawed p1 h0 = some r) : Fk (FKdm_isGnawed p1) r h0 := by
  generalize hSe : FKdm_isGnawed p1 = S
  have hS : ∀ b, b ∈ ([105, 110, 124, 125] : List Nat) → b ∈ S := by rw [← hSe]; exact fun b hb => hb
  generalize hge : h0 = g at ⊢
  have f : Fk S h0 g := by rw [hge]; exact fun _ _ _ => rfl
  unfold mm_isGnawed at hm
  refine wk_m_isGnawed_L4 _ _ S g _ (fun b hb => hS b ((by decide +kernel : ∀ b, b ∈ ([124, 125, 105] : List Nat) → b ∈ ([105, 110, 124, 125] : List Nat)) b hb)) (fun x12 h13 hm f => ?_) _ _ _ _ hm f
  · obtain ⟨-, hm⟩ := ck_s hm
    obtain ⟨-, hm⟩ := ck_s hm
    obtain ⟨h14, e1, hm⟩ := lt_some hm
    replace f : Fk S h14 g := by rw [e1]; exact up_fk f (by decide) (hS _ (by decide))
    rcases ite_or hm with ⟨hc, hm⟩ | ⟨hc, hm⟩
    · cases hm
      exact f
    · obtain ⟨h15, he, hm⟩ := bd_s hm
      replace f := fk_tr f (fkm_notes _ _ _ _ he) (fun b hb => hS b ((by decide +kernel : ∀ b, b ∈ ([110, 105] : List Nat) → b ∈ ([105, 110, 124, 125] : List Nat)) b hb))
      cases hm
      exact f
def FKdm_doesMelt (p1 : Int32) : List Nat := [110, 105, 124, 125]
theorem wk_m_doesMelt_L4 (p1 : Int32) (k0 : Int32 → PH → Option (PH)) (S : List Nat) (g : PH) (r : PH) (hS : ∀ b, b ∈ ([105, 124, 125] : List Nat) → b ∈ S) (kk0 : ∀ (y0 : Int32) (y1 : PH), k0 y0 y1 = some r → Fk S y1 g → Fk S r g) : ∀ (n : Nat) (v2 : Int32) (v3 : Int32) (hv : PH), mm_doesMelt_L4 p1 k0 n v2 v3 hv = some r → Fk S hv g → Fk S r g := by
  intro n
  induction n with
  | zero => intro v2 v3 hv hm; cases hm
  | succ n ih =>
    intro v2 v3 hv hm f
    unfold mm_doesMelt_L4 at hm
    rcases ite_or hm with ⟨hc, hm⟩ | ⟨hc, hm⟩
    · exact kk0 _ _ hm f
    · obtain ⟨-, hm⟩ := ck_s hm
      rcases ite_or hm with ⟨hc, hm⟩ | ⟨hc, hm⟩
      · obtain ⟨r1, -, hm⟩ := bd_s hm
        refine v_j2 (fun (x3 : Int32) (h4 : PH) => Fk S h4 g → Fk S r g) hm (fun x3 h4 hm f => ?_) (fun j2 kj2 hm => ?_)
        · obtain ⟨r5, -, hm⟩ := bd_s hm
          obtain ⟨h6, he, hm⟩ := bd_s hm
          replace f := fk_tr f (fkm_hasWall _ _ _ _ he) (fun b hb => hS b ((by decide +kernel : ∀ b, b ∈ ([105] : List Nat) → b ∈ ([105, 124, 125] : List Nat)) b hb))
          obtain ⟨x7, -, hm⟩ := lt_some hm
          exact ih _ _ _ hm f
        · rcases ite_or hm with ⟨hc, hm⟩ | ⟨hc, hm⟩
          · exact kj2 _ _ hm f
          · obtain ⟨r8, -, hm⟩ := bd_s hm
            obtain ⟨r9, h10, he, hm⟩ := bd2_s hm
            replace f := fk_tr f (fkm_meltsOf _ _ _ he) (fun b hb => hS b ((by decide +kernel : ∀ b, b ∈ ([124, 125] : List Nat) → b ∈ ([105, 124, 125] : List Nat)) b hb))
            obtain ⟨r11, -, hm⟩ := bd_s hm
            exact kj2 _ _ hm f
      · exact kk0 _ _ hm f
theorem fkm_doesMelt (p1 : Int32) (h0 : PH) {r : PH} (hm : mm_doesMelt p1 h0 = some r) : Fk (FKdm_doesMelt p1) r h0 := by
  generalize hSe : FKdm_doesMelt p1 = S
  have hS : ∀ b, b ∈ ([110, 105, 124, 125] : List Nat) → b ∈ S := by rw [← hSe]; exact fun b hb => hb
  generalize hge : h0 = g at ⊢
  have f : Fk S h0 g := by rw [hge]; exact fun _ _ _ => rfl
  unfold mm_doesMelt at hm
  refine wk_m_doesMelt_L4 _ _ S g _ (fun b hb => hS b ((by decide +kernel : ∀ b, b ∈ ([105, 124, 125] : List Nat) → b ∈ ([110, 105, 124, 125] : List Nat)) b hb)) (fun x12 h13 hm f => ?_) _ _ _ _ hm f
  · rcases ite_or hm with ⟨hc, hm⟩ | ⟨hc, hm⟩
    · cases hm
      exact f
    · obtain ⟨h14, he, hm⟩ := bd_s hm
      replace f := fk_tr f (fkm_notes _ _ _ _ he) (fun b hb => hS b ((by decide +kernel : ∀ b, b ∈ ([110, 105] : List Nat) → b ∈ ([110, 105, 124, 125] : List Nat)) b hb))
      cases hm
      exact f
def FKdm_goesBy : List Nat := [105, 110, 124, 125]
theorem wk_m_goesBy_L6 (k0 : PH → Option (Int32 × PH)) (S : List Nat) (g : PH) (r : Int32 × PH) (hS : ∀ b, b ∈ ([110, 105] : List Nat) → b ∈ S) (kk0 : ∀ (y0 : PH), k0 y0 = some r → Fk S y0 g → Fk S r.2 g) : ∀ (n : Nat) (v1 : Int32) (hv : PH), mm_goesBy_L6 k0 n v1 hv = some r → Fk S hv g → Fk S r.2 g := by
  intro n
  induction n with
  | zero => intro v1 hv hm; cases hm
  | succ n ih =>
    intro v1 hv hm f
    unfold mm_goesBy_L6 at hm
    rcases ite_or hm with ⟨hc, hm⟩ | ⟨hc, hm⟩
    · exact kk0 _ hm f
    · obtain ⟨-, hm⟩ := ck_s hm
      obtain ⟨-, hm⟩ := ck_s hm
      rcases ite_or hm with ⟨hc, hm⟩ | ⟨hc, hm⟩
      · obtain ⟨h2, he, hm⟩ := bd_s hm
        replace f := fk_tr f (fkm_does _ _ he) (fun b hb => hS b ((by decide +kernel : ∀ b, b ∈ ([110, 105] : List Nat) → b ∈ ([110, 105] : List Nat)) b hb))
        obtain ⟨x3, -, hm⟩ := lt_some hm
        exact ih _ _ hm f
      · obtain ⟨x4, -, hm⟩ := lt_some hm
        exact ih _ _ hm f
theorem wk_m_goesBy_L50 (p1 : Int32) (k0 : PH → Option (Int32 × PH)) (S : List Nat) (g : PH) (r : Int32 × PH) (hS : ∀ b, b ∈ ([124, 125, 105, 110] : List Nat) → b ∈ S) (kk0 : ∀ (y0 : PH), k0 y0 = some r → Fk S y0 g → Fk S r.2 g) : ∀ (n : Nat) (v2 : Int32) (hv : PH), mm_goesBy_L50 p1 k0 n v2 hv = some r → Fk S hv g → Fk S r.2 g := by
  intro n
  induction n with
  | zero => intro v2 hv hm; cases hm
  | succ n ih =>
    intro v2 hv hm f
    unfold mm_goesBy_L50 at hm
    rcases ite_or hm with ⟨hc, hm⟩ | ⟨hc, hm⟩
    · exact kk0 _ hm f
    · obtain ⟨r7, -, hm⟩ := bd_s hm
      rcases ite_or hm with ⟨hc, hm⟩ | ⟨hc, hm⟩
      · exact ih _ _ hm f
      · obtain ⟨-, hm⟩ := ck_s hm
        rcases ite_or hm with ⟨hc, hm⟩ | ⟨hc, hm⟩
        · exact ih _ _ hm f
        · obtain ⟨h8, he, hm⟩ := bd_s hm
          replace f := fk_tr f (fkm_paysRent _ _ he) (fun b hb => hS b ((by decide +kernel : ∀ b, b ∈ ([124, 125, 105, 110] : List Nat) → b ∈ ([124, 125, 105, 110] : List Nat)) b hb))
          exact ih _ _ hm f
theorem wk_m_goesBy_L91 (p1 : Int32) (k0 : PH → Option (Int32 × PH)) (S : List Nat) (g : PH) (r : Int32 × PH) (hS : ∀ b, b ∈ ([105, 110, 124, 125] : List Nat) → b ∈ S) (kk0 : ∀ (y0 : PH), k0 y0 = some r → Fk S y0 g → Fk S r.2 g) : ∀ (n : Nat) (v2 : Int32) (hv : PH), mm_goesBy_L91 p1 k0 n v2 hv = some r → Fk S hv g → Fk S r.2 g := by
  intro n
  induction n with
  | zero => intro v2 hv hm; cases hm
  | succ n ih =>
    intro v2 hv hm f
    unfold mm_goesBy_L91 at hm
    rcases ite_or hm with ⟨hc, hm⟩ | ⟨hc, hm⟩
    · exact kk0 _ hm f
    · obtain ⟨h10, he, hm⟩ := bd_s hm
      replace f := fk_tr f (fkm_isGnawed _ _ he) (fun b hb => hS b ((by decide +kernel : ∀ b, b ∈ ([105, 110, 124, 125] : List Nat) → b ∈ ([105, 110, 124, 125] : List Nat)) b hb))
      exact ih _ _ hm f
theorem wk_m_goesBy_L112 (p1 : Int32) (k0 : PH → Option (Int32 × PH)) (S : List Nat) (g : PH) (r : Int32 × PH) (hS : ∀ b, b ∈ ([110, 105, 124, 125] : List Nat) → b ∈ S) (kk0 : ∀ (y0 : PH), k0 y0 = some r → Fk S y0 g → Fk S r.2 g) : ∀ (n : Nat) (v2 : Int32) (hv : PH), mm_goesBy_L112 p1 k0 n v2 hv = some r → Fk S hv g → Fk S r.2 g := by
  intro n
  induction n with
  | zero => intro v2 hv hm; cases hm
  | succ n ih =>
    intro v2 hv hm f
    unfold mm_goesBy_L112 at hm
    rcases ite_or hm with ⟨hc, hm⟩ | ⟨hc, hm⟩
    · exact kk0 _ hm f
    · obtain ⟨h12, he, hm⟩ := bd_s hm
      replace f := fk_tr f (fkm_doesMelt _ _ he) (fun b hb => hS b ((by decide +kernel : ∀ b, b ∈ ([110, 105, 124, 125] : List Nat) → b ∈ ([110, 105, 124, 125] : List Nat)) b hb))
      exact ih _ _ hm f
theorem wk_m_goesBy_L133 (p1 : Int32) (k0 : PH → Option (Int32 × PH)) (S : List Nat) (g : PH) (r : Int32 × PH) (hS : ∀ b, b ∈ ([105] : List Nat) → b ∈ S) (kk0 : ∀ (y0 : PH), k0 y0 = some r → Fk S y0 g → Fk S r.2 g) : ∀ (n : Nat) (v2 : Int32) (hv : PH), mm_goesBy_L133 p1 k0 n v2 hv = some r → Fk S hv g → Fk S r.2 g := by
  intro n
  induction n with
  | zero => intro v2 hv hm; cases hm
  | succ n ih =>
    intro v2 hv hm f
    unfold mm_goesBy_L133 at hm
    rcases ite_or hm with ⟨hc, hm⟩ | ⟨hc, hm⟩
    · exact kk0 _ hm f
    · obtain ⟨-, hm⟩ := ck_s hm
      rcases ite_or hm with ⟨hc, hm⟩ | ⟨hc, hm⟩
      · obtain ⟨r14, -, hm⟩ := bd_s hm
        rcases ite_or hm with ⟨hc, hm⟩ | ⟨hc, hm⟩
        · exact ih _ _ hm f
        · obtain ⟨-, hm⟩ := ck_s hm
          obtain ⟨r15, -, hm⟩ := bd_s hm
          obtain ⟨-, hm⟩ := ck_s hm
          obtain ⟨h16, e1, hm⟩ := lt_some hm
          replace f : Fk S h16 g := by rw [e1]; exact up_fk f (by decide) (hS _ (by decide))
          exact ih _ _ hm f
      · exact ih _ _ hm f
theorem wk_m_goesBy_L193 (p1 : Int32) (k0 : PH → Option (Int32 × PH)) (S : List Nat) (g : PH) (r : Int32 × PH) (hS : ∀ b, b ∈ ([110, 105] : List Nat) → b ∈ S) (kk0 : ∀ (y0 : PH), k0 y0 = some r → Fk S y0 g → Fk S r.2 g) : ∀ (n : Nat) (v2 : Int32) (hv : PH), mm_goesBy_L193 p1 k0 n v2 hv = some r → Fk S hv g → Fk S r.2 g := by
  intro n
  induction n with
  | zero => intro v2 hv hm; cases hm
  | succ n ih =>
    intro v2 hv hm f
    unfold mm_goesBy_L193 at hm
    rcases ite_or hm with ⟨hc, hm⟩ | ⟨hc, hm⟩
    · exact kk0 _ hm f
    · obtain ⟨h18, he, hm⟩ := bd_s hm
      replace f := fk_tr f (fkm_areOut _ _ he) (fun b hb => hS b ((by decide +kernel : ∀ b, b ∈ ([110, 105] : List Nat) → b ∈ ([110, 105] : List Nat)) b hb))
      obtain ⟨r19, -, hm⟩ := bd_s hm
      rcases ite_or hm with ⟨hc, hm⟩ | ⟨hc, hm⟩
      · exact ih _ _ hm f
      · obtain ⟨-, hm⟩ := ck_s hm
        obtain ⟨r20, -, hm⟩ := bd_s hm
        obtain ⟨-, hm⟩ := ck_s hm
        obtain ⟨h21, e1, hm⟩ := lt_some hm
        replace f : Fk S h21 g := by rw [e1]; exact up_fk f (by decide) (hS _ (by decide))
        exact ih _ _ hm f
theorem fkm_goesBy (h0 : PH) {r : Int32 × PH} (hm : mm_goesBy h0 = some r) : Fk (FKdm_goesBy ) r.2 h0 := by
  generalize hSe : FKdm_goesBy = S
  have hS : ∀ b, b ∈ ([105, 110, 124, 125] : List Nat) → b ∈ S := by rw [← hSe]; exact fun b hb => hb
  generalize hge : h0 = g at ⊢
  have f : Fk S h0 g := by rw [hge]; exact fun _ _ _ => rfl
  unfold mm_goesBy at hm
  obtain ⟨h1, he, hm⟩ := bd_s hm
  replace f := fk_tr f (fkm_skyOf _ he) (fun b hb => hS b ((by decide +kernel : ∀ b, b ∈ ([105] : List Nat) → b ∈ ([105, 110, 124, 125] : List Nat)) b hb))
  refine wk_m_goesBy_L6 _ S g _ (fun b hb => hS b ((by decide +kernel : ∀ b, b ∈ ([110, 105] : List Nat) → b ∈ ([105, 110, 124, 125] : List Nat)) b hb)) (fun h5 hm f => ?_) _ _ _ hm f
  · obtain ⟨r6, -, hm⟩ := bd_s hm
    refine wk_m_goesBy_L50 _ _ S g _ (fun b hb => hS b ((by decide +kernel : ∀ b, b ∈ ([124, 125, 105, 110] : List Nat) → b ∈ ([105, 110, 124, 125] : List Nat)) b hb)) (fun h9 hm f => ?_) _ _ _ hm f
    · refine wk_m_goesBy_L91 _ _ S g _ (fun b hb => hS b ((by decide +kernel : ∀ b, b ∈ ([105, 110, 124, 125] : List Nat) → b ∈ ([105, 110, 124, 125] : List Nat)) b hb)) (fun h11 hm f => ?_) _ _ _ hm f
      · refine wk_m_goesBy_L112 _ _ S g _ (fun b hb => hS b ((by decide +kernel : ∀ b, b ∈ ([110, 105, 124, 125] : List Nat) → b ∈ ([105, 110, 124, 125] : List Nat)) b hb)) (fun h13 hm f => ?_) _ _ _ hm f
        · refine wk_m_goesBy_L133 _ _ S g _ (fun b hb => hS b ((by decide +kernel : ∀ b, b ∈ ([105] : List Nat) → b ∈ ([105, 110, 124, 125] : List Nat)) b hb)) (fun h17 hm f => ?_) _ _ _ hm f
          · refine wk_m_goesBy_L193 _ _ S g _ (fun b hb => hS b ((by decide +kernel : ∀ b, b ∈ ([110, 105] : List Nat) → b ∈ ([105, 110, 124, 125] : List Nat)) b hb)) (fun h22 hm f => ?_) _ _ _ hm f
            · obtain ⟨-, hm⟩ := ck_s hm
              obtain ⟨-, hm⟩ := ck_s hm
              obtain ⟨h23, e1, hm⟩ := lt_some hm
              replace f : Fk S h23 g := by rw [e1]; exact up_fk f (by decide) (hS _ (by decide))
              obtain ⟨r24, -, hm⟩ := bd_s hm
              obtain ⟨r25, -, hm⟩ := bd_s hm
              cases hm
              exact f
def FKdm_quarters (p1 : Int32) : List Nat := [1000, 1003, 106, 105, 110, 124, 125]
theorem wk_m_quarters_L36 (p1 : Int32) (S : List Nat) (g : PH) (r : Int32 × PH) (hS : ∀ b, b ∈ ([1003, 106, 105, 110, 124, 125] : List Nat) → b ∈ S) : ∀ (n : Nat) (v2 : Int32) (v3 : Int32) (hv : PH), mm_quarters_L36 p1 n v2 v3 hv = some r → Fk S hv g → Fk S r.2 g := by
  intro n
  induction n with
  | zero => intro v2 v3 hv hm; cases hm
  | succ n ih =>
    intro v2 v3 hv hm f
    unfold mm_quarters_L36 at hm
    rcases ite_or hm with ⟨hc, hm⟩ | ⟨hc, hm⟩
    · cases hm
      exact f
    · obtain ⟨h3, he, hm⟩ := bd_s hm
      replace f := fk_tr f (fkm_keepsAhead _ he) (fun b hb => hS b ((by decide +kernel : ∀ b, b ∈ ([1003, 106] : List Nat) → b ∈ ([1003, 106, 105, 110, 124, 125] : List Nat)) b hb))
      obtain ⟨r4, h5, he, hm⟩ := bd2_s hm
      replace f := fk_tr f (fkm_goesBy _ he) (fun b hb => hS b ((by decide +kernel : ∀ b, b ∈ ([105, 110, 124, 125] : List Nat) → b ∈ ([1003, 106, 105, 110, 124, 125] : List Nat)) b hb))
      obtain ⟨x6, -, hm⟩ := lt_some hm
      exact ih _ _ _ hm f
theorem fkm_quarters (p1 : Int32) (h0 : PH) {r : Int32 × PH} (hm : mm_quarters p1 h0 = some r) : Fk (FKdm_quarters p1) r.2 h0 := by
  generalize hSe : FKdm_quarters p1 = S
  have hS : ∀ b, b ∈ ([1000, 1003, 106, 105, 110, 124, 125] : List Nat) → b ∈ S := by rw [← hSe]; exact fun b hb => hb
  generalize hge : h0 = g at ⊢
  have f : Fk S h0 g := by rw [hge]; exact fun _ _ _ => rfl
  unfold mm_quarters at hm
  obtain ⟨h1, e1, hm⟩ := lt_some hm
  replace f : Fk S h1 g := by rw [e1]; exact up_fk4 f (hS _ (by decide))
  obtain ⟨r2, -, hm⟩ := bd_s hm
  rcases ite_or hm with ⟨hc, hm⟩ | ⟨hc, hm⟩
  · cases hm
    exact f
  · obtain ⟨-, hm⟩ := ck_s hm
    rcases ite_or hm with ⟨hc, hm⟩ | ⟨hc, hm⟩
    · exact wk_m_quarters_L36 _ S g _ (fun b hb => hS b ((by decide +kernel : ∀ b, b ∈ ([1003, 106, 105, 110, 124, 125] : List Nat) → b ∈ ([1000, 1003, 106, 105, 110, 124, 125] : List Nat)) b hb)) _ _ _ _ hm f
    · cases hm
      exact f
def FKdm_of (p1 : Int32) (p2 : Int32) : List Nat := [1000, 124, 125]
theorem fkm_of (p1 : Int32) (p2 : Int32) (h0 : PH) {r : Int32 × PH} (hm : mm_of p1 p2 h0 = some r) : Fk (FKdm_of p1 p2) r.2 h0 := by
  generalize hSe : FKdm_of p1 p2 = S
  have hS : ∀ b, b ∈ ([1000, 124, 125] : List Nat) → b ∈ S := by rw [← hSe]; exact fun b hb => hb
  generalize hge : h0 = g at ⊢
  have f : Fk S h0 g := by rw [hge]; exact fun _ _ _ => rfl
  unfold mm_of at hm
  obtain ⟨h1, e1, hm⟩ := lt_some hm
  replace f : Fk S h1 g := by rw [e1]; exact up_fk4 f (hS _ (by decide))
  obtain ⟨r2, -, hm⟩ := bd_s hm
  rcases ite_or hm with ⟨hc, hm⟩ | ⟨hc, hm⟩
  · cases hm
    exact f
  · obtain ⟨r3, -, hm⟩ := bd_s hm
    rcases ite_or hm with ⟨hc, hm⟩ | ⟨hc, hm⟩
    · obtain ⟨r4, -, hm⟩ := bd_s hm
      rcases ite_or hm with ⟨hc, hm⟩ | ⟨hc, hm⟩
      · obtain ⟨r5, -, hm⟩ := bd_s hm
        rcases ite_or hm with ⟨hc, hm⟩ | ⟨hc, hm⟩
        · rcases ite_or hm with ⟨hc, hm⟩ | ⟨hc, hm⟩
          · obtain ⟨-, hm⟩ := ck_s hm
            cases hm
            exact f
          · rcases ite_or hm with ⟨hc, hm⟩ | ⟨hc, hm⟩
            · obtain ⟨-, hm⟩ := ck_s hm
              cases hm
              exact f
            · rcases ite_or hm with ⟨hc, hm⟩ | ⟨hc, hm⟩
              · obtain ⟨-, hm⟩ := ck_s hm
                cases hm
                exact f
              · rcases ite_or hm with ⟨hc, hm⟩ | ⟨hc, hm⟩
                · obtain ⟨-, hm⟩ := ck_s hm
                  cases hm
                  exact f
                · rcases ite_or hm with ⟨hc, hm⟩ | ⟨hc, hm⟩
                  · obtain ⟨-, hm⟩ := ck_s hm
                    cases hm
                    exact f
                  · rcases ite_or hm with ⟨hc, hm⟩ | ⟨hc, hm⟩
                    · obtain ⟨-, hm⟩ := ck_s hm
                      cases hm
                      exact f
                    · rcases ite_or hm with ⟨hc, hm⟩ | ⟨hc, hm⟩
                      · obtain ⟨-, hm⟩ := ck_s hm
                        cases hm
                        exact f
                      · rcases ite_or hm with ⟨hc, hm⟩ | ⟨hc, hm⟩
                        · obtain ⟨r6, h7, he, hm⟩ := bd2_s hm
                          replace f := fk_tr f (fkm_rentOf _ _ he) (fun b hb => hS b ((by decide +kernel : ∀ b, b ∈ ([124, 125] : List Nat) → b ∈ ([1000, 124, 125] : List Nat)) b hb))
                          cases hm
                          exact f
                        · rcases ite_or hm with ⟨hc, hm⟩ | ⟨hc, hm⟩
                          · obtain ⟨-, hm⟩ := ck_s hm
                            cases hm
                            exact f
                          · cases hm
                            exact f
        · obtain ⟨r8, h9, he, hm⟩ := bd2_s hm
          replace f := fk_tr f (fkm_meltsOf _ _ _ he) (fun b hb => hS b ((by decide +kernel : ∀ b, b ∈ ([124, 125] : List Nat) → b ∈ ([1000, 124, 125] : List Nat)) b hb))
          cases hm
          exact f
      · obtain ⟨r10, h11, he, hm⟩ := bd2_s hm
        replace f := fk_tr f (fkm_gnawsOf _ _ _ he) (fun b hb => hS b ((by decide +kernel : ∀ b, b ∈ ([124, 125] : List Nat) → b ∈ ([1000, 124, 125] : List Nat)) b hb))
        cases hm
        exact f
    · obtain ⟨r12, -, hm⟩ := bd_s hm
      cases hm
      exact f
def FKdm_book (p1 : Int32) (p2 : Int32) : List Nat := [1000]
theorem fkm_book (p1 : Int32) (p2 : Int32) (h0 : PH) {r : Int32 × PH} (hm : mm_book p1 p2 h0 = some r) : Fk (FKdm_book p1 p2) r.2 h0 := by
  generalize hSe : FKdm_book p1 p2 = S
  have hS : ∀ b, b ∈ ([1000] : List Nat) → b ∈ S := by rw [← hSe]; exact fun b hb => hb
  generalize hge : h0 = g at ⊢
  have f : Fk S h0 g := by rw [hge]; exact fun _ _ _ => rfl
  unfold mm_book at hm
  obtain ⟨h1, e1, hm⟩ := lt_some hm
  replace f : Fk S h1 g := by rw [e1]; exact up_fk4 f (hS _ (by decide))
  obtain ⟨-, hm⟩ := ck_s hm
  obtain ⟨r2, -, hm⟩ := bd_s hm
  rcases ite_or hm with ⟨hc, hm⟩ | ⟨hc, hm⟩
  · cases hm
    exact f
  · obtain ⟨r3, -, hm⟩ := bd_s hm
    rcases ite_or hm with ⟨hc, hm⟩ | ⟨hc, hm⟩
    · cases hm
      exact f
    · obtain ⟨-, hm⟩ := ck_s hm
      cases hm
      exact f
def FKdm_goes (p1 : Int32) (p2 : Int32) : List Nat := [1000, 1005, 107, 105, 110, 124, 125]
theorem wk_m_goes_L34 (p1 : Int32) (p2 : Int32) (k0 : PH → Option (Int32 × PH)) (S : List Nat) (g : PH) (r : Int32 × PH) (hS : ∀ b, b ∈ ([105, 110, 124, 125] : List Nat) → b ∈ S) (kk0 : ∀ (y0 : PH), k0 y0 = some r → Fk S y0 g → Fk S r.2 g) : ∀ (n : Nat) (v3 : Int32) (hv : PH), mm_goes_L34 p1 p2 k0 n v3 hv = some r → Fk S hv g → Fk S r.2 g := by
  intro n
  induction n with
  | zero => intro v3 hv hm; cases hm
  | succ n ih =>
    intro v3 hv hm f
    unfold mm_goes_L34 at hm
    rcases ite_or hm with ⟨hc, hm⟩ | ⟨hc, hm⟩
    · exact kk0 _ hm f
    · obtain ⟨r5, h6, he, hm⟩ := bd2_s hm
      replace f := fk_tr f (fkm_goesBy _ he) (fun b hb => hS b ((by decide +kernel : ∀ b, b ∈ ([105, 110, 124, 125] : List Nat) → b ∈ ([105, 110, 124, 125] : List Nat)) b hb))
      exact ih _ _ hm f
theorem fkm_goes (p1 : Int32) (p2 : Int32) (h0 : PH) {r : Int32 × PH} (hm : mm_goes p1 p2 h0 = some r) : Fk (FKdm_goes p1 p2) r.2 h0 := by
  generalize hSe : FKdm_goes p1 p2 = S
  have hS : ∀ b, b ∈ ([1000, 1005, 107, 105, 110, 124, 125] : List Nat) → b ∈ S := by rw [← hSe]; exact fun b hb => hb
  generalize hge : h0 = g at ⊢
  have f : Fk S h0 g := by rw [hge]; exact fun _ _ _ => rfl
  unfold mm_goes at hm
  obtain ⟨h1, e1, hm⟩ := lt_some hm
  replace f : Fk S h1 g := by rw [e1]; exact up_fk4 f (hS _ (by decide))
  obtain ⟨r2, -, hm⟩ := bd_s hm
  rcases ite_or hm with ⟨hc, hm⟩ | ⟨hc, hm⟩
  · cases hm
    exact f
  · obtain ⟨r3, -, hm⟩ := bd_s hm
    rcases ite_or hm with ⟨hc, hm⟩ | ⟨hc, hm⟩
    · cases hm
      exact f
    · obtain ⟨h4, he, hm⟩ := bd_s hm
      replace f := fk_tr f (fkm_thinks _ he) (fun b hb => hS b ((by decide +kernel : ∀ b, b ∈ ([1005, 107] : List Nat) → b ∈ ([1000, 1005, 107, 105, 110, 124, 125] : List Nat)) b hb))
      refine wk_m_goes_L34 _ _ _ S g _ (fun b hb => hS b ((by decide +kernel : ∀ b, b ∈ ([105, 110, 124, 125] : List Nat) → b ∈ ([1000, 1005, 107, 105, 110, 124, 125] : List Nat)) b hb)) (fun h7 hm f => ?_) _ _ _ hm f
      · refine v_j1 (fun (x9 : Int32) => Fk S r.2 g) hm (fun x9 hm => ?_) (fun j8 kj8 hm => ?_)
        · obtain ⟨h10, he, hm⟩ := bd_s hm
          replace f := fk_tr f (fkm_endsThought _ he) (fun b hb => hS b ((by decide +kernel : ∀ b, b ∈ ([1005, 105] : List Nat) → b ∈ ([1000, 1005, 107, 105, 110, 124, 125] : List Nat)) b hb))
          cases hm
          exact f
        · rcases ite_or hm with ⟨hc, hm⟩ | ⟨hc, hm⟩
          · obtain ⟨-, hm⟩ := ck_s hm
            exact kj8 _ hm
          · rcases ite_or hm with ⟨hc, hm⟩ | ⟨hc, hm⟩
            · obtain ⟨r11, -, hm⟩ := bd_s hm
              obtain ⟨r12, -, hm⟩ := bd_s hm
              exact kj8 _ hm
            · refine v_j1 (fun (x14 : Int32) => Fk S r.2 g) hm (fun x14 hm => ?_) (fun j13 kj13 hm => ?_)
              · obtain ⟨r15, -, hm⟩ := bd_s hm
                exact kj8 _ hm
              · rcases ite_or hm with ⟨hc, hm⟩ | ⟨hc, hm⟩
                · exact kj13 _ hm
                · exact kj13 _ hm
def FKdm_stands (p1 : Int32) : List Nat := [1000, 1005, 107, 105, 110, 124, 125]
theorem wk_m_stands_L22 (p1 : Int32) (k0 : Int32 → PH → Option (Int32 × PH)) (S : List Nat) (g : PH) (r : Int32 × PH) (hS : ∀ b, b ∈ ([105, 110, 124, 125] : List Nat) → b ∈ S) (kk0 : ∀ (y0 : Int32) (y1 : PH), k0 y0 y1 = some r → Fk S y1 g → Fk S r.2 g) : ∀ (n : Nat) (v2 : Int32) (hv : PH), mm_stands_L22 p1 k0 n v2 hv = some r → Fk S hv g → Fk S r.2 g := by
  intro n
  induction n with
  | zero => intro v2 hv hm; cases hm
  | succ n ih =>
    intro v2 hv hm f
    unfold mm_stands_L22 at hm
    obtain ⟨r4, -, hm⟩ := bd_s hm
    rcases ite_or hm with ⟨hc, hm⟩ | ⟨hc, hm⟩
    · exact kk0 _ _ hm f
    · rcases ite_or hm with ⟨hc, hm⟩ | ⟨hc, hm⟩
      · exact kk0 _ _ hm f
      · obtain ⟨r5, h6, he, hm⟩ := bd2_s hm
        replace f := fk_tr f (fkm_goesBy _ he) (fun b hb => hS b ((by decide +kernel : ∀ b, b ∈ ([105, 110, 124, 125] : List Nat) → b ∈ ([105, 110, 124, 125] : List Nat)) b hb))
        obtain ⟨x7, -, hm⟩ := lt_some hm
        exact ih _ _ hm f
theorem fkm_stands (p1 : Int32) (h0 : PH) {r : Int32 × PH} (hm : mm_stands p1 h0 = some r) : Fk (FKdm_stands p1) r.2 h0 := by
  generalize hSe : FKdm_stands p1 = S
  have hS : ∀ b, b ∈ ([1000, 1005, 107, 105, 110, 124, 125] : List Nat) → b ∈ S := by rw [← hSe]; exact fun b hb => hb
  generalize hge : h0 = g at ⊢
  have f : Fk S h0 g := by rw [hge]; exact fun _ _ _ => rfl
  unfold mm_stands at hm
  obtain ⟨h1, e1, hm⟩ := lt_some hm
  replace f : Fk S h1 g := by rw [e1]; exact up_fk4 f (hS _ (by decide))
  obtain ⟨r2, -, hm⟩ := bd_s hm
  rcases ite_or hm with ⟨hc, hm⟩ | ⟨hc, hm⟩
  · cases hm
    exact f
  · obtain ⟨h3, he, hm⟩ := bd_s hm
    replace f := fk_tr f (fkm_thinks _ he) (fun b hb => hS b ((by decide +kernel : ∀ b, b ∈ ([1005, 107] : List Nat) → b ∈ ([1000, 1005, 107, 105, 110, 124, 125] : List Nat)) b hb))
    refine wk_m_stands_L22 _ _ S g _ (fun b hb => hS b ((by decide +kernel : ∀ b, b ∈ ([105, 110, 124, 125] : List Nat) → b ∈ ([1000, 1005, 107, 105, 110, 124, 125] : List Nat)) b hb)) (fun x8 h9 hm f => ?_) _ _ _ hm f
    · obtain ⟨h10, he, hm⟩ := bd_s hm
      replace f := fk_tr f (fkm_endsThought _ he) (fun b hb => hS b ((by decide +kernel : ∀ b, b ∈ ([1005, 105] : List Nat) → b ∈ ([1000, 1005, 107, 105, 110, 124, 125] : List Nat)) b hb))
      rcases ite_or hm with ⟨hc, hm⟩ | ⟨hc, hm⟩
      · cases hm
        exact f
      · cases hm
        exact f
def FKdm_findsCosts (p1 : Int32) (p2 : Int32) : List Nat := [126]
theorem wk_m_findsCosts_L2 (p1 : Int32) (p2 : Int32) (k0 : PH → Option (PH)) (S : List Nat) (g : PH) (r : PH) (hS : ∀ b, b ∈ ([126] : List Nat) → b ∈ S) (kk0 : ∀ (y0 : PH), k0 y0 = some r → Fk S y0 g → Fk S r g) : ∀ (n : Nat) (v3 : Int32) (hv : PH), mm_findsCosts_L2 p1 p2 k0 n v3 hv = some r → Fk S hv g → Fk S r g := by
  intro n
  induction n with
  | zero => intro v3 hv hm; cases hm
  | succ n ih =>
    intro v3 hv hm f
    unfold mm_findsCosts_L2 at hm
    rcases ite_or hm with ⟨hc, hm⟩ | ⟨hc, hm⟩
    · exact kk0 _ hm f
    · refine v_j1 (fun (x2 : Int32) => Fk S r g) hm (fun x2 hm => ?_) (fun j1 kj1 hm => ?_)
      · obtain ⟨-, hm⟩ := ck_s hm
        obtain ⟨h3, e1, hm⟩ := lt_some hm
        replace f : Fk S h3 g := by rw [e1]; exact up_fk f (by decide) (hS _ (by decide))
        exact ih _ _ hm f
      · rcases ite_or hm with ⟨hc, hm⟩ | ⟨hc, hm⟩
        · exact kj1 _ hm
        · exact kj1 _ hm
theorem wk_m_findsCosts_L59 (p2 : Int32) (p3 : Int32) (p4 : Int32) (k0 : PH → Option (PH)) (S : List Nat) (g : PH) (r : PH) (hS : ∀ b, b ∈ ([126] : List Nat) → b ∈ S) (kk0 : ∀ (y0 : PH), k0 y0 = some r → Fk S y0 g → Fk S r g) : ∀ (n : Nat) (v5 : Int32) (hv : PH), mm_findsCosts_L59 p2 p3 p4 k0 n v5 hv = some r → Fk S hv g → Fk S r g := by
  intro n
  induction n with
  | zero => intro v5 hv hm; cases hm
  | succ n ih =>
    intro v5 hv hm f
    unfold mm_findsCosts_L59 at hm
    rcases ite_or hm with ⟨hc, hm⟩ | ⟨hc, hm⟩
    · exact kk0 _ hm f
    · obtain ⟨-, hm⟩ := ck_s hm
      obtain ⟨r5, -, hm⟩ := bd_s hm
      rcases ite_or hm with ⟨hc, hm⟩ | ⟨hc, hm⟩
      · exact ih _ _ hm f
      · obtain ⟨-, hm⟩ := ck_s hm
        rcases ite_or hm with ⟨hc, hm⟩ | ⟨hc, hm⟩
        · exact ih _ _ hm f
        · refine v_j1 (fun (x7 : Int32) => Fk S r g) hm (fun x7 hm => ?_) (fun j6 kj6 hm => ?_)
          · obtain ⟨-, hm⟩ := ck_s hm
            obtain ⟨r8, -, hm⟩ := bd_s hm
            obtain ⟨-, hm⟩ := ck_s hm
            obtain ⟨h9, e1, hm⟩ := lt_some hm
            replace f : Fk S h9 g := by rw [e1]; exact up_fk f (by decide) (hS _ (by decide))
            exact ih _ _ hm f
          · rcases ite_or hm with ⟨hc, hm⟩ | ⟨hc, hm⟩
            · obtain ⟨-, hm⟩ := ck_s hm
              obtain ⟨r10, -, hm⟩ := bd_s hm
              exact kj6 _ hm
            · obtain ⟨-, hm⟩ := ck_s hm
              obtain ⟨r11, -, hm⟩ := bd_s hm
              obtain ⟨r12, -, hm⟩ := bd_s hm
              exact kj6 _ hm
theorem wk_m_findsCosts_L47 (p2 : Int32) (p3 : Int32) (k0 : PH → Option (PH)) (S : List Nat) (g : PH) (r : PH) (hS : ∀ b, b ∈ ([126] : List Nat) → b ∈ S) (kk0 : ∀ (y0 : PH), k0 y0 = some r → Fk S y0 g → Fk S r g) : ∀ (n : Nat) (v4 : Int32) (hv : PH), mm_findsCosts_L47 p2 p3 k0 n v4 hv = some r → Fk S hv g → Fk S r g := by
  intro n
  induction n with
  | zero => intro v4 hv hm; cases hm
  | succ n ih =>
    intro v4 hv hm f
    unfold mm_findsCosts_L47 at hm
    rcases ite_or hm with ⟨hc, hm⟩ | ⟨hc, hm⟩
    · exact kk0 _ hm f
    · refine wk_m_findsCosts_L59 _ _ _ _ S g _ (fun b hb => hS b ((by decide +kernel : ∀ b, b ∈ ([126] : List Nat) → b ∈ ([126] : List Nat)) b hb)) (fun h13 hm f => ?_) _ _ _ hm f
      · exact ih _ _ hm f
theorem wk_m_findsCosts_L36 (p2 : Int32) (S : List Nat) (g : PH) (r : PH) (hS : ∀ b, b ∈ ([126] : List Nat) → b ∈ S) : ∀ (n : Nat) (v3 : Int32) (hv : PH), mm_findsCosts_L36 p2 n v3 hv = some r → Fk S hv g → Fk S r g := by
  intro n
  induction n with
  | zero => intro v3 hv hm; cases hm
  | succ n ih =>
    intro v3 hv hm f
    unfold mm_findsCosts_L36 at hm
    rcases ite_or hm with ⟨hc, hm⟩ | ⟨hc, hm⟩
    · cases hm
      exact f
    · refine wk_m_findsCosts_L47 _ _ _ S g _ (fun b hb => hS b ((by decide +kernel : ∀ b, b ∈ ([126] : List Nat) → b ∈ ([126] : List Nat)) b hb)) (fun h14 hm f => ?_) _ _ _ hm f
      · exact ih _ _ hm f
theorem fkm_findsCosts (p1 : Int32) (p2 : Int32) (h0 : PH) {r : PH} (hm : mm_findsCosts p1 p2 h0 = some r) : Fk (FKdm_findsCosts p1 p2) r h0 := by
  generalize hSe : FKdm_findsCosts p1 p2 = S
  have hS : ∀ b, b ∈ ([126] : List Nat) → b ∈ S := by rw [← hSe]; exact fun b hb => hb
  generalize hge : h0 = g at ⊢
  have f : Fk S h0 g := by rw [hge]; exact fun _ _ _ => rfl
  unfold mm_findsCosts at hm
  refine wk_m_findsCosts_L2 _ _ _ S g _ (fun b hb => hS b ((by decide +kernel : ∀ b, b ∈ ([126] : List Nat) → b ∈ ([126] : List Nat)) b hb)) (fun h4 hm f => ?_) _ _ _ hm f
  · exact wk_m_findsCosts_L36 _ S g _ (fun b hb => hS b ((by decide +kernel : ∀ b, b ∈ ([126] : List Nat) → b ∈ ([126] : List Nat)) b hb)) _ _ _ hm f
def FKdm_costOf (p1 : Int32) (p2 : Int32) (p3 : Int32) : List Nat := [126]
theorem fkm_costOf (p1 : Int32) (p2 : Int32) (p3 : Int32) (h0 : PH) {r : Int32 × PH} (hm : mm_costOf p1 p2 p3 h0 = some r) : Fk (FKdm_costOf p1 p2 p3) r.2 h0 := by
  generalize hSe : FKdm_costOf p1 p2 p3 = S
  have hS : ∀ b, b ∈ ([126] : List Nat) → b ∈ S := by rw [← hSe]; exact fun b hb => hb
  generalize hge : h0 = g at ⊢
  have f : Fk S h0 g := by rw [hge]; exact fun _ _ _ => rfl
  unfold mm_costOf at hm
  obtain ⟨r1, -, hm⟩ := bd_s hm
  rcases ite_or hm with ⟨hc, hm⟩ | ⟨hc, hm⟩
  · cases hm
    exact f
  · obtain ⟨r2, -, hm⟩ := bd_s hm
    rcases ite_or hm with ⟨hc, hm⟩ | ⟨hc, hm⟩
    · cases hm
      exact f
    · obtain ⟨h3, he, hm⟩ := bd_s hm
      replace f := fk_tr f (fkm_findsCosts _ _ _ he) (fun b hb => hS b ((by decide +kernel : ∀ b, b ∈ ([126] : List Nat) → b ∈ ([126] : List Nat)) b hb))
      obtain ⟨-, hm⟩ := ck_s hm
      rcases ite_or hm with ⟨hc, hm⟩ | ⟨hc, hm⟩
      · cases hm
        exact f
      · obtain ⟨-, hm⟩ := ck_s hm
        cases hm
        exact f
def FKdm_hears (p1 : Int32) (p2 : Int32) : List Nat := [1000, 126]
theorem fkm_hears (p1 : Int32) (p2 : Int32) (h0 : PH) {r : Int32 × PH} (hm : mm_hears p1 p2 h0 = some r) : Fk (FKdm_hears p1 p2) r.2 h0 := by
  generalize hSe : FKdm_hears p1 p2 = S
  have hS : ∀ b, b ∈ ([1000, 126] : List Nat) → b ∈ S := by rw [← hSe]; exact fun b hb => hb
  generalize hge : h0 = g at ⊢
  have f : Fk S h0 g := by rw [hge]; exact fun _ _ _ => rfl
  unfold mm_hears at hm
  obtain ⟨h1, e1, hm⟩ := lt_some hm
  replace f : Fk S h1 g := by rw [e1]; exact up_fk4 f (hS _ (by decide))
  obtain ⟨r2, h3, he, hm⟩ := bd2_s hm
  replace f := fk_tr f (fkm_costOf _ _ _ _ he) (fun b hb => hS b ((by decide +kernel : ∀ b, b ∈ ([126] : List Nat) → b ∈ ([1000, 126] : List Nat)) b hb))
  cases hm
  exact f
def FKdm_heard (p1 : Int32) (p2 : Int32) : List Nat := [1000, 126]
theorem wk_m_heard_L38 (p1 : Int32) (p2 : Int32) (h0 : PH) (S : List Nat) (g : PH) (r : Int32 × PH) (hS : ∀ b, b ∈ ([] : List Nat) → b ∈ S) (f : Fk S h0 g) : ∀ (n : Nat) (v3 : Int32) (v4 : Int32), mm_heard_L38 p1 p2 h0 n v3 v4 = some r → Fk S r.2 g := by
  intro n
  induction n with
  | zero => intro v3 v4 hm; cases hm
  | succ n ih =>
    intro v3 v4 hm
    unfold mm_heard_L38 at hm
    rcases ite_or hm with ⟨hc, hm⟩ | ⟨hc, hm⟩
    · cases hm
      exact f
    · rcases ite_or hm with ⟨hc, hm⟩ | ⟨hc, hm⟩
      · exact ih _ _ hm
      · obtain ⟨-, hm⟩ := ck_s hm
        rcases ite_or hm with ⟨hc, hm⟩ | ⟨hc, hm⟩
        · exact ih _ _ hm
        · obtain ⟨x5, -, hm⟩ := lt_some hm
          exact ih _ _ hm
theorem fkm_heard (p1 : Int32) (p2 : Int32) (h0 : PH) {r : Int32 × PH} (hm : mm_heard p1 p2 h0 = some r) : Fk (FKdm_heard p1 p2) r.2 h0 := by
  generalize hSe : FKdm_heard p1 p2 = S
  have hS : ∀ b, b ∈ ([1000, 126] : List Nat) → b ∈ S := by rw [← hSe]; exact fun b hb => hb
  generalize hge : h0 = g at ⊢
  have f : Fk S h0 g := by rw [hge]; exact fun _ _ _ => rfl
  unfold mm_heard at hm
  obtain ⟨h1, e1, hm⟩ := lt_some hm
  replace f : Fk S h1 g := by rw [e1]; exact up_fk4 f (hS _ (by decide))
  obtain ⟨r2, -, hm⟩ := bd_s hm
  rcases ite_or hm with ⟨hc, hm⟩ | ⟨hc, hm⟩
  · cases hm
    exact f
  · obtain ⟨r3, -, hm⟩ := bd_s hm
    rcases ite_or hm with ⟨hc, hm⟩ | ⟨hc, hm⟩
    · cases hm
      exact f
    · obtain ⟨h4, he, hm⟩ := bd_s hm
      replace f := fk_tr f (fkm_findsCosts _ _ _ he) (fun b hb => hS b ((by decide +kernel : ∀ b, b ∈ ([126] : List Nat) → b ∈ ([1000, 126] : List Nat)) b hb))
      exact wk_m_heard_L38 _ _ _ S g _ (fun b hb => hS b ((by decide +kernel : ∀ b, b ∈ ([] : List Nat) → b ∈ ([1000, 126] : List Nat)) b hb)) f _ _ _ hm
def FKdm_ants (p1 : Int32) (p2 : Int32) : List Nat := [1000, 126]
theorem fkm_ants (p1 : Int32) (p2 : Int32) (h0 : PH) {r : Int32 × PH} (hm : mm_ants p1 p2 h0 = some r) : Fk (FKdm_ants p1 p2) r.2 h0 := by
  generalize hSe : FKdm_ants p1 p2 = S
  have hS : ∀ b, b ∈ ([1000, 126] : List Nat) → b ∈ S := by rw [← hSe]; exact fun b hb => hb
  generalize hge : h0 = g at ⊢
  have f : Fk S h0 g := by rw [hge]; exact fun _ _ _ => rfl
  unfold mm_ants at hm
  obtain ⟨h1, e1, hm⟩ := lt_some hm
  replace f : Fk S h1 g := by rw [e1]; exact up_fk4 f (hS _ (by decide))
  obtain ⟨r2, h3, he, hm⟩ := bd2_s hm
  replace f := fk_tr f (fkm_costOf _ _ _ _ he) (fun b hb => hS b ((by decide +kernel : ∀ b, b ∈ ([126] : List Nat) → b ∈ ([1000, 126] : List Nat)) b hb))
  cases hm
  exact f
def FKdm_piece (p1 : Int32) : List Nat := [1000, 1042, 127]
theorem fkm_piece (p1 : Int32) (h0 : PH) {r : Int32 × PH} (hm : mm_piece p1 h0 = some r) : Fk (FKdm_piece p1) r.2 h0 := by
  generalize hSe : FKdm_piece p1 = S
  have hS : ∀ b, b ∈ ([1000, 1042, 127] : List Nat) → b ∈ S := by rw [← hSe]; exact fun b hb => hb
  generalize hge : h0 = g at ⊢
  have f : Fk S h0 g := by rw [hge]; exact fun _ _ _ => rfl
  unfold mm_piece at hm
  obtain ⟨h1, e1, hm⟩ := lt_some hm
  replace f : Fk S h1 g := by rw [e1]; exact up_fk4 f (hS _ (by decide))
  rcases ite_or hm with ⟨hc, hm⟩ | ⟨hc, hm⟩
  · obtain ⟨h2, e1, hm⟩ := lt_some hm
    replace f : Fk S h2 g := by rw [e1]; exact up_fk4 f (hS _ (by decide))
    cases hm
    exact f
  · obtain ⟨r3, -, hm⟩ := bd_s hm
    rcases ite_or hm with ⟨hc, hm⟩ | ⟨hc, hm⟩
    · cases hm
      exact f
    · rcases ite_or hm with ⟨hc, hm⟩ | ⟨hc, hm⟩
      · cases hm
        exact f
      · obtain ⟨-, hm⟩ := ck_s hm
        obtain ⟨h4, e1, hm⟩ := lt_some hm
        replace f : Fk S h4 g := by rw [e1]; exact up_fk f (by decide) (hS _ (by decide))
        obtain ⟨h5, e1, hm⟩ := lt_some hm
        replace f : Fk S h5 g := by rw [e1]; exact up_fk4 f (hS _ (by decide))
        cases hm
        exact f
def FKdm_findsShares : List Nat := [128]
theorem wk_m_findsShares_L43 (p1 : Int32) (p2 : Int32) (h0 : PH) (k0 : Int32 → Option (PH)) (S : List Nat) (g : PH) (r : PH) (hS : ∀ b, b ∈ ([] : List Nat) → b ∈ S) (f : Fk S h0 g) (kk0 : ∀ (y0 : Int32), k0 y0 = some r → Fk S r g) : ∀ (n : Nat) (v3 : Int32) (v4 : Int32), mm_findsShares_L43 p1 p2 h0 k0 n v3 v4 = some r → Fk S r g := by
  intro n
  induction n with
  | zero => intro v3 v4 hm; cases hm
  | succ n ih =>
    intro v3 v4 hm
    unfold mm_findsShares_L43 at hm
    rcases ite_or hm with ⟨hc, hm⟩ | ⟨hc, hm⟩
    · exact kk0 _ hm
    · rcases ite_or hm with ⟨hc, hm⟩ | ⟨hc, hm⟩
      · exact kk0 _ hm
      · obtain ⟨r4, -, hm⟩ := bd_s hm
        obtain ⟨-, hm⟩ := ck_s hm
        obtain ⟨r5, -, hm⟩ := bd_s hm
        obtain ⟨r6, -, hm⟩ := bd_s hm
        exact ih _ _ hm
theorem wk_m_findsShares_L10 (p1 : Int32) (k0 : PH → Option (PH)) (S : List Nat) (g : PH) (r : PH) (hS : ∀ b, b ∈ ([128] : List Nat) → b ∈ S) (kk0 : ∀ (y0 : PH), k0 y0 = some r → Fk S y0 g → Fk S r g) : ∀ (n : Nat) (v2 : Int32) (hv : PH), mm_findsShares_L10 p1 k0 n v2 hv = some r → Fk S hv g → Fk S r g := by
  intro n
  induction n with
  | zero => intro v2 hv hm; cases hm
  | succ n ih =>
    intro v2 hv hm f
    unfold mm_findsShares_L10 at hm
    rcases ite_or hm with ⟨hc, hm⟩ | ⟨hc, hm⟩
    · exact kk0 _ hm f
    · refine v_j1 (fun (x2 : Int32) => Fk S r g) hm (fun x2 hm => ?_) (fun j1 kj1 hm => ?_)
      · obtain ⟨x3, -, hm⟩ := lt_some hm
        refine wk_m_findsShares_L43 _ _ _ _ S g _ (fun b hb => hS b ((by decide +kernel : ∀ b, b ∈ ([] : List Nat) → b ∈ ([128] : List Nat)) b hb)) f (fun x7 hm => ?_) _ _ _ hm
        · obtain ⟨-, hm⟩ := ck_s hm
          obtain ⟨h8, e1, hm⟩ := lt_some hm
          replace f : Fk S h8 g := by rw [e1]; exact up_fk f (by decide) (hS _ (by decide))
          exact ih _ _ hm f
      · rcases ite_or hm with ⟨hc, hm⟩ | ⟨hc, hm⟩
        · rcases ite_or hm with ⟨hc, hm⟩ | ⟨hc, hm⟩
          · exact kj1 _ hm
          · exact kj1 _ hm
        · exact kj1 _ hm
theorem wk_m_findsShares_L2  (S : List Nat) (g : PH) (r : PH) (hS : ∀ b, b ∈ ([128] : List Nat) → b ∈ S) : ∀ (n : Nat) (v1 : Int32) (hv : PH), mm_findsShares_L2  n v1 hv = some r → Fk S hv g → Fk S r g := by
  intro n
  induction n with
  | zero => intro v1 hv hm; cases hm
  | succ n ih =>
    intro v1 hv hm f
    unfold mm_findsShares_L2 at hm
    rcases ite_or hm with ⟨hc, hm⟩ | ⟨hc, hm⟩
    · cases hm
      exact f
    · refine wk_m_findsShares_L10 _ _ S g _ (fun b hb => hS b ((by decide +kernel : ∀ b, b ∈ ([128] : List Nat) → b ∈ ([128] : List Nat)) b hb)) (fun h9 hm f => ?_) _ _ _ hm f
      · exact ih _ _ hm f
theorem fkm_findsShares (h0 : PH) {r : PH} (hm : mm_findsShares h0 = some r) : Fk (FKdm_findsShares ) r h0 := by
  generalize hSe : FKdm_findsShares = S
  have hS : ∀ b, b ∈ ([128] : List Nat) → b ∈ S := by rw [← hSe]; exact fun b hb => hb
  generalize hge : h0 = g at ⊢
  have f : Fk S h0 g := by rw [hge]; exact fun _ _ _ => rfl
  unfold mm_findsShares at hm
  exact wk_m_findsShares_L2 S g _ (fun b hb => hS b ((by decide +kernel : ∀ b, b ∈ ([128] : List Nat) → b ∈ ([128] : List Nat)) b hb)) _ _ _ hm f
def FKdm_plate (p1 : Int32) (p2 : Int32) : List Nat := [1000, 128]
theorem wk_m_plate_L53 (p1 : Int32) (p3 : Int32) (h0 : PH) (S : List Nat) (g : PH) (r : Int32 × PH) (hS : ∀ b, b ∈ ([] : List Nat) → b ∈ S) (f : Fk S h0 g) : ∀ (n : Nat) (v4 : Int32), mm_plate_L53 p1 p3 h0 n v4 = some r → Fk S r.2 g := by
  intro n
  induction n with
  | zero => intro v4 hm; cases hm
  | succ n ih =>
    intro v4 hm
    unfold mm_plate_L53 at hm
    rcases ite_or hm with ⟨hc, hm⟩ | ⟨hc, hm⟩
    · cases hm
      exact f
    · rcases ite_or hm with ⟨hc, hm⟩ | ⟨hc, hm⟩
      · cases hm
        exact f
      · obtain ⟨r6, -, hm⟩ := bd_s hm
        obtain ⟨-, hm⟩ := ck_s hm
        obtain ⟨r7, -, hm⟩ := bd_s hm
        rcases ite_or hm with ⟨hc, hm⟩ | ⟨hc, hm⟩
        · cases hm
          exact f
        · exact ih _ hm
theorem fkm_plate (p1 : Int32) (p2 : Int32) (h0 : PH) {r : Int32 × PH} (hm : mm_plate p1 p2 h0 = some r) : Fk (FKdm_plate p1 p2) r.2 h0 := by
  generalize hSe : FKdm_plate p1 p2 = S
  have hS : ∀ b, b ∈ ([1000, 128] : List Nat) → b ∈ S := by rw [← hSe]; exact fun b hb => hb
  generalize hge : h0 = g at ⊢
  have f : Fk S h0 g := by rw [hge]; exact fun _ _ _ => rfl
  unfold mm_plate at hm
  obtain ⟨h1, e1, hm⟩ := lt_some hm
  replace f : Fk S h1 g := by rw [e1]; exact up_fk4 f (hS _ (by decide))
  obtain ⟨r2, -, hm⟩ := bd_s hm
  rcases ite_or hm with ⟨hc, hm⟩ | ⟨hc, hm⟩
  · cases hm
    exact f
  · obtain ⟨r3, -, hm⟩ := bd_s hm
    rcases ite_or hm with ⟨hc, hm⟩ | ⟨hc, hm⟩
    · cases hm
      exact f
    · obtain ⟨h4, he, hm⟩ := bd_s hm
      replace f := fk_tr f (fkm_findsShares _ he) (fun b hb => hS b ((by decide +kernel : ∀ b, b ∈ ([128] : List Nat) → b ∈ ([1000, 128] : List Nat)) b hb))
      obtain ⟨-, hm⟩ := ck_s hm
      obtain ⟨x5, -, hm⟩ := lt_some hm
      rcases ite_or hm with ⟨hc, hm⟩ | ⟨hc, hm⟩
      · cases hm
        exact f
      · exact wk_m_plate_L53 _ _ _ S g _ (fun b hb => hS b ((by decide +kernel : ∀ b, b ∈ ([] : List Nat) → b ∈ ([1000, 128] : List Nat)) b hb)) f _ _ hm
def FKdm_dough (p1 : Int32) : List Nat := [1000, 1045, 129]
theorem fkm_dough (p1 : Int32) (h0 : PH) {r : Int32 × PH} (hm : mm_dough p1 h0 = some r) : Fk (FKdm_dough p1) r.2 h0 := by
  generalize hSe : FKdm_dough p1 = S
  have hS : ∀ b, b ∈ ([1000, 1045, 129] : List Nat) → b ∈ S := by rw [← hSe]; exact fun b hb => hb
  generalize hge : h0 = g at ⊢
  have f : Fk S h0 g := by rw [hge]; exact fun _ _ _ => rfl
  unfold mm_dough at hm
  obtain ⟨h1, e1, hm⟩ := lt_some hm
  replace f : Fk S h1 g := by rw [e1]; exact up_fk4 f (hS _ (by decide))
  rcases ite_or hm with ⟨hc, hm⟩ | ⟨hc, hm⟩
  · obtain ⟨h2, e1, hm⟩ := lt_some hm
    replace f : Fk S h2 g := by rw [e1]; exact up_fk4 f (hS _ (by decide))
    cases hm
    exact f
  · obtain ⟨r3, -, hm⟩ := bd_s hm
    rcases ite_or hm with ⟨hc, hm⟩ | ⟨hc, hm⟩
    · cases hm
      exact f
    · rcases ite_or hm with ⟨hc, hm⟩ | ⟨hc, hm⟩
      · cases hm
        exact f
      · obtain ⟨-, hm⟩ := ck_s hm
        obtain ⟨h4, e1, hm⟩ := lt_some hm
        replace f : Fk S h4 g := by rw [e1]; exact up_fk f (by decide) (hS _ (by decide))
        obtain ⟨h5, e1, hm⟩ := lt_some hm
        replace f : Fk S h5 g := by rw [e1]; exact up_fk4 f (hS _ (by decide))
        cases hm
        exact f
def FKdm_fewestPans (p1 : Int32) : List Nat := [130]
theorem wk_m_fewestPans_L30 (p1 : Int32) (p2 : Int32) (k0 : PH → Option (Int32 × PH)) (S : List Nat) (g : PH) (r : Int32 × PH) (hS : ∀ b, b ∈ ([130] : List Nat) → b ∈ S) (kk0 : ∀ (y0 : PH), k0 y0 = some r → Fk S y0 g → Fk S r.2 g) : ∀ (n : Nat) (v3 : Int32) (hv : PH), mm_fewestPans_L30 p1 p2 k0 n v3 hv = some r → Fk S hv g → Fk S r.2 g := by
  intro n
  induction n with
  | zero => intro v3 hv hm; cases hm
  | succ n ih =>
    intro v3 hv hm f
    unfold mm_fewestPans_L30 at hm
    rcases ite_or hm with ⟨hc, hm⟩ | ⟨hc, hm⟩
    · exact kk0 _ hm f
    · obtain ⟨r3, -, hm⟩ := bd_s hm
      rcases ite_or hm with ⟨hc, hm⟩ | ⟨hc, hm⟩
      · exact ih _ _ hm f
      · obtain ⟨-, hm⟩ := ck_s hm
        obtain ⟨-, hm⟩ := ck_s hm
        obtain ⟨-, hm⟩ := ck_s hm
        obtain ⟨r4, -, hm⟩ := bd_s hm
        obtain ⟨r5, -, hm⟩ := bd_s hm
        obtain ⟨-, hm⟩ := ck_s hm
        obtain ⟨h6, e1, hm⟩ := lt_some hm
        replace f : Fk S h6 g := by rw [e1]; exact up_fk f (by decide) (hS _ (by decide))
        exact ih _ _ hm f
theorem wk_m_fewestPans_L9 (p1 : Int32) (k0 : PH → Option (Int32 × PH)) (S : List Nat) (g : PH) (r : Int32 × PH) (hS : ∀ b, b ∈ ([130] : List Nat) → b ∈ S) (kk0 : ∀ (y0 : PH), k0 y0 = some r → Fk S y0 g → Fk S r.2 g) : ∀ (n : Nat) (v2 : Int32) (hv : PH), mm_fewestPans_L9 p1 k0 n v2 hv = some r → Fk S hv g → Fk S r.2 g := by
  intro n
  induction n with
  | zero => intro v2 hv hm; cases hm
  | succ n ih =>
    intro v2 hv hm f
    unfold mm_fewestPans_L9 at hm
    rcases ite_or hm with ⟨hc, hm⟩ | ⟨hc, hm⟩
    · exact kk0 _ hm f
    · obtain ⟨-, hm⟩ := ck_s hm
      obtain ⟨h2, e1, hm⟩ := lt_some hm
      replace f : Fk S h2 g := by rw [e1]; exact up_fk f (by decide) (hS _ (by decide))
      refine wk_m_fewestPans_L30 _ _ _ S g _ (fun b hb => hS b ((by decide +kernel : ∀ b, b ∈ ([130] : List Nat) → b ∈ ([130] : List Nat)) b hb)) (fun h7 hm f => ?_) _ _ _ hm f
      · exact ih _ _ hm f
theorem fkm_fewestPans (p1 : Int32) (h0 : PH) {r : Int32 × PH} (hm : mm_fewestPans p1 h0 = some r) : Fk (FKdm_fewestPans p1) r.2 h0 := by
  generalize hSe : FKdm_fewestPans p1 = S
  have hS : ∀ b, b ∈ ([130] : List Nat) → b ∈ S := by rw [← hSe]; exact fun b hb => hb
  generalize hge : h0 = g at ⊢
  have f : Fk S h0 g := by rw [hge]; exact fun _ _ _ => rfl
  unfold mm_fewestPans at hm
  obtain ⟨-, hm⟩ := ck_s hm
  obtain ⟨h1, e1, hm⟩ := lt_some hm
  replace f : Fk S h1 g := by rw [e1]; exact up_fk f (by decide) (hS _ (by decide))
  refine wk_m_fewestPans_L9 _ _ S g _ (fun b hb => hS b ((by decide +kernel : ∀ b, b ∈ ([130] : List Nat) → b ∈ ([130] : List Nat)) b hb)) (fun h8 hm f => ?_) _ _ _ hm f
  · obtain ⟨-, hm⟩ := ck_s hm
    obtain ⟨-, hm⟩ := dz_s hm
    cases hm
    exact f
def FKdm_firstPans (p1 : Int32) : List Nat := [131]
theorem wk_m_firstPans_L15 (p1 : Int32) (p2 : Int32) (p3 : Int32) (h0 : PH) (k0 : Int32 → Option (Int32 × PH)) (S : List Nat) (g : PH) (r : Int32 × PH) (hS : ∀ b, b ∈ ([] : List Nat) → b ∈ S) (f : Fk S h0 g) (kk0 : ∀ (y0 : Int32), k0 y0 = some r → Fk S r.2 g) : ∀ (n : Nat) (v4 : Int32), mm_firstPans_L15 p1 p2 p3 h0 k0 n v4 = some r → Fk S r.2 g := by
  intro n
  induction n with
  | zero => intro v4 hm; cases hm
  | succ n ih =>
    intro v4 hm
    unfold mm_firstPans_L15 at hm
    rcases ite_or hm with ⟨hc, hm⟩ | ⟨hc, hm⟩
    · exact kk0 _ hm
    · obtain ⟨-, hm⟩ := ck_s hm
      obtain ⟨-, hm⟩ := ck_s hm
      rcases ite_or hm with ⟨hc, hm⟩ | ⟨hc, hm⟩
      · exact kk0 _ hm
      · obtain ⟨x1, -, hm⟩ := lt_some hm
        exact ih _ hm
theorem wk_m_firstPans_L4 (p1 : Int32) (S : List Nat) (g : PH) (r : Int32 × PH) (hS : ∀ b, b ∈ ([131] : List Nat) → b ∈ S) : ∀ (n : Nat) (v2 : Int32) (v3 : Int32) (hv : PH), mm_firstPans_L4 p1 n v2 v3 hv = some r → Fk S hv g → Fk S r.2 g := by
  intro n
  induction n with
  | zero => intro v2 v3 hv hm; cases hm
  | succ n ih =>
    intro v2 v3 hv hm f
    unfold mm_firstPans_L4 at hm
    rcases ite_or hm with ⟨hc, hm⟩ | ⟨hc, hm⟩
    · cases hm
      exact f
    · refine wk_m_firstPans_L15 _ _ _ _ _ S g _ (fun b hb => hS b ((by decide +kernel : ∀ b, b ∈ ([] : List Nat) → b ∈ ([131] : List Nat)) b hb)) f (fun x2 hm => ?_) _ _ hm
      · refine v_j2 (fun (x4 : Int32) (h5 : PH) => Fk S h5 g → Fk S r.2 g) hm (fun x4 h5 hm f => ?_) (fun j3 kj3 hm => ?_)
        · obtain ⟨-, hm⟩ := ck_s hm
          obtain ⟨-, hm⟩ := ck_s hm
          obtain ⟨-, hm⟩ := ck_s hm
          obtain ⟨h6, e1, hm⟩ := lt_some hm
          replace f : Fk S h6 g := by rw [e1]; exact up_fk f (by decide) (hS _ (by decide))
          exact ih _ _ _ hm f
        · rcases ite_or hm with ⟨hc, hm⟩ | ⟨hc, hm⟩
          · obtain ⟨-, hm⟩ := ck_s hm
            obtain ⟨h7, e1, hm⟩ := lt_some hm
            replace f : Fk S h7 g := by rw [e1]; exact up_fk f (by decide) (hS _ (by decide))
            obtain ⟨x8, -, hm⟩ := lt_some hm
            exact kj3 _ _ hm f
          · exact kj3 _ _ hm f
theorem fkm_firstPans (p1 : Int32) (h0 : PH) {r : Int32 × PH} (hm : mm_firstPans p1 h0 = some r) : Fk (FKdm_firstPans p1) r.2 h0 := by
  generalize hSe : FKdm_firstPans p1 = S
  have hS : ∀ b, b ∈ ([131] : List Nat) → b ∈ S := by rw [← hSe]; exact fun b hb => hb
  generalize hge : h0 = g at ⊢
  have f : Fk S h0 g := by rw [hge]; exact fun _ _ _ => rfl
  unfold mm_firstPans at hm
  exact wk_m_firstPans_L4 _ S g _ (fun b hb => hS b ((by decide +kernel : ∀ b, b ∈ ([131] : List Nat) → b ∈ ([131] : List Nat)) b hb)) _ _ _ _ hm f
def FKdm_pans (p1 : Int32) (p2 : Int32) : List Nat := [1000, 130, 131]
theorem wk_m_pans_L30 (p1 : Int32) (p2 : Int32) (h0 : PH) (k0 : Option (Int32 × PH)) (S : List Nat) (g : PH) (r : Int32 × PH) (hS : ∀ b, b ∈ ([] : List Nat) → b ∈ S) (f : Fk S h0 g) (kk0 : k0 = some r → Fk S r.2 g) : ∀ (n : Nat) (v3 : Int32), mm_pans_L30 p1 p2 h0 k0 n v3 = some r → Fk S r.2 g := by
  intro n
  induction n with
  | zero => intro v3 hm; cases hm
  | succ n ih =>
    intro v3 hm
    unfold mm_pans_L30 at hm
    rcases ite_or hm with ⟨hc, hm⟩ | ⟨hc, hm⟩
    · exact kk0 hm
    · obtain ⟨-, hm⟩ := ck_s hm
      rcases ite_or hm with ⟨hc, hm⟩ | ⟨hc, hm⟩
      · exact ih _ hm
      · cases hm
        exact f
theorem fkm_pans (p1 : Int32) (p2 : Int32) (h0 : PH) {r : Int32 × PH} (hm : mm_pans p1 p2 h0 = some r) : Fk (FKdm_pans p1 p2) r.2 h0 := by
  generalize hSe : FKdm_pans p1 p2 = S
  have hS : ∀ b, b ∈ ([1000, 130, 131] : List Nat) → b ∈ S := by rw [← hSe]; exact fun b hb => hb
  generalize hge : h0 = g at ⊢
  have f : Fk S h0 g := by rw [hge]; exact fun _ _ _ => rfl
  unfold mm_pans at hm
  obtain ⟨h1, e1, hm⟩ := lt_some hm
  replace f : Fk S h1 g := by rw [e1]; exact up_fk4 f (hS _ (by decide))
  obtain ⟨r2, -, hm⟩ := bd_s hm
  rcases ite_or hm with ⟨hc, hm⟩ | ⟨hc, hm⟩
  · cases hm
    exact f
  · obtain ⟨r3, -, hm⟩ := bd_s hm
    rcases ite_or hm with ⟨hc, hm⟩ | ⟨hc, hm⟩
    · cases hm
      exact f
    · refine wk_m_pans_L30 _ _ _ _ S g _ (fun b hb => hS b ((by decide +kernel : ∀ b, b ∈ ([] : List Nat) → b ∈ ([1000, 130, 131] : List Nat)) b hb)) f (fun hm => ?_) _ _ hm
      · rcases ite_or hm with ⟨hc, hm⟩ | ⟨hc, hm⟩
        · obtain ⟨r4, h5, he, hm⟩ := bd2_s hm
          replace f := fk_tr f (fkm_fewestPans _ _ he) (fun b hb => hS b ((by decide +kernel : ∀ b, b ∈ ([130] : List Nat) → b ∈ ([1000, 130, 131] : List Nat)) b hb))
          cases hm
          exact f
        · obtain ⟨r6, h7, he, hm⟩ := bd2_s hm
          replace f := fk_tr f (fkm_firstPans _ _ he) (fun b hb => hS b ((by decide +kernel : ∀ b, b ∈ ([131] : List Nat) → b ∈ ([1000, 130, 131] : List Nat)) b hb))
          cases hm
          exact f
def FKdm_mortgage (p1 : Int32) (p2 : Int32) (p3 : Int32) (p4 : Int32) : List Nat := [1000]
theorem wk_m_mortgage_L62 (p2 : Int32) (p3 : Int32) (p4 : Int32) (h0 : PH) (k0 : Int32 → Int32 → Option (Int32 × PH)) (S : List Nat) (g : PH) (r : Int32 × PH) (hS : ∀ b, b ∈ ([] : List Nat) → b ∈ S) (f : Fk S h0 g) (kk0 : ∀ (y0 : Int32) (y1 : Int32), k0 y0 y1 = some r → Fk S r.2 g) : ∀ (n : Nat) (v5 : Int32) (v6 : Int32) (v7 : Int32), mm_mortgage_L62 p2 p3 p4 h0 k0 n v5 v6 v7 = some r → Fk S r.2 g := by
  intro n
  induction n with
  | zero => intro v5 v6 v7 hm; cases hm
  | succ n ih =>
    intro v5 v6 v7 hm
    unfold mm_mortgage_L62 at hm
    rcases ite_or hm with ⟨hc, hm⟩ | ⟨hc, hm⟩
    · cases hm
      exact f
    · obtain ⟨-, hm⟩ := dz_s hm
      obtain ⟨x6, -, hm⟩ := lt_some hm
      obtain ⟨r7, -, hm⟩ := bd_s hm
      obtain ⟨x8, -, hm⟩ := lt_some hm
      rcases ite_or hm with ⟨hc, hm⟩ | ⟨hc, hm⟩
      · exact kk0 _ _ hm
      · rcases ite_or hm with ⟨hc, hm⟩ | ⟨hc, hm⟩
        · obtain ⟨x9, -, hm⟩ := lt_some hm
          exact ih _ _ _ hm
        · cases hm
          exact f
theorem fkm_mortgage (p1 : Int32) (p2 : Int32) (p3 : Int32) (p4 : Int32) (h0 : PH) {r : Int32 × PH} (hm : mm_mortgage p1 p2 p3 p4 h0 = some r) : Fk (FKdm_mortgage p1 p2 p3 p4) r.2 h0 := by
  generalize hSe : FKdm_mortgage p1 p2 p3 p4 = S
  have hS : ∀ b, b ∈ ([1000] : List Nat) → b ∈ S := by rw [← hSe]; exact fun b hb => hb
  generalize hge : h0 = g at ⊢
  have f : Fk S h0 g := by rw [hge]; exact fun _ _ _ => rfl
  unfold mm_mortgage at hm
  obtain ⟨h1, e1, hm⟩ := lt_some hm
  replace f : Fk S h1 g := by rw [e1]; exact up_fk4 f (hS _ (by decide))
  obtain ⟨r2, -, hm⟩ := bd_s hm
  rcases ite_or hm with ⟨hc, hm⟩ | ⟨hc, hm⟩
  · cases hm
    exact f
  · obtain ⟨r3, -, hm⟩ := bd_s hm
    rcases ite_or hm with ⟨hc, hm⟩ | ⟨hc, hm⟩
    · cases hm
      exact f
    · obtain ⟨r4, -, hm⟩ := bd_s hm
      rcases ite_or hm with ⟨hc, hm⟩ | ⟨hc, hm⟩
      · cases hm
        exact f
      · obtain ⟨r5, -, hm⟩ := bd_s hm
        rcases ite_or hm with ⟨hc, hm⟩ | ⟨hc, hm⟩
        · cases hm
          exact f
        · refine wk_m_mortgage_L62 _ _ _ _ _ S g _ (fun b hb => hS b ((by decide +kernel : ∀ b, b ∈ ([] : List Nat) → b ∈ ([1000] : List Nat)) b hb)) f (fun x10 x11 hm => ?_) _ _ _ _ hm
          · rcases ite_or hm with ⟨hc, hm⟩ | ⟨hc, hm⟩
            · cases hm
              exact f
            · cases hm
              exact f
def FKdm_mark (p1 : Int32) : List Nat := [1000, 1049, 132]
theorem fkm_mark (p1 : Int32) (h0 : PH) {r : Int32 × PH} (hm : mm_mark p1 h0 = some r) : Fk (FKdm_mark p1) r.2 h0 := by
  generalize hSe : FKdm_mark p1 = S
  have hS : ∀ b, b ∈ ([1000, 1049, 132] : List Nat) → b ∈ S := by rw [← hSe]; exact fun b hb => hb
  generalize hge : h0 = g at ⊢
  have f : Fk S h0 g := by rw [hge]; exact fun _ _ _ => rfl
  unfold mm_mark at hm
  obtain ⟨h1, e1, hm⟩ := lt_some hm
  replace f : Fk S h1 g := by rw [e1]; exact up_fk4 f (hS _ (by decide))
  rcases ite_or hm with ⟨hc, hm⟩ | ⟨hc, hm⟩
  · obtain ⟨h2, e1, hm⟩ := lt_some hm
    replace f : Fk S h2 g := by rw [e1]; exact up_fk4 f (hS _ (by decide))
    cases hm
    exact f
  · obtain ⟨r3, -, hm⟩ := bd_s hm
    rcases ite_or hm with ⟨hc, hm⟩ | ⟨hc, hm⟩
    · cases hm
      exact f
    · rcases ite_or hm with ⟨hc, hm⟩ | ⟨hc, hm⟩
      · cases hm
        exact f
      · obtain ⟨-, hm⟩ := ck_s hm
        obtain ⟨h4, e1, hm⟩ := lt_some hm
        replace f : Fk S h4 g := by rw [e1]; exact up_fk f (by decide) (hS _ (by decide))
        obtain ⟨h5, e1, hm⟩ := lt_some hm
        replace f : Fk S h5 g := by rw [e1]; exact up_fk4 f (hS _ (by decide))
        cases hm
        exact f
def FKdm_measures (p1 : Int32) : List Nat := [1000]
theorem wk_m_measures_L21 (p1 : Int32) (h0 : PH) (k0 : Int32 → Option (Int32 × PH)) (S : List Nat) (g : PH) (r : Int32 × PH) (hS : ∀ b, b ∈ ([] : List Nat) → b ∈ S) (f : Fk S h0 g) (kk0 : ∀ (y0 : Int32), k0 y0 = some r → Fk S r.2 g) : ∀ (n : Nat) (v2 : Int32) (v3 : Int32), mm_measures_L21 p1 h0 k0 n v2 v3 = some r → Fk S r.2 g := by
  intro n
  induction n with
  | zero => intro v2 v3 hm; cases hm
  | succ n ih =>
    intro v2 v3 hm
    unfold mm_measures_L21 at hm
    rcases ite_or hm with ⟨hc, hm⟩ | ⟨hc, hm⟩
    · exact kk0 _ hm
    · obtain ⟨r3, -, hm⟩ := bd_s hm
      rcases ite_or hm with ⟨hc, hm⟩ | ⟨hc, hm⟩
      · rcases ite_or hm with ⟨hc, hm⟩ | ⟨hc, hm⟩
        · cases hm
          exact f
        · exact ih _ _ hm
      · obtain ⟨x4, -, hm⟩ := lt_some hm
        exact ih _ _ hm
theorem fkm_measures (p1 : Int32) (h0 : PH) {r : Int32 × PH} (hm : mm_measures p1 h0 = some r) : Fk (FKdm_measures p1) r.2 h0 := by
  generalize hSe : FKdm_measures p1 = S
  have hS : ∀ b, b ∈ ([1000] : List Nat) → b ∈ S := by rw [← hSe]; exact fun b hb => hb
  generalize hge : h0 = g at ⊢
  have f : Fk S h0 g := by rw [hge]; exact fun _ _ _ => rfl
  unfold mm_measures at hm
  obtain ⟨h1, e1, hm⟩ := lt_some hm
  replace f : Fk S h1 g := by rw [e1]; exact up_fk4 f (hS _ (by decide))
  obtain ⟨r2, -, hm⟩ := bd_s hm
  rcases ite_or hm with ⟨hc, hm⟩ | ⟨hc, hm⟩
  · cases hm
    exact f
  · refine wk_m_measures_L21 _ _ _ S g _ (fun b hb => hS b ((by decide +kernel : ∀ b, b ∈ ([] : List Nat) → b ∈ ([1000] : List Nat)) b hb)) f (fun x5 hm => ?_) _ _ _ hm
    · rcases ite_or hm with ⟨hc, hm⟩ | ⟨hc, hm⟩
      · cases hm
        exact f
      · cases hm
        exact f
def FKdm_bite (p1 : Int32) (p2 : Int32) : List Nat := [1000, 1051, 133, 134]
theorem fkm_bite (p1 : Int32) (p2 : Int32) (h0 : PH) {r : Int32 × PH} (hm : mm_bite p1 p2 h0 = some r) : Fk (FKdm_bite p1 p2) r.2 h0 := by
  generalize hSe : FKdm_bite p1 p2 = S
  have hS : ∀ b, b ∈ ([1000, 1051, 133, 134] : List Nat) → b ∈ S := by rw [← hSe]; exact fun b hb => hb
  generalize hge : h0 = g at ⊢
  have f : Fk S h0 g := by rw [hge]; exact fun _ _ _ => rfl
  unfold mm_bite at hm
  obtain ⟨h1, e1, hm⟩ := lt_some hm
  replace f : Fk S h1 g := by rw [e1]; exact up_fk4 f (hS _ (by decide))
  rcases ite_or hm with ⟨hc, hm⟩ | ⟨hc, hm⟩
  · obtain ⟨h2, e1, hm⟩ := lt_some hm
    replace f : Fk S h2 g := by rw [e1]; exact up_fk4 f (hS _ (by decide))
    cases hm
    exact f
  · obtain ⟨r3, -, hm⟩ := bd_s hm
    rcases ite_or hm with ⟨hc, hm⟩ | ⟨hc, hm⟩
    · cases hm
      exact f
    · obtain ⟨r4, -, hm⟩ := bd_s hm
      rcases ite_or hm with ⟨hc, hm⟩ | ⟨hc, hm⟩
      · cases hm
        exact f
      · rcases ite_or hm with ⟨hc, hm⟩ | ⟨hc, hm⟩
        · cases hm
          exact f
        · obtain ⟨-, hm⟩ := ck_s hm
          obtain ⟨h5, e1, hm⟩ := lt_some hm
          replace f : Fk S h5 g := by rw [e1]; exact up_fk f (by decide) (hS _ (by decide))
          obtain ⟨-, hm⟩ := ck_s hm
          obtain ⟨h6, e1, hm⟩ := lt_some hm
          replace f : Fk S h6 g := by rw [e1]; exact up_fk f (by decide) (hS _ (by decide))
          obtain ⟨h7, e1, hm⟩ := lt_some hm
          replace f : Fk S h7 g := by rw [e1]; exact up_fk4 f (hS _ (by decide))
          cases hm
          exact f
def FKdm_whose (p1 : Int32) (p2 : Int32) : List Nat := [1000]
theorem wk_m_whose_L35 (p1 : Int32) (p2 : Int32) (h0 : PH) (S : List Nat) (g : PH) (r : Int32 × PH) (hS : ∀ b, b ∈ ([] : List Nat) → b ∈ S) (f : Fk S h0 g) : ∀ (n : Nat) (v3 : Int32) (v4 : Int32), mm_whose_L35 p1 p2 h0 n v3 v4 = some r → Fk S r.2 g := by
  intro n
  induction n with
  | zero => intro v3 v4 hm; cases hm
  | succ n ih =>
    intro v3 v4 hm
    unfold mm_whose_L35 at hm
    rcases ite_or hm with ⟨hc, hm⟩ | ⟨hc, hm⟩
    · cases hm
      exact f
    · obtain ⟨-, hm⟩ := ck_s hm
      rcases ite_or hm with ⟨hc, hm⟩ | ⟨hc, hm⟩
      · obtain ⟨-, hm⟩ := ck_s hm
        rcases ite_or hm with ⟨hc, hm⟩ | ⟨hc, hm⟩
        · exact ih _ _ hm
        · obtain ⟨x4, -, hm⟩ := lt_some hm
          exact ih _ _ hm
      · exact ih _ _ hm
theorem fkm_whose (p1 : Int32) (p2 : Int32) (h0 : PH) {r : Int32 × PH} (hm : mm_whose p1 p2 h0 = some r) : Fk (FKdm_whose p1 p2) r.2 h0 := by
  generalize hSe : FKdm_whose p1 p2 = S
  have hS : ∀ b, b ∈ ([1000] : List Nat) → b ∈ S := by rw [← hSe]; exact fun b hb => hb
  generalize hge : h0 = g at ⊢
  have f : Fk S h0 g := by rw [hge]; exact fun _ _ _ => rfl
  unfold mm_whose at hm
  obtain ⟨h1, e1, hm⟩ := lt_some hm
  replace f : Fk S h1 g := by rw [e1]; exact up_fk4 f (hS _ (by decide))
  obtain ⟨r2, -, hm⟩ := bd_s hm
  rcases ite_or hm with ⟨hc, hm⟩ | ⟨hc, hm⟩
  · cases hm
    exact f
  · obtain ⟨r3, -, hm⟩ := bd_s hm
    rcases ite_or hm with ⟨hc, hm⟩ | ⟨hc, hm⟩
    · cases hm
      exact f
    · exact wk_m_whose_L35 _ _ _ S g _ (fun b hb => hS b ((by decide +kernel : ∀ b, b ∈ ([] : List Nat) → b ∈ ([1000] : List Nat)) b hb)) f _ _ _ hm
def FKdm_crumb (p1 : Int32) : List Nat := [1000, 1054, 135]
theorem fkm_crumb (p1 : Int32) (h0 : PH) {r : Int32 × PH} (hm : mm_crumb p1 h0 = some r) : Fk (FKdm_crumb p1) r.2 h0 := by
  generalize hSe : FKdm_crumb p1 = S
  have hS : ∀ b, b ∈ ([1000, 1054, 135] : List Nat) → b ∈ S := by rw [← hSe]; exact fun b hb => hb
  generalize hge : h0 = g at ⊢
  have f : Fk S h0 g := by rw [hge]; exact fun _ _ _ => rfl
  unfold mm_crumb at hm
  obtain ⟨h1, e1, hm⟩ := lt_some hm
  replace f : Fk S h1 g := by rw [e1]; exact up_fk4 f (hS _ (by decide))
  rcases ite_or hm with ⟨hc, hm⟩ | ⟨hc, hm⟩
  · obtain ⟨h2, e1, hm⟩ := lt_some hm
    replace f : Fk S h2 g := by rw [e1]; exact up_fk4 f (hS _ (by decide))
    cases hm
    exact f
  · obtain ⟨r3, -, hm⟩ := bd_s hm
    rcases ite_or hm with ⟨hc, hm⟩ | ⟨hc, hm⟩
    · cases hm
      exact f
    · rcases ite_or hm with ⟨hc, hm⟩ | ⟨hc, hm⟩
      · cases hm
        exact f
      · obtain ⟨-, hm⟩ := ck_s hm
        obtain ⟨h4, e1, hm⟩ := lt_some hm
        replace f : Fk S h4 g := by rw [e1]; exact up_fk f (by decide) (hS _ (by decide))
        obtain ⟨h5, e1, hm⟩ := lt_some hm
        replace f : Fk S h5 g := by rw [e1]; exact up_fk4 f (hS _ (by decide))
        cases hm
        exact f
def FKdm_crumbs (p1 : Int32) : List Nat := [1000, 136]
theorem wk_m_crumbs_L19 (p1 : Int32) (k0 : PH → Option (Int32 × PH)) (S : List Nat) (g : PH) (r : Int32 × PH) (hS : ∀ b, b ∈ ([136] : List Nat) → b ∈ S) (kk0 : ∀ (y0 : PH), k0 y0 = some r → Fk S y0 g → Fk S r.2 g) : ∀ (n : Nat) (v2 : Int32) (hv : PH), mm_crumbs_L19 p1 k0 n v2 hv = some r → Fk S hv g → Fk S r.2 g := by
  intro n
  induction n with
  | zero => intro v2 hv hm; cases hm
  | succ n ih =>
    intro v2 hv hm f
    unfold mm_crumbs_L19 at hm
    rcases ite_or hm with ⟨hc, hm⟩ | ⟨hc, hm⟩
    · exact kk0 _ hm f
    · obtain ⟨-, hm⟩ := ck_s hm
      obtain ⟨h3, e1, hm⟩ := lt_some hm
      replace f : Fk S h3 g := by rw [e1]; exact up_fk f (by decide) (hS _ (by decide))
      exact ih _ _ hm f
theorem wk_m_crumbs_L55 (p1 : Int32) (k0 : Int32 → Int32 → PH → Option (Int32 × PH)) (S : List Nat) (g : PH) (r : Int32 × PH) (hS : ∀ b, b ∈ ([136] : List Nat) → b ∈ S) (kk0 : ∀ (y0 : Int32) (y1 : Int32) (y2 : PH), k0 y0 y1 y2 = some r → Fk S y2 g → Fk S r.2 g) : ∀ (n : Nat) (v2 : Int32) (v3 : Int32) (v4 : Int32) (hv : PH), mm_crumbs_L55 p1 k0 n v2 v3 v4 hv = some r → Fk S hv g → Fk S r.2 g := by
  intro n
  induction n with
  | zero => intro v2 v3 v4 hv hm; cases hm
  | succ n ih =>
    intro v2 v3 v4 hv hm f
    unfold mm_crumbs_L55 at hm
    rcases ite_or hm with ⟨hc, hm⟩ | ⟨hc, hm⟩
    · exact kk0 _ _ _ hm f
    · obtain ⟨-, hm⟩ := ck_s hm
      refine v_j2 (fun (x7 : Int32) (x8 : Int32) => Fk S r.2 g) hm (fun x7 x8 hm => ?_) (fun j6 kj6 hm => ?_)
      · obtain ⟨x9, -, hm⟩ := lt_some hm
        obtain ⟨-, hm⟩ := ck_s hm
        obtain ⟨-, hm⟩ := ck_s hm
        obtain ⟨h10, e1, hm⟩ := lt_some hm
        replace f : Fk S h10 g := by rw [e1]; exact up_fk f (by decide) (hS _ (by decide))
        exact ih _ _ _ _ hm f
      · refine v_j0 (Fk S r.2 g) hm (fun hm => ?_) (fun j11 kj11 hm => ?_)
        · obtain ⟨-, hm⟩ := ck_s hm
          rcases ite_or hm with ⟨hc, hm⟩ | ⟨hc, hm⟩
          · obtain ⟨x12, -, hm⟩ := lt_some hm
            exact kj6 _ _ hm
          · obtain ⟨x13, -, hm⟩ := lt_some hm
            exact kj6 _ _ hm
        · rcases ite_or hm with ⟨hc, hm⟩ | ⟨hc, hm⟩
          · exact kj11 hm
          · obtain ⟨-, hm⟩ := ck_s hm
            rcases ite_or hm with ⟨hc, hm⟩ | ⟨hc, hm⟩
            · exact kj11 hm
            · obtain ⟨-, hm⟩ := ck_s hm
              rcases ite_or hm with ⟨hc, hm⟩ | ⟨hc, hm⟩
              · obtain ⟨x14, -, hm⟩ := lt_some hm
                exact kj6 _ _ hm
              · obtain ⟨x15, -, hm⟩ := lt_some hm
                exact kj6 _ _ hm
theorem wk_m_crumbs_L185 (h0 : PH) (S : List Nat) (g : PH) (r : Int32 × PH) (hS : ∀ b, b ∈ ([] : List Nat) → b ∈ S) (f : Fk S h0 g) : ∀ (n : Nat) (v4 : Int32) (v5 : Int32), mm_crumbs_L185 h0 n v4 v5 = some r → Fk S r.2 g := by
  intro n
  induction n with
  | zero => intro v4 v5 hm; cases hm
  | succ n ih =>
    intro v4 v5 hm
    unfold mm_crumbs_L185 at hm
    rcases ite_or hm with ⟨hc, hm⟩ | ⟨hc, hm⟩
    · cases hm
      exact f
    · obtain ⟨-, hm⟩ := ck_s hm
      rcases ite_or hm with ⟨hc, hm⟩ | ⟨hc, hm⟩
      · exact ih _ _ hm
      · obtain ⟨x21, -, hm⟩ := lt_some hm
        exact ih _ _ hm
theorem fkm_crumbs (p1 : Int32) (h0 : PH) {r : Int32 × PH} (hm : mm_crumbs p1 h0 = some r) : Fk (FKdm_crumbs p1) r.2 h0 := by
  generalize hSe : FKdm_crumbs p1 = S
  have hS : ∀ b, b ∈ ([1000, 136] : List Nat) → b ∈ S := by rw [← hSe]; exact fun b hb => hb
  generalize hge : h0 = g at ⊢
  have f : Fk S h0 g := by rw [hge]; exact fun _ _ _ => rfl
  unfold mm_crumbs at hm
  obtain ⟨h1, e1, hm⟩ := lt_some hm
  replace f : Fk S h1 g := by rw [e1]; exact up_fk4 f (hS _ (by decide))
  obtain ⟨r2, -, hm⟩ := bd_s hm
  rcases ite_or hm with ⟨hc, hm⟩ | ⟨hc, hm⟩
  · cases hm
    exact f
  · refine wk_m_crumbs_L19 _ _ S g _ (fun b hb => hS b ((by decide +kernel : ∀ b, b ∈ ([136] : List Nat) → b ∈ ([1000, 136] : List Nat)) b hb)) (fun h4 hm f => ?_) _ _ _ hm f
    · obtain ⟨-, hm⟩ := ck_s hm
      obtain ⟨h5, e1, hm⟩ := lt_some hm
      replace f : Fk S h5 g := by rw [e1]; exact up_fk f (by decide) (hS _ (by decide))
      refine wk_m_crumbs_L55 _ _ S g _ (fun b hb => hS b ((by decide +kernel : ∀ b, b ∈ ([136] : List Nat) → b ∈ ([1000, 136] : List Nat)) b hb)) (fun x16 x17 h18 hm f => ?_) _ _ _ _ _ hm f
      · rcases ite_or hm with ⟨hc, hm⟩ | ⟨hc, hm⟩
        · obtain ⟨r19, -, hm⟩ := bd_s hm
          obtain ⟨r20, -, hm⟩ := bd_s hm
          cases hm
          exact f
        · exact wk_m_crumbs_L185 _ S g _ (fun b hb => hS b ((by decide +kernel : ∀ b, b ∈ ([] : List Nat) → b ∈ ([1000, 136] : List Nat)) b hb)) f _ _ _ hm
def FKdm_loaf (p1 : Int32) (p2 : Int32) : List Nat := [1000, 1057, 137, 138]
theorem fkm_loaf (p1 : Int32) (p2 : Int32) (h0 : PH) {r : Int32 × PH} (hm : mm_loaf p1 p2 h0 = some r) : Fk (FKdm_loaf p1 p2) r.2 h0 := by
  generalize hSe : FKdm_loaf p1 p2 = S
  have hS : ∀ b, b ∈ ([1000, 1057, 137, 138] : List Nat) → b ∈ S := by rw [← hSe]; exact fun b hb => hb
  generalize hge : h0 = g at ⊢
  have f : Fk S h0 g := by rw [hge]; exact fun _ _ _ => rfl
  unfold mm_loaf at hm
  obtain ⟨h1, e1, hm⟩ := lt_some hm
  replace f : Fk S h1 g := by rw [e1]; exact up_fk4 f (hS _ (by decide))
  rcases ite_or hm with ⟨hc, hm⟩ | ⟨hc, hm⟩
  · obtain ⟨h2, e1, hm⟩ := lt_some hm
    replace f : Fk S h2 g := by rw [e1]; exact up_fk4 f (hS _ (by decide))
    cases hm
    exact f
  · obtain ⟨r3, -, hm⟩ := bd_s hm
    rcases ite_or hm with ⟨hc, hm⟩ | ⟨hc, hm⟩
    · cases hm
      exact f
    · obtain ⟨r4, -, hm⟩ := bd_s hm
      rcases ite_or hm with ⟨hc, hm⟩ | ⟨hc, hm⟩
      · cases hm
        exact f
      · rcases ite_or hm with ⟨hc, hm⟩ | ⟨hc, hm⟩
        · cases hm
          exact f
        · obtain ⟨hi, hm⟩ := ck_s hm
          have hlt : ix (h1 104 57) < 6 := Nat.not_le.mp fun q => hi (Or.inr q)
          obtain ⟨h5, e1, hm⟩ := lt_some hm
          replace f : Fk S h5 g := by rw [e1]; exact up_fk f (by decide) (hS _ (by decide))
          obtain ⟨hi, hm⟩ := ck_s hm
          have hlt : ix (h5 104 57) < 6 := Nat.not_le.mp fun q => hi (Or.inr q)
          obtain ⟨h6, e1, hm⟩ := lt_some hm
          replace f : Fk S h6 g := by rw [e1]; exact up_fk f (by decide) (hS _ (by decide))
          obtain ⟨h7, e1, hm⟩ := lt_some hm
          replace f : Fk S h7 g := by rw [e1]; exact up_fk4 f (hS _ (by decide))
          cases hm
          exact f
def FKdm_goesToNextOrder : List Nat := [139]
theorem wk_m_goesToNextOrder_L7 (h0 : PH) (k0 : Int32 → Option (Int32 × PH)) (S : List Nat) (g : PH) (r : Int32 × PH) (hS : ∀ b, b ∈ ([] : List Nat) → b ∈ S) (f : Fk S h0 g) (kk0 : ∀ (y0 : Int32), k0 y0 = some r → Fk S r.2 g) : ∀ (n : Nat) (v1 : Int32), mm_goesToNextOrder_L7 h0 k0 n v1 = some r → Fk S r.2 g := by
  intro n
  induction n with
  | zero => intro v1 hm; cases hm
  | succ n ih =>
    intro v1 hm
    unfold mm_goesToNextOrder_L7 at hm
    rcases ite_or hm with ⟨hc, hm⟩ | ⟨hc, hm⟩
    · exact kk0 _ hm
    · obtain ⟨hi, hm⟩ := ck_s hm
      have hlt : ix v1 < 6 := Nat.not_le.mp fun q => hi (Or.inr q)
      obtain ⟨hi, hm⟩ := ck_s hm
      have hlt : ix (v1 + 1) < 6 := Nat.not_le.mp fun q => hi (Or.inr q)
      rcases ite_or hm with ⟨hc, hm⟩ | ⟨hc, hm⟩
      · exact kk0 _ hm
      · obtain ⟨x2, -, hm⟩ := lt_some hm
        exact ih _ hm
theorem wk_m_goesToNextOrder_L48 (p1 : Int32) (h0 : PH) (k0 : Int32 → Option (Int32 × PH)) (S : List Nat) (g : PH) (r : Int32 × PH) (hS : ∀ b, b ∈ ([] : List Nat) → b ∈ S) (f : Fk S h0 g) (kk0 : ∀ (y0 : Int32), k0 y0 = some r → Fk S r.2 g) : ∀ (n : Nat) (v2 : Int32), mm_goesToNextOrder_L48 p1 h0 k0 n v2 = some r → Fk S r.2 g := by
  intro n
  induction n with
  | zero => intro v2 hm; cases hm
  | succ n ih =>
    intro v2 hm
    unfold mm_goesToNextOrder_L48 at hm
    obtain ⟨hi, hm⟩ := ck_s hm
    have hlt : ix v2 < 6 := Nat.not_le.mp fun q => hi (Or.inr q)
    obtain ⟨hi, hm⟩ := ck_s hm
    have hlt : ix p1 < 6 := Nat.not_le.mp fun q => hi (Or.inr q)
    rcases ite_or hm with ⟨hc, hm⟩ | ⟨hc, hm⟩
    · exact kk0 _ hm
    · obtain ⟨x5, -, hm⟩ := lt_some hm
      exact ih _ hm
theorem wk_m_goesToNextOrder_L109  (S : List Nat) (g : PH) (r : Int32 × PH) (hS : ∀ b, b ∈ ([139] : List Nat) → b ∈ S) : ∀ (n : Nat) (v4 : Int32) (v5 : Int32) (hv : PH), mm_goesToNextOrder_L109  n v4 v5 hv = some r → Fk S hv g → Fk S r.2 g := by
  intro n
  induction n with
  | zero => intro v4 v5 hv hm; cases hm
  | succ n ih =>
    intro v4 v5 hv hm f
    unfold mm_goesToNextOrder_L109 at hm
    rcases ite_or hm with ⟨hc, hm⟩ | ⟨hc, hm⟩
    · cases hm
      exact f
    · obtain ⟨hi, hm⟩ := ck_s hm
      have hlt : ix v5 < 6 := Nat.not_le.mp fun q => hi (Or.inr q)
      obtain ⟨x12, -, hm⟩ := lt_some hm
      obtain ⟨hi, hm⟩ := ck_s hm
      have hlt : ix v4 < 6 := Nat.not_le.mp fun q => hi (Or.inr q)
      obtain ⟨hi, hm⟩ := ck_s hm
      have hlt : ix v5 < 6 := Nat.not_le.mp fun q => hi (Or.inr q)
      obtain ⟨h13, e1, hm⟩ := lt_some hm
      replace f : Fk S h13 g := by rw [e1]; exact up_fk f (by decide) (hS _ (by decide))
      obtain ⟨hi, hm⟩ := ck_s hm
      have hlt : ix v4 < 6 := Nat.not_le.mp fun q => hi (Or.inr q)
      obtain ⟨h14, e1, hm⟩ := lt_some hm
      replace f : Fk S h14 g := by rw [e1]; exact up_fk f (by decide) (hS _ (by decide))
      obtain ⟨x15, -, hm⟩ := lt_some hm
      exact ih _ _ _ hm f
theorem fkm_goesToNextOrder (h0 : PH) {r : Int32 × PH} (hm : mm_goesToNextOrder h0 = some r) : Fk (FKdm_goesToNextOrder ) r.2 h0 := by
  generalize hSe : FKdm_goesToNextOrder = S
  have hS : ∀ b, b ∈ ([139] : List Nat) → b ∈ S := by rw [← hSe]; exact fun b hb => hb
  generalize hge : h0 = g at ⊢
  have f : Fk S h0 g := by rw [hge]; exact fun _ _ _ => rfl
  unfold mm_goesToNextOrder at hm
  obtain ⟨x1, -, hm⟩ := lt_some hm
  refine wk_m_goesToNextOrder_L7 _ _ S g _ (fun b hb => hS b ((by decide +kernel : ∀ b, b ∈ ([] : List Nat) → b ∈ ([139] : List Nat)) b hb)) f (fun x3 hm => ?_) _ _ hm
  · rcases ite_or hm with ⟨hc, hm⟩ | ⟨hc, hm⟩
    · obtain ⟨x4, -, hm⟩ := lt_some hm
      refine wk_m_goesToNextOrder_L48 _ _ _ S g _ (fun b hb => hS b ((by decide +kernel : ∀ b, b ∈ ([] : List Nat) → b ∈ ([139] : List Nat)) b hb)) f (fun x6 hm => ?_) _ _ hm
      · obtain ⟨hi, hm⟩ := ck_s hm
        have hlt : ix x3 < 6 := Nat.not_le.mp fun q => hi (Or.inr q)
        obtain ⟨x7, -, hm⟩ := lt_some hm
        obtain ⟨hi, hm⟩ := ck_s hm
        have hlt : ix x6 < 6 := Nat.not_le.mp fun q => hi (Or.inr q)
        obtain ⟨hi, hm⟩ := ck_s hm
        have hlt : ix x3 < 6 := Nat.not_le.mp fun q => hi (Or.inr q)
        obtain ⟨h8, e1, hm⟩ := lt_some hm
        replace f : Fk S h8 g := by rw [e1]; exact up_fk f (by decide) (hS _ (by decide))
        obtain ⟨hi, hm⟩ := ck_s hm
        have hlt : ix x6 < 6 := Nat.not_le.mp fun q => hi (Or.inr q)
        obtain ⟨h9, e1, hm⟩ := lt_some hm
        replace f : Fk S h9 g := by rw [e1]; exact up_fk f (by decide) (hS _ (by decide))
        obtain ⟨x10, -, hm⟩ := lt_some hm
        obtain ⟨x11, -, hm⟩ := lt_some hm
        exact wk_m_goesToNextOrder_L109 S g _ (fun b hb => hS b ((by decide +kernel : ∀ b, b ∈ ([139] : List Nat) → b ∈ ([139] : List Nat)) b hb)) _ _ _ _ hm f
    · cases hm
      exact f
def FKdm_ovens (p1 : Int32) : List Nat := [1000, 139, 140]
theorem wk_m_ovens_L30 (p1 : Int32) (k0 : PH → Option (Int32 × PH)) (S : List Nat) (g : PH) (r : Int32 × PH) (hS : ∀ b, b ∈ ([139] : List Nat) → b ∈ S) (kk0 : ∀ (y0 : PH), k0 y0 = some r → Fk S y0 g → Fk S r.2 g) : ∀ (n : Nat) (v2 : Int32) (hv : PH), mm_ovens_L30 p1 k0 n v2 hv = some r → Fk S hv g → Fk S r.2 g := by
  intro n
  induction n with
  | zero => intro v2 hv hm; cases hm
  | succ n ih =>
    intro v2 hv hm f
    unfold mm_ovens_L30 at hm
    rcases ite_or hm with ⟨hc, hm⟩ | ⟨hc, hm⟩
    · exact kk0 _ hm f
    · obtain ⟨hi, hm⟩ := ck_s hm
      have hlt : ix v2 < 6 := Nat.not_le.mp fun q => hi (Or.inr q)
      obtain ⟨h3, e1, hm⟩ := lt_some hm
      replace f : Fk S h3 g := by rw [e1]; exact up_fk f (by decide) (hS _ (by decide))
      exact ih _ _ hm f
theorem wk_m_ovens_L70 (p1 : Int32) (p2 : Int32) (p4 : Int32) (k0 : PH → Option (Int32 × PH)) (S : List Nat) (g : PH) (r : Int32 × PH) (hS : ∀ b, b ∈ ([140] : List Nat) → b ∈ S) (kk0 : ∀ (y0 : PH), k0 y0 = some r → Fk S y0 g → Fk S r.2 g) : ∀ (n : Nat) (v5 : Int32) (hv : PH), mm_ovens_L70 p1 p2 p4 k0 n v5 hv = some r → Fk S hv g → Fk S r.2 g := by
  intro n
  induction n with
  | zero => intro v5 hv hm; cases hm
  | succ n ih =>
    intro v5 hv hm f
    unfold mm_ovens_L70 at hm
    rcases ite_or hm with ⟨hc, hm⟩ | ⟨hc, hm⟩
    · exact kk0 _ hm f
    · rcases ite_or hm with ⟨hc, hm⟩ | ⟨hc, hm⟩
      · exact kk0 _ hm f
      · obtain ⟨hi, hm⟩ := ck_s hm
        have hlt : ix v5 < 6 := Nat.not_le.mp fun q => hi (Or.inr q)
        obtain ⟨hi, hm⟩ := ck_s hm
        have hlt : ix v5 < 6 := Nat.not_le.mp fun q => hi (Or.inr q)
        obtain ⟨h6, e1, hm⟩ := lt_some hm
        replace f : Fk S h6 g := by rw [e1]; exact up_fk f (by decide) (hS _ (by decide))
        exact ih _ _ hm f
theorem wk_m_ovens_L57 (p1 : Int32) (k0 : Int32 → PH → Option (Int32 × PH)) (S : List Nat) (g : PH) (r : Int32 × PH) (hS : ∀ b, b ∈ ([139, 140] : List Nat) → b ∈ S) (kk0 : ∀ (y0 : Int32) (y1 : PH), k0 y0 y1 = some r → Fk S y1 g → Fk S r.2 g) : ∀ (n : Nat) (v2 : Int32) (v3 : Int32) (hv : PH), mm_ovens_L57 p1 k0 n v2 v3 hv = some r → Fk S hv g → Fk S r.2 g := by
  intro n
  induction n with
  | zero => intro v2 v3 hv hm; cases hm
  | succ n ih =>
    intro v2 v3 hv hm f
    unfold mm_ovens_L57 at hm
    rcases ite_or hm with ⟨hc, hm⟩ | ⟨hc, hm⟩
    · exact kk0 _ _ hm f
    · obtain ⟨r5, -, hm⟩ := bd_s hm
      refine wk_m_ovens_L70 _ _ _ _ S g _ (fun b hb => hS b ((by decide +kernel : ∀ b, b ∈ ([140] : List Nat) → b ∈ ([139, 140] : List Nat)) b hb)) (fun h7 hm f => ?_) _ _ _ hm f
      · obtain ⟨r8, -, hm⟩ := bd_s hm
        obtain ⟨r9, h10, he, hm⟩ := bd2_s hm
        replace f := fk_tr f (fkm_goesToNextOrder _ he) (fun b hb => hS b ((by decide +kernel : ∀ b, b ∈ ([139] : List Nat) → b ∈ ([139, 140] : List Nat)) b hb))
        exact ih _ _ _ hm f
theorem fkm_ovens (p1 : Int32) (h0 : PH) {r : Int32 × PH} (hm : mm_ovens p1 h0 = some r) : Fk (FKdm_ovens p1) r.2 h0 := by
  generalize hSe : FKdm_ovens p1 = S
  have hS : ∀ b, b ∈ ([1000, 139, 140] : List Nat) → b ∈ S := by rw [← hSe]; exact fun b hb => hb
  generalize hge : h0 = g at ⊢
  have f : Fk S h0 g := by rw [hge]; exact fun _ _ _ => rfl
  unfold mm_ovens at hm
  obtain ⟨h1, e1, hm⟩ := lt_some hm
  replace f : Fk S h1 g := by rw [e1]; exact up_fk4 f (hS _ (by decide))
  refine v_j0 (Fk S r.2 g) hm (fun hm => ?_) (fun j2 kj2 hm => ?_)
  · refine wk_m_ovens_L30 _ _ S g _ (fun b hb => hS b ((by decide +kernel : ∀ b, b ∈ ([139] : List Nat) → b ∈ ([1000, 139, 140] : List Nat)) b hb)) (fun h4 hm f => ?_) _ _ _ hm f
    · refine wk_m_ovens_L57 _ _ S g _ (fun b hb => hS b ((by decide +kernel : ∀ b, b ∈ ([139, 140] : List Nat) → b ∈ ([1000, 139, 140] : List Nat)) b hb)) (fun x11 h12 hm f => ?_) _ _ _ _ hm f
      · rcases ite_or hm with ⟨hc, hm⟩ | ⟨hc, hm⟩
        · cases hm
          exact f
        · obtain ⟨hi, hm⟩ := ck_s hm
          have hlt : ix (p1 - 10) < 6 := Nat.not_le.mp fun q => hi (Or.inr q)
          cases hm
          exact f
  · rcases ite_or hm with ⟨hc, hm⟩ | ⟨hc, hm⟩
    · exact kj2 hm
    · obtain ⟨r13, -, hm⟩ := bd_s hm
      rcases ite_or hm with ⟨hc, hm⟩ | ⟨hc, hm⟩
      · cases hm
        exact f
      · exact kj2 hm
def FKdm_alone (p1 : Int32) : List Nat := [1000]
theorem wk_m_alone_L27 (p1 : Int32) (p2 : Int32) (h0 : PH) (k0 : Int32 → Option (Int32 × PH)) (S : List Nat) (g : PH) (r : Int32 × PH) (hS : ∀ b, b ∈ ([] : List Nat) → b ∈ S) (f : Fk S h0 g) (kk0 : ∀ (y0 : Int32), k0 y0 = some r → Fk S r.2 g) : ∀ (n : Nat) (v3 : Int32) (v4 : Int32), mm_alone_L27 p1 p2 h0 k0 n v3 v4 = some r → Fk S r.2 g := by
  intro n
  induction n with
  | zero => intro v3 v4 hm; cases hm
  | succ n ih =>
    intro v3 v4 hm
    unfold mm_alone_L27 at hm
    rcases ite_or hm with ⟨hc, hm⟩ | ⟨hc, hm⟩
    · exact kk0 _ hm
    · rcases ite_or hm with ⟨hc, hm⟩ | ⟨hc, hm⟩
      · obtain ⟨r4, -, hm⟩ := bd_s hm
        obtain ⟨r5, -, hm⟩ := bd_s hm
        rcases ite_or hm with ⟨hc, hm⟩ | ⟨hc, hm⟩
        · exact ih _ _ hm
        · obtain ⟨r6, -, hm⟩ := bd_s hm
          rcases ite_or hm with ⟨hc, hm⟩ | ⟨hc, hm⟩
          · exact ih _ _ hm
          · exact ih _ _ hm
      · exact ih _ _ hm
theorem fkm_alone (p1 : Int32) (h0 : PH) {r : Int32 × PH} (hm : mm_alone p1 h0 = some r) : Fk (FKdm_alone p1) r.2 h0 := by
  generalize hSe : FKdm_alone p1 = S
  have hS : ∀ b, b ∈ ([1000] : List Nat) → b ∈ S := by rw [← hSe]; exact fun b hb => hb
  generalize hge : h0 = g at ⊢
  have f : Fk S h0 g := by rw [hge]; exact fun _ _ _ => rfl
  unfold mm_alone at hm
  obtain ⟨h1, e1, hm⟩ := lt_some hm
  replace f : Fk S h1 g := by rw [e1]; exact up_fk4 f (hS _ (by decide))
  obtain ⟨r2, -, hm⟩ := bd_s hm
  rcases ite_or hm with ⟨hc, hm⟩ | ⟨hc, hm⟩
  · cases hm
    exact f
  · obtain ⟨r3, -, hm⟩ := bd_s hm
    refine wk_m_alone_L27 _ _ _ _ S g _ (fun b hb => hS b ((by decide +kernel : ∀ b, b ∈ ([] : List Nat) → b ∈ ([1000] : List Nat)) b hb)) f (fun x7 hm => ?_) _ _ _ hm
    · rcases ite_or hm with ⟨hc, hm⟩ | ⟨hc, hm⟩
      · obtain ⟨r8, -, hm⟩ := bd_s hm
        cases hm
        exact f
      · cases hm
        exact f
def FKdm_heir (p1 : Int32) (p2 : Int32) : List Nat := [1000, 1062, 141]
theorem wk_m_heir_L17  (S : List Nat) (g : PH) (r : Int32 × PH) (hS : ∀ b, b ∈ ([141] : List Nat) → b ∈ S) : ∀ (n : Nat) (v3 : Int32) (hv : PH), mm_heir_L17  n v3 hv = some r → Fk S hv g → Fk S r.2 g := by
  intro n
  induction n with
  | zero => intro v3 hv hm; cases hm
  | succ n ih =>
    intro v3 hv hm f
    unfold mm_heir_L17 at hm
    rcases ite_or hm with ⟨hc, hm⟩ | ⟨hc, hm⟩
    · cases hm
      exact f
    · obtain ⟨-, hm⟩ := ck_s hm
      obtain ⟨h3, e1, hm⟩ := lt_some hm
      replace f : Fk S h3 g := by rw [e1]; exact up_fk f (by decide) (hS _ (by decide))
      exact ih _ _ hm f
theorem fkm_heir (p1 : Int32) (p2 : Int32) (h0 : PH) {r : Int32 × PH} (hm : mm_heir p1 p2 h0 = some r) : Fk (FKdm_heir p1 p2) r.2 h0 := by
  generalize hSe : FKdm_heir p1 p2 = S
  have hS : ∀ b, b ∈ ([1000, 1062, 141] : List Nat) → b ∈ S := by rw [← hSe]; exact fun b hb => hb
  generalize hge : h0 = g at ⊢
  have f : Fk S h0 g := by rw [hge]; exact fun _ _ _ => rfl
  unfold mm_heir at hm
  obtain ⟨h1, e1, hm⟩ := lt_some hm
  replace f : Fk S h1 g := by rw [e1]; exact up_fk4 f (hS _ (by decide))
  rcases ite_or hm with ⟨hc, hm⟩ | ⟨hc, hm⟩
  · obtain ⟨h2, e1, hm⟩ := lt_some hm
    replace f : Fk S h2 g := by rw [e1]; exact up_fk4 f (hS _ (by decide))
    exact wk_m_heir_L17 S g _ (fun b hb => hS b ((by decide +kernel : ∀ b, b ∈ ([141] : List Nat) → b ∈ ([1000, 1062, 141] : List Nat)) b hb)) _ _ _ hm f
  · obtain ⟨r4, -, hm⟩ := bd_s hm
    rcases ite_or hm with ⟨hc, hm⟩ | ⟨hc, hm⟩
    · cases hm
      exact f
    · obtain ⟨r5, -, hm⟩ := bd_s hm
      rcases ite_or hm with ⟨hc, hm⟩ | ⟨hc, hm⟩
      · cases hm
        exact f
      · rcases ite_or hm with ⟨hc, hm⟩ | ⟨hc, hm⟩
        · cases hm
          exact f
        · rcases ite_or hm with ⟨hc, hm⟩ | ⟨hc, hm⟩
          · cases hm
            exact f
          · obtain ⟨-, hm⟩ := ck_s hm
            refine v_j1 (fun (h7 : PH) => Fk S h7 g → Fk S r.2 g) hm (fun h7 hm f => ?_) (fun j6 kj6 hm => ?_)
            · obtain ⟨h8, e1, hm⟩ := lt_some hm
              replace f : Fk S h8 g := by rw [e1]; exact up_fk4 f (hS _ (by decide))
              cases hm
              exact f
            · rcases ite_or hm with ⟨hc, hm⟩ | ⟨hc, hm⟩
              · obtain ⟨-, hm⟩ := ck_s hm
                obtain ⟨h9, e1, hm⟩ := lt_some hm
                replace f : Fk S h9 g := by rw [e1]; exact up_fk f (by decide) (hS _ (by decide))
                exact kj6 _ hm f
              · exact kj6 _ hm f
def FKdm_line (p1 : Int32) (p2 : Int32) : List Nat := [1000]
theorem wk_m_line_L33 (p2 : Int32) (h0 : PH) (k0 : Int32 → Int32 → Option (Int32 × PH)) (S : List Nat) (g : PH) (r : Int32 × PH) (hS : ∀ b, b ∈ ([] : List Nat) → b ∈ S) (f : Fk S h0 g) (kk0 : ∀ (y0 : Int32) (y1 : Int32), k0 y0 y1 = some r → Fk S r.2 g) : ∀ (n : Nat) (v3 : Int32) (v4 : Int32), mm_line_L33 p2 h0 k0 n v3 v4 = some r → Fk S r.2 g := by
  intro n
  induction n with
  | zero => intro v3 v4 hm; cases hm
  | succ n ih =>
    intro v3 v4 hm
    unfold mm_line_L33 at hm
    rcases ite_or hm with ⟨hc, hm⟩ | ⟨hc, hm⟩
    · cases hm
      exact f
    · obtain ⟨-, hm⟩ := ck_s hm
      rcases ite_or hm with ⟨hc, hm⟩ | ⟨hc, hm⟩
      · exact kk0 _ _ hm
      · obtain ⟨-, hm⟩ := ck_s hm
        obtain ⟨x4, -, hm⟩ := lt_some hm
        exact ih _ _ hm
theorem fkm_line (p1 : Int32) (p2 : Int32) (h0 : PH) {r : Int32 × PH} (hm : mm_line p1 p2 h0 = some r) : Fk (FKdm_line p1 p2) r.2 h0 := by
  generalize hSe : FKdm_line p1 p2 = S
  have hS : ∀ b, b ∈ ([1000] : List Nat) → b ∈ S := by rw [← hSe]; exact fun b hb => hb
  generalize hge : h0 = g at ⊢
  have f : Fk S h0 g := by rw [hge]; exact fun _ _ _ => rfl
  unfold mm_line at hm
  obtain ⟨h1, e1, hm⟩ := lt_some hm
  replace f : Fk S h1 g := by rw [e1]; exact up_fk4 f (hS _ (by decide))
  obtain ⟨r2, -, hm⟩ := bd_s hm
  rcases ite_or hm with ⟨hc, hm⟩ | ⟨hc, hm⟩
  · cases hm
    exact f
  · obtain ⟨r3, -, hm⟩ := bd_s hm
    rcases ite_or hm with ⟨hc, hm⟩ | ⟨hc, hm⟩
    · cases hm
      exact f
    · refine wk_m_line_L33 _ _ _ S g _ (fun b hb => hS b ((by decide +kernel : ∀ b, b ∈ ([] : List Nat) → b ∈ ([1000] : List Nat)) b hb)) f (fun x5 x6 hm => ?_) _ _ _ hm
      · rcases ite_or hm with ⟨hc, hm⟩ | ⟨hc, hm⟩
        · cases hm
          exact f
        · cases hm
          exact f
def FKdm_window (p1 : Int32) : List Nat := [1000, 142, 143]
theorem wk_m_window_L20 (p1 : Int32) (k0 : PH → Option (Int32 × PH)) (S : List Nat) (g : PH) (r : Int32 × PH) (hS : ∀ b, b ∈ ([142, 143] : List Nat) → b ∈ S) (kk0 : ∀ (y0 : PH), k0 y0 = some r → Fk S y0 g → Fk S r.2 g) : ∀ (n : Nat) (v2 : Int32) (hv : PH), mm_window_L20 p1 k0 n v2 hv = some r → Fk S hv g → Fk S r.2 g := by
  intro n
  induction n with
  | zero => intro v2 hv hm; cases hm
  | succ n ih =>
    intro v2 hv hm f
    unfold mm_window_L20 at hm
    rcases ite_or hm with ⟨hc, hm⟩ | ⟨hc, hm⟩
    · exact kk0 _ hm f
    · refine v_j1 (fun (x4 : Int32) => Fk S r.2 g) hm (fun x4 hm => ?_) (fun j3 kj3 hm => ?_)
      · obtain ⟨-, hm⟩ := ck_s hm
        obtain ⟨h5, e1, hm⟩ := lt_some hm
        replace f : Fk S h5 g := by rw [e1]; exact up_fk f (by decide) (hS _ (by decide))
        refine v_j1 (fun (h7 : PH) => Fk S h7 g → Fk S r.2 g) hm (fun h7 hm f => ?_) (fun j6 kj6 hm => ?_)
        · refine v_j1 (fun (x9 : Int32) => Fk S r.2 g) hm (fun x9 hm => ?_) (fun j8 kj8 hm => ?_)
          · obtain ⟨-, hm⟩ := ck_s hm
            obtain ⟨h10, e1, hm⟩ := lt_some hm
            replace f : Fk S h10 g := by rw [e1]; exact up_fk f (by decide) (hS _ (by decide))
            exact ih _ _ hm f
          · rcases ite_or hm with ⟨hc, hm⟩ | ⟨hc, hm⟩
            · exact kj8 _ hm
            · obtain ⟨-, hm⟩ := ck_s hm
              exact kj8 _ hm
        · rcases ite_or hm with ⟨hc, hm⟩ | ⟨hc, hm⟩
          · exact kj6 _ hm f
          · obtain ⟨-, hm⟩ := ck_s hm
            obtain ⟨-, hm⟩ := ck_s hm
            obtain ⟨-, hm⟩ := ck_s hm
            obtain ⟨-, hm⟩ := ck_s hm
            obtain ⟨h11, e1, hm⟩ := lt_some hm
            replace f : Fk S h11 g := by rw [e1]; exact up_fk f (by decide) (hS _ (by decide))
            exact kj6 _ hm f
      · rcases ite_or hm with ⟨hc, hm⟩ | ⟨hc, hm⟩
        · exact kj3 _ hm
        · obtain ⟨-, hm⟩ := ck_s hm
          obtain ⟨-, hm⟩ := ck_s hm
          exact kj3 _ hm
theorem fkm_window (p1 : Int32) (h0 : PH) {r : Int32 × PH} (hm : mm_window p1 h0 = some r) : Fk (FKdm_window p1) r.2 h0 := by
  generalize hSe : FKdm_window p1 = S
  have hS : ∀ b, b ∈ ([1000, 142, 143] : List Nat) → b ∈ S := by rw [← hSe]; exact fun b hb => hb
  generalize hge : h0 = g at ⊢
  have f : Fk S h0 g := by rw [hge]; exact fun _ _ _ => rfl
  unfold mm_window at hm
  obtain ⟨h1, e1, hm⟩ := lt_some hm
  replace f : Fk S h1 g := by rw [e1]; exact up_fk4 f (hS _ (by decide))
  obtain ⟨r2, -, hm⟩ := bd_s hm
  rcases ite_or hm with ⟨hc, hm⟩ | ⟨hc, hm⟩
  · cases hm
    exact f
  · refine wk_m_window_L20 _ _ S g _ (fun b hb => hS b ((by decide +kernel : ∀ b, b ∈ ([142, 143] : List Nat) → b ∈ ([1000, 142, 143] : List Nat)) b hb)) (fun h12 hm f => ?_) _ _ _ hm f
    · obtain ⟨-, hm⟩ := ck_s hm
      obtain ⟨-, hm⟩ := ck_s hm
      cases hm
      exact f
def FKdm_member (p1 : Int32) (p2 : Int32) : List Nat := [1000, 1066, 144, 145]
theorem fkm_member (p1 : Int32) (p2 : Int32) (h0 : PH) {r : Int32 × PH} (hm : mm_member p1 p2 h0 = some r) : Fk (FKdm_member p1 p2) r.2 h0 := by
  generalize hSe : FKdm_member p1 p2 = S
  have hS : ∀ b, b ∈ ([1000, 1066, 144, 145] : List Nat) → b ∈ S := by rw [← hSe]; exact fun b hb => hb
  generalize hge : h0 = g at ⊢
  have f : Fk S h0 g := by rw [hge]; exact fun _ _ _ => rfl
  unfold mm_member at hm
  obtain ⟨h1, e1, hm⟩ := lt_some hm
  replace f : Fk S h1 g := by rw [e1]; exact up_fk4 f (hS _ (by decide))
  rcases ite_or hm with ⟨hc, hm⟩ | ⟨hc, hm⟩
  · obtain ⟨h2, e1, hm⟩ := lt_some hm
    replace f : Fk S h2 g := by rw [e1]; exact up_fk4 f (hS _ (by decide))
    cases hm
    exact f
  · obtain ⟨r3, -, hm⟩ := bd_s hm
    rcases ite_or hm with ⟨hc, hm⟩ | ⟨hc, hm⟩
    · cases hm
      exact f
    · obtain ⟨r4, -, hm⟩ := bd_s hm
      rcases ite_or hm with ⟨hc, hm⟩ | ⟨hc, hm⟩
      · cases hm
        exact f
      · rcases ite_or hm with ⟨hc, hm⟩ | ⟨hc, hm⟩
        · cases hm
          exact f
        · obtain ⟨-, hm⟩ := ck_s hm
          obtain ⟨h5, e1, hm⟩ := lt_some hm
          replace f : Fk S h5 g := by rw [e1]; exact up_fk f (by decide) (hS _ (by decide))
          obtain ⟨-, hm⟩ := ck_s hm
          obtain ⟨h6, e1, hm⟩ := lt_some hm
          replace f : Fk S h6 g := by rw [e1]; exact up_fk f (by decide) (hS _ (by decide))
          obtain ⟨h7, e1, hm⟩ := lt_some hm
          replace f : Fk S h7 g := by rw [e1]; exact up_fk4 f (hS _ (by decide))
          cases hm
          exact f
def FKdm_council (p1 : Int32) : List Nat := [1000]
theorem wk_m_council_L29 (h0 : PH) (S : List Nat) (g : PH) (r : Int32 × PH) (hS : ∀ b, b ∈ ([] : List Nat) → b ∈ S) (f : Fk S h0 g) : ∀ (n : Nat) (v2 : Int32) (v3 : Int32), mm_council_L29 h0 n v2 v3 = some r → Fk S r.2 g := by
  intro n
  induction n with
  | zero => intro v2 v3 hm; cases hm
  | succ n ih =>
    intro v2 v3 hm
    unfold mm_council_L29 at hm
    rcases ite_or hm with ⟨hc, hm⟩ | ⟨hc, hm⟩
    · cases hm
      exact f
    · obtain ⟨r4, -, hm⟩ := bd_s hm
      rcases ite_or hm with ⟨hc, hm⟩ | ⟨hc, hm⟩
      · exact ih _ _ hm
      · obtain ⟨r5, -, hm⟩ := bd_s hm
        rcases ite_or hm with ⟨hc, hm⟩ | ⟨hc, hm⟩
        · exact ih _ _ hm
        · obtain ⟨r6, -, hm⟩ := bd_s hm
          exact ih _ _ hm
theorem wk_m_council_L86 (p2 : Int32) (p3 : Int32) (h0 : PH) (k0 : Int32 → Option (Int32 × PH)) (S : List Nat) (g : PH) (r : Int32 × PH) (hS : ∀ b, b ∈ ([] : List Nat) → b ∈ S) (f : Fk S h0 g) (kk0 : ∀ (y0 : Int32), k0 y0 = some r → Fk S r.2 g) : ∀ (n : Nat) (v4 : Int32) (v5 : Int32), mm_council_L86 p2 p3 h0 k0 n v4 v5 = some r → Fk S r.2 g := by
  intro n
  induction n with
  | zero => intro v4 v5 hm; cases hm
  | succ n ih =>
    intro v4 v5 hm
    unfold mm_council_L86 at hm
    rcases ite_or hm with ⟨hc, hm⟩ | ⟨hc, hm⟩
    · exact kk0 _ hm
    · obtain ⟨-, hm⟩ := ck_s hm
      obtain ⟨r7, -, hm⟩ := bd_s hm
      rcases ite_or hm with ⟨hc, hm⟩ | ⟨hc, hm⟩
      · exact ih _ _ hm
      · obtain ⟨x8, -, hm⟩ := lt_some hm
        exact ih _ _ hm
theorem wk_m_council_L74 (h0 : PH) (S : List Nat) (g : PH) (r : Int32 × PH) (hS : ∀ b, b ∈ ([] : List Nat) → b ∈ S) (f : Fk S h0 g) : ∀ (n : Nat) (v2 : Int32) (v3 : Int32), mm_council_L74 h0 n v2 v3 = some r → Fk S r.2 g := by
  intro n
  induction n with
  | zero => intro v2 v3 hm; cases hm
  | succ n ih =>
    intro v2 v3 hm
    unfold mm_council_L74 at hm
    rcases ite_or hm with ⟨hc, hm⟩ | ⟨hc, hm⟩
    · cases hm
      exact f
    · refine wk_m_council_L86 _ _ _ _ S g _ (fun b hb => hS b ((by decide +kernel : ∀ b, b ∈ ([] : List Nat) → b ∈ ([] : List Nat)) b hb)) f (fun x9 hm => ?_) _ _ _ hm
      · obtain ⟨r10, -, hm⟩ := bd_s hm
        rcases ite_or hm with ⟨hc, hm⟩ | ⟨hc, hm⟩
        · exact ih _ _ hm
        · obtain ⟨x11, -, hm⟩ := lt_some hm
          exact ih _ _ hm
theorem fkm_council (p1 : Int32) (h0 : PH) {r : Int32 × PH} (hm : mm_council p1 h0 = some r) : Fk (FKdm_council p1) r.2 h0 := by
  generalize hSe : FKdm_council p1 = S
  have hS : ∀ b, b ∈ ([1000] : List Nat) → b ∈ S := by rw [← hSe]; exact fun b hb => hb
  generalize hge : h0 = g at ⊢
  have f : Fk S h0 g := by rw [hge]; exact fun _ _ _ => rfl
  unfold mm_council at hm
  obtain ⟨h1, e1, hm⟩ := lt_some hm
  replace f : Fk S h1 g := by rw [e1]; exact up_fk4 f (hS _ (by decide))
  obtain ⟨r2, -, hm⟩ := bd_s hm
  rcases ite_or hm with ⟨hc, hm⟩ | ⟨hc, hm⟩
  · cases hm
    exact f
  · rcases ite_or hm with ⟨hc, hm⟩ | ⟨hc, hm⟩
    · obtain ⟨x3, -, hm⟩ := lt_some hm
      exact wk_m_council_L29 _ S g _ (fun b hb => hS b ((by decide +kernel : ∀ b, b ∈ ([] : List Nat) → b ∈ ([1000] : List Nat)) b hb)) f _ _ _ hm
    · exact wk_m_council_L74 _ S g _ (fun b hb => hS b ((by decide +kernel : ∀ b, b ∈ ([] : List Nat) → b ∈ ([1000] : List Nat)) b hb)) f _ _ _ hm
def FKdm_takesSlab (p1 : Int32) : List Nat := [147]
theorem wk_m_takesSlab_L4  (S : List Nat) (g : PH) (r : PH) (hS : ∀ b, b ∈ ([147] : List Nat) → b ∈ S) : ∀ (n : Nat) (v2 : Int32) (v3 : Int32) (hv : PH), mm_takesSlab_L4  n v2 v3 hv = some r → Fk S hv g → Fk S r g := by
  intro n
  induction n with
  | zero => intro v2 v3 hv hm; cases hm
  | succ n ih =>
    intro v2 v3 hv hm f
    unfold mm_takesSlab_L4 at hm
    rcases ite_or hm with ⟨hc, hm⟩ | ⟨hc, hm⟩
    · cases hm
      exact f
    · obtain ⟨-, hm⟩ := dz_s hm
      obtain ⟨-, hm⟩ := ck_s hm
      obtain ⟨h1, e1, hm⟩ := lt_some hm
      replace f : Fk S h1 g := by rw [e1]; exact up_fk f (by decide) (hS _ (by decide))
      obtain ⟨-, hm⟩ := dz_s hm
      obtain ⟨x2, -, hm⟩ := lt_some hm
      exact ih _ _ _ hm f
theorem fkm_takesSlab (p1 : Int32) (h0 : PH) {r : PH} (hm : mm_takesSlab p1 h0 = some r) : Fk (FKdm_takesSlab p1) r h0 := by
  generalize hSe : FKdm_takesSlab p1 = S
  have hS : ∀ b, b ∈ ([147] : List Nat) → b ∈ S := by rw [← hSe]; exact fun b hb => hb
  generalize hge : h0 = g at ⊢
  have f : Fk S h0 g := by rw [hge]; exact fun _ _ _ => rfl
  unfold mm_takesSlab at hm
  exact wk_m_takesSlab_L4 S g _ (fun b hb => hS b ((by decide +kernel : ∀ b, b ∈ ([147] : List Nat) → b ∈ ([147] : List Nat)) b hb)) _ _ _ _ hm f
def FKdm_game (p1 : Int32) (p2 : Int32) : List Nat := [1000, 147, 146]
theorem wk_m_game_L33 (p1 : Int32) (p2 : Int32) (h0 : PH) (k0 : Int32 → Option (Int32 × PH)) (S : List Nat) (g : PH) (r : Int32 × PH) (hS : ∀ b, b ∈ ([] : List Nat) → b ∈ S) (f : Fk S h0 g) (kk0 : ∀ (y0 : Int32), k0 y0 = some r → Fk S r.2 g) : ∀ (n : Nat) (v3 : Int32) (v4 : Int32), mm_game_L33 p1 p2 h0 k0 n v3 v4 = some r → Fk S r.2 g := by
  intro n
  induction n with
  | zero => intro v3 v4 hm; cases hm
  | succ n ih =>
    intro v3 v4 hm
    unfold mm_game_L33 at hm
    rcases ite_or hm with ⟨hc, hm⟩ | ⟨hc, hm⟩
    · exact kk0 _ hm
    · obtain ⟨x4, -, hm⟩ := lt_some hm
      exact ih _ _ hm
theorem wk_m_game_L55 (p3 : Int32) (k0 : PH → Option (Int32 × PH)) (S : List Nat) (g : PH) (r : Int32 × PH) (hS : ∀ b, b ∈ ([147, 146] : List Nat) → b ∈ S) (kk0 : ∀ (y0 : PH), k0 y0 = some r → Fk S y0 g → Fk S r.2 g) : ∀ (n : Nat) (v4 : Int32) (hv : PH), mm_game_L55 p3 k0 n v4 hv = some r → Fk S hv g → Fk S r.2 g := by
  intro n
  induction n with
  | zero => intro v4 hv hm; cases hm
  | succ n ih =>
    intro v4 hv hm f
    unfold mm_game_L55 at hm
    rcases ite_or hm with ⟨hc, hm⟩ | ⟨hc, hm⟩
    · exact kk0 _ hm f
    · obtain ⟨h6, he, hm⟩ := bd_s hm
      replace f := fk_tr f (fkm_takesSlab _ _ he) (fun b hb => hS b ((by decide +kernel : ∀ b, b ∈ ([147] : List Nat) → b ∈ ([147, 146] : List Nat)) b hb))
      obtain ⟨r7, -, hm⟩ := bd_s hm
      refine v_j1 (fun (x9 : Int32) => Fk S r.2 g) hm (fun x9 hm => ?_) (fun j8 kj8 hm => ?_)
      · obtain ⟨-, hm⟩ := ck_s hm
        obtain ⟨h10, e1, hm⟩ := lt_some hm
        replace f : Fk S h10 g := by rw [e1]; exact up_fk f (by decide) (hS _ (by decide))
        exact ih _ _ hm f
      · rcases ite_or hm with ⟨hc, hm⟩ | ⟨hc, hm⟩
        · exact kj8 _ hm
        · obtain ⟨r11, -, hm⟩ := bd_s hm
          rcases ite_or hm with ⟨hc, hm⟩ | ⟨hc, hm⟩
          · exact kj8 _ hm
          · exact kj8 _ hm
theorem fkm_game (p1 : Int32) (p2 : Int32) (h0 : PH) {r : Int32 × PH} (hm : mm_game p1 p2 h0 = some r) : Fk (FKdm_game p1 p2) r.2 h0 := by
  generalize hSe : FKdm_game p1 p2 = S
  have hS : ∀ b, b ∈ ([1000, 147, 146] : List Nat) → b ∈ S := by rw [← hSe]; exact fun b hb => hb
  generalize hge : h0 = g at ⊢
  have f : Fk S h0 g := by rw [hge]; exact fun _ _ _ => rfl
  unfold mm_game at hm
  obtain ⟨h1, e1, hm⟩ := lt_some hm
  replace f : Fk S h1 g := by rw [e1]; exact up_fk4 f (hS _ (by decide))
  obtain ⟨r2, -, hm⟩ := bd_s hm
  rcases ite_or hm with ⟨hc, hm⟩ | ⟨hc, hm⟩
  · cases hm
    exact f
  · obtain ⟨r3, -, hm⟩ := bd_s hm
    rcases ite_or hm with ⟨hc, hm⟩ | ⟨hc, hm⟩
    · cases hm
      exact f
    · refine wk_m_game_L33 _ _ _ _ S g _ (fun b hb => hS b ((by decide +kernel : ∀ b, b ∈ ([] : List Nat) → b ∈ ([1000, 147, 146] : List Nat)) b hb)) f (fun x5 hm => ?_) _ _ _ hm
      · refine wk_m_game_L55 _ _ S g _ (fun b hb => hS b ((by decide +kernel : ∀ b, b ∈ ([147, 146] : List Nat) → b ∈ ([1000, 147, 146] : List Nat)) b hb)) (fun h12 hm f => ?_) _ _ _ hm f
        · obtain ⟨h13, he, hm⟩ := bd_s hm
          replace f := fk_tr f (fkm_takesSlab _ _ he) (fun b hb => hS b ((by decide +kernel : ∀ b, b ∈ ([147] : List Nat) → b ∈ ([1000, 147, 146] : List Nat)) b hb))
          obtain ⟨r14, -, hm⟩ := bd_s hm
          cases hm
          exact f
def FKdm_keeps (p1 : Int32) : List Nat := [1073, 148]
theorem fkm_keeps (p1 : Int32) (h0 : PH) {r : Int32 × PH} (hm : mm_keeps p1 h0 = some r) : Fk (FKdm_keeps p1) r.2 h0 := by
  generalize hSe : FKdm_keeps p1 = S
  have hS : ∀ b, b ∈ ([1073, 148] : List Nat) → b ∈ S := by rw [← hSe]; exact fun b hb => hb
  generalize hge : h0 = g at ⊢
  have f : Fk S h0 g := by rw [hge]; exact fun _ _ _ => rfl
  unfold mm_keeps at hm
  obtain ⟨h1, e1, hm⟩ := lt_some hm
  replace f : Fk S h1 g := by rw [e1]; exact up_fk4 f (hS _ (by decide))
  rcases ite_or hm with ⟨hc, hm⟩ | ⟨hc, hm⟩
  · obtain ⟨-, hm⟩ := ck_s hm
    cases hm
    exact f
  · obtain ⟨-, hm⟩ := ck_s hm
    obtain ⟨h2, e1, hm⟩ := lt_some hm
    replace f : Fk S h2 g := by rw [e1]; exact up_fk f (by decide) (hS _ (by decide))
    cases hm
    exact f
def FKdm_keepsLaw : List Nat := [1073, 148, 113, 118, 119, 114, 115, 116, 117]
theorem wk_m_keepsLaw_L18 (k0 : PH → Option (PH)) (S : List Nat) (g : PH) (r : PH) (hS : ∀ b, b ∈ ([1073, 148, 114, 115, 116, 117] : List Nat) → b ∈ S) (kk0 : ∀ (y0 : PH), k0 y0 = some r → Fk S y0 g → Fk S r g) : ∀ (n : Nat) (v1 : Int32) (hv : PH), mm_keepsLaw_L18 k0 n v1 hv = some r → Fk S hv g → Fk S r g := by
  intro n
  induction n with
  | zero => intro v1 hv hm; cases hm
  | succ n ih =>
    intro v1 hv hm f
    unfold mm_keepsLaw_L18 at hm
    rcases ite_or hm with ⟨hc, hm⟩ | ⟨hc, hm⟩
    · exact kk0 _ hm f
    · obtain ⟨-, hm⟩ := ck_s hm
      obtain ⟨r4, h5, he, hm⟩ := bd2_s hm
      replace f := fk_tr f (fkm_keeps _ _ he) (fun b hb => hS b ((by decide +kernel : ∀ b, b ∈ ([1073, 148] : List Nat) → b ∈ ([1073, 148, 114, 115, 116, 117] : List Nat)) b hb))
      obtain ⟨-, hm⟩ := ck_s hm
      obtain ⟨h6, e1, hm⟩ := lt_some hm
      replace f : Fk S h6 g := by rw [e1]; exact up_fk f (by decide) (hS _ (by decide))
      obtain ⟨-, hm⟩ := ck_s hm
      obtain ⟨r7, h8, he, hm⟩ := bd2_s hm
      replace f := fk_tr f (fkm_keeps _ _ he) (fun b hb => hS b ((by decide +kernel : ∀ b, b ∈ ([1073, 148] : List Nat) → b ∈ ([1073, 148, 114, 115, 116, 117] : List Nat)) b hb))
      obtain ⟨-, hm⟩ := ck_s hm
      obtain ⟨h9, e1, hm⟩ := lt_some hm
      replace f : Fk S h9 g := by rw [e1]; exact up_fk f (by decide) (hS _ (by decide))
      obtain ⟨-, hm⟩ := ck_s hm
      obtain ⟨r10, h11, he, hm⟩ := bd2_s hm
      replace f := fk_tr f (fkm_keeps _ _ he) (fun b hb => hS b ((by decide +kernel : ∀ b, b ∈ ([1073, 148] : List Nat) → b ∈ ([1073, 148, 114, 115, 116, 117] : List Nat)) b hb))
      obtain ⟨-, hm⟩ := ck_s hm
      obtain ⟨h12, e1, hm⟩ := lt_some hm
      replace f : Fk S h12 g := by rw [e1]; exact up_fk f (by decide) (hS _ (by decide))
      obtain ⟨-, hm⟩ := ck_s hm
      obtain ⟨r13, h14, he, hm⟩ := bd2_s hm
      replace f := fk_tr f (fkm_keeps _ _ he) (fun b hb => hS b ((by decide +kernel : ∀ b, b ∈ ([1073, 148] : List Nat) → b ∈ ([1073, 148, 114, 115, 116, 117] : List Nat)) b hb))
      obtain ⟨-, hm⟩ := ck_s hm
      obtain ⟨h15, e1, hm⟩ := lt_some hm
      replace f : Fk S h15 g := by rw [e1]; exact up_fk f (by decide) (hS _ (by decide))
      exact ih _ _ hm f
theorem wk_m_keepsLaw_L96  (S : List Nat) (g : PH) (r : PH) (hS : ∀ b, b ∈ ([1073, 148, 118, 119] : List Nat) → b ∈ S) : ∀ (n : Nat) (v1 : Int32) (hv : PH), mm_keepsLaw_L96  n v1 hv = some r → Fk S hv g → Fk S r g := by
  intro n
  induction n with
  | zero => intro v1 hv hm; cases hm
  | succ n ih =>
    intro v1 hv hm f
    unfold mm_keepsLaw_L96 at hm
    rcases ite_or hm with ⟨hc, hm⟩ | ⟨hc, hm⟩
    · cases hm
      exact f
    · obtain ⟨-, hm⟩ := ck_s hm
      obtain ⟨r17, h18, he, hm⟩ := bd2_s hm
      replace f := fk_tr f (fkm_keeps _ _ he) (fun b hb => hS b ((by decide +kernel : ∀ b, b ∈ ([1073, 148] : List Nat) → b ∈ ([1073, 148, 118, 119] : List Nat)) b hb))
      obtain ⟨-, hm⟩ := ck_s hm
      obtain ⟨h19, e1, hm⟩ := lt_some hm
      replace f : Fk S h19 g := by rw [e1]; exact up_fk f (by decide) (hS _ (by decide))
      obtain ⟨-, hm⟩ := ck_s hm
      obtain ⟨r20, h21, he, hm⟩ := bd2_s hm
      replace f := fk_tr f (fkm_keeps _ _ he) (fun b hb => hS b ((by decide +kernel : ∀ b, b ∈ ([1073, 148] : List Nat) → b ∈ ([1073, 148, 118, 119] : List Nat)) b hb))
      obtain ⟨-, hm⟩ := ck_s hm
      obtain ⟨h22, e1, hm⟩ := lt_some hm
      replace f : Fk S h22 g := by rw [e1]; exact up_fk f (by decide) (hS _ (by decide))
      exact ih _ _ hm f
theorem fkm_keepsLaw (h0 : PH) {r : PH} (hm : mm_keepsLaw h0 = some r) : Fk (FKdm_keepsLaw ) r h0 := by
  generalize hSe : FKdm_keepsLaw = S
  have hS : ∀ b, b ∈ ([1073, 148, 113, 118, 119, 114, 115, 116, 117] : List Nat) → b ∈ S := by rw [← hSe]; exact fun b hb => hb
  generalize hge : h0 = g at ⊢
  have f : Fk S h0 g := by rw [hge]; exact fun _ _ _ => rfl
  unfold mm_keepsLaw at hm
  obtain ⟨-, hm⟩ := ck_s hm
  obtain ⟨r1, h2, he, hm⟩ := bd2_s hm
  replace f := fk_tr f (fkm_keeps _ _ he) (fun b hb => hS b ((by decide +kernel : ∀ b, b ∈ ([1073, 148] : List Nat) → b ∈ ([1073, 148, 113, 118, 119, 114, 115, 116, 117] : List Nat)) b hb))
  obtain ⟨-, hm⟩ := ck_s hm
  obtain ⟨h3, e1, hm⟩ := lt_some hm
  replace f : Fk S h3 g := by rw [e1]; exact up_fk f (by decide) (hS _ (by decide))
  refine wk_m_keepsLaw_L18 _ S g _ (fun b hb => hS b ((by decide +kernel : ∀ b, b ∈ ([1073, 148, 114, 115, 116, 117] : List Nat) → b ∈ ([1073, 148, 113, 118, 119, 114, 115, 116, 117] : List Nat)) b hb)) (fun h16 hm f => ?_) _ _ _ hm f
  · exact wk_m_keepsLaw_L96 S g _ (fun b hb => hS b ((by decide +kernel : ∀ b, b ∈ ([1073, 148, 118, 119] : List Nat) → b ∈ ([1073, 148, 113, 118, 119, 114, 115, 116, 117] : List Nat)) b hb)) _ _ _ hm f
def FKdm_keepsMany : List Nat := [1073, 148, 1006, 1033, 1035, 1037, 1042, 1045, 1049, 1051, 1054, 1057, 1062, 1066]
theorem fkm_keepsMany (h0 : PH) {r : PH} (hm : mm_keepsMany h0 = some r) : Fk (FKdm_keepsMany ) r h0 := by
  generalize hSe : FKdm_keepsMany = S
  have hS : ∀ b, b ∈ ([1073, 148, 1006, 1033, 1035, 1037, 1042, 1045, 1049, 1051, 1054, 1057, 1062, 1066] : List Nat) → b ∈ S := by rw [← hSe]; exact fun b hb => hb
  generalize hge : h0 = g at ⊢
  have f : Fk S h0 g := by rw [hge]; exact fun _ _ _ => rfl
  unfold mm_keepsMany at hm
  obtain ⟨r1, h2, he, hm⟩ := bd2_s hm
  replace f := fk_tr f (fkm_keeps _ _ he) (fun b hb => hS b ((by decide +kernel : ∀ b, b ∈ ([1073, 148] : List Nat) → b ∈ ([1073, 148, 1006, 1033, 1035, 1037, 1042, 1045, 1049, 1051, 1054, 1057, 1062, 1066] : List Nat)) b hb))
  obtain ⟨h3, e1, hm⟩ := lt_some hm
  replace f : Fk S h3 g := by rw [e1]; exact up_fk4 f (hS _ (by decide))
  obtain ⟨r4, h5, he, hm⟩ := bd2_s hm
  replace f := fk_tr f (fkm_keeps _ _ he) (fun b hb => hS b ((by decide +kernel : ∀ b, b ∈ ([1073, 148] : List Nat) → b ∈ ([1073, 148, 1006, 1033, 1035, 1037, 1042, 1045, 1049, 1051, 1054, 1057, 1062, 1066] : List Nat)) b hb))
  obtain ⟨h6, e1, hm⟩ := lt_some hm
  replace f : Fk S h6 g := by rw [e1]; exact up_fk4 f (hS _ (by decide))
  obtain ⟨r7, h8, he, hm⟩ := bd2_s hm
  replace f := fk_tr f (fkm_keeps _ _ he) (fun b hb => hS b ((by decide +kernel : ∀ b, b ∈ ([1073, 148] : List Nat) → b ∈ ([1073, 148, 1006, 1033, 1035, 1037, 1042, 1045, 1049, 1051, 1054, 1057, 1062, 1066] : List Nat)) b hb))
  obtain ⟨h9, e1, hm⟩ := lt_some hm
  replace f : Fk S h9 g := by rw [e1]; exact up_fk4 f (hS _ (by decide))
  obtain ⟨r10, h11, he, hm⟩ := bd2_s hm
  replace f := fk_tr f (fkm_keeps _ _ he) (fun b hb => hS b ((by decide +kernel : ∀ b, b ∈ ([1073, 148] : List Nat) → b ∈ ([1073, 148, 1006, 1033, 1035, 1037, 1042, 1045, 1049, 1051, 1054, 1057, 1062, 1066] : List Nat)) b hb))
  obtain ⟨h12, e1, hm⟩ := lt_some hm
  replace f : Fk S h12 g := by rw [e1]; exact up_fk4 f (hS _ (by decide))
  obtain ⟨r13, h14, he, hm⟩ := bd2_s hm
  replace f := fk_tr f (fkm_keeps _ _ he) (fun b hb => hS b ((by decide +kernel : ∀ b, b ∈ ([1073, 148] : List Nat) → b ∈ ([1073, 148, 1006, 1033, 1035, 1037, 1042, 1045, 1049, 1051, 1054, 1057, 1062, 1066] : List Nat)) b hb))
  obtain ⟨h15, e1, hm⟩ := lt_some hm
  replace f : Fk S h15 g := by rw [e1]; exact up_fk4 f (hS _ (by decide))
  obtain ⟨r16, h17, he, hm⟩ := bd2_s hm
  replace f := fk_tr f (fkm_keeps _ _ he) (fun b hb => hS b ((by decide +kernel : ∀ b, b ∈ ([1073, 148] : List Nat) → b ∈ ([1073, 148, 1006, 1033, 1035, 1037, 1042, 1045, 1049, 1051, 1054, 1057, 1062, 1066] : List Nat)) b hb))
  obtain ⟨h18, e1, hm⟩ := lt_some hm
  replace f : Fk S h18 g := by rw [e1]; exact up_fk4 f (hS _ (by decide))
  obtain ⟨r19, h20, he, hm⟩ := bd2_s hm
  replace f := fk_tr f (fkm_keeps _ _ he) (fun b hb => hS b ((by decide +kernel : ∀ b, b ∈ ([1073, 148] : List Nat) → b ∈ ([1073, 148, 1006, 1033, 1035, 1037, 1042, 1045, 1049, 1051, 1054, 1057, 1062, 1066] : List Nat)) b hb))
  obtain ⟨h21, e1, hm⟩ := lt_some hm
  replace f : Fk S h21 g := by rw [e1]; exact up_fk4 f (hS _ (by decide))
  obtain ⟨r22, h23, he, hm⟩ := bd2_s hm
  replace f := fk_tr f (fkm_keeps _ _ he) (fun b hb => hS b ((by decide +kernel : ∀ b, b ∈ ([1073, 148] : List Nat) → b ∈ ([1073, 148, 1006, 1033, 1035, 1037, 1042, 1045, 1049, 1051, 1054, 1057, 1062, 1066] : List Nat)) b hb))
  obtain ⟨h24, e1, hm⟩ := lt_some hm
  replace f : Fk S h24 g := by rw [e1]; exact up_fk4 f (hS _ (by decide))
  obtain ⟨r25, h26, he, hm⟩ := bd2_s hm
  replace f := fk_tr f (fkm_keeps _ _ he) (fun b hb => hS b ((by decide +kernel : ∀ b, b ∈ ([1073, 148] : List Nat) → b ∈ ([1073, 148, 1006, 1033, 1035, 1037, 1042, 1045, 1049, 1051, 1054, 1057, 1062, 1066] : List Nat)) b hb))
  obtain ⟨h27, e1, hm⟩ := lt_some hm
  replace f : Fk S h27 g := by rw [e1]; exact up_fk4 f (hS _ (by decide))
  obtain ⟨r28, h29, he, hm⟩ := bd2_s hm
  replace f := fk_tr f (fkm_keeps _ _ he) (fun b hb => hS b ((by decide +kernel : ∀ b, b ∈ ([1073, 148] : List Nat) → b ∈ ([1073, 148, 1006, 1033, 1035, 1037, 1042, 1045, 1049, 1051, 1054, 1057, 1062, 1066] : List Nat)) b hb))
  obtain ⟨h30, e1, hm⟩ := lt_some hm
  replace f : Fk S h30 g := by rw [e1]; exact up_fk4 f (hS _ (by decide))
  obtain ⟨r31, h32, he, hm⟩ := bd2_s hm
  replace f := fk_tr f (fkm_keeps _ _ he) (fun b hb => hS b ((by decide +kernel : ∀ b, b ∈ ([1073, 148] : List Nat) → b ∈ ([1073, 148, 1006, 1033, 1035, 1037, 1042, 1045, 1049, 1051, 1054, 1057, 1062, 1066] : List Nat)) b hb))
  obtain ⟨h33, e1, hm⟩ := lt_some hm
  replace f : Fk S h33 g := by rw [e1]; exact up_fk4 f (hS _ (by decide))
  obtain ⟨r34, h35, he, hm⟩ := bd2_s hm
  replace f := fk_tr f (fkm_keeps _ _ he) (fun b hb => hS b ((by decide +kernel : ∀ b, b ∈ ([1073, 148] : List Nat) → b ∈ ([1073, 148, 1006, 1033, 1035, 1037, 1042, 1045, 1049, 1051, 1054, 1057, 1062, 1066] : List Nat)) b hb))
  obtain ⟨h36, e1, hm⟩ := lt_some hm
  replace f : Fk S h36 g := by rw [e1]; exact up_fk4 f (hS _ (by decide))
  cases hm
  exact f
def FKdm_keepsTold : List Nat := [1073, 148, 122, 121, 137, 138, 135, 132, 129, 133, 134, 144, 145, 127, 108, 109, 123, 141]
theorem wk_m_keepsTold_L2 (k0 : PH → Option (PH)) (S : List Nat) (g : PH) (r : PH) (hS : ∀ b, b ∈ ([1073, 148, 108, 109, 123, 141] : List Nat) → b ∈ S) (kk0 : ∀ (y0 : PH), k0 y0 = some r → Fk S y0 g → Fk S r g) : ∀ (n : Nat) (v1 : Int32) (hv : PH), mm_keepsTold_L2 k0 n v1 hv = some r → Fk S hv g → Fk S r g := by
  intro n
  induction n with
  | zero => intro v1 hv hm; cases hm
  | succ n ih =>
    intro v1 hv hm f
    unfold mm_keepsTold_L2 at hm
    rcases ite_or hm with ⟨hc, hm⟩ | ⟨hc, hm⟩
    · exact kk0 _ hm f
    · obtain ⟨-, hm⟩ := ck_s hm
      obtain ⟨r1, h2, he, hm⟩ := bd2_s hm
      replace f := fk_tr f (fkm_keeps _ _ he) (fun b hb => hS b ((by decide +kernel : ∀ b, b ∈ ([1073, 148] : List Nat) → b ∈ ([1073, 148, 108, 109, 123, 141] : List Nat)) b hb))
      obtain ⟨-, hm⟩ := ck_s hm
      obtain ⟨h3, e1, hm⟩ := lt_some hm
      replace f : Fk S h3 g := by rw [e1]; exact up_fk f (by decide) (hS _ (by decide))
      obtain ⟨-, hm⟩ := ck_s hm
      obtain ⟨r4, h5, he, hm⟩ := bd2_s hm
      replace f := fk_tr f (fkm_keeps _ _ he) (fun b hb => hS b ((by decide +kernel : ∀ b, b ∈ ([1073, 148] : List Nat) → b ∈ ([1073, 148, 108, 109, 123, 141] : List Nat)) b hb))
      obtain ⟨-, hm⟩ := ck_s hm
      obtain ⟨h6, e1, hm⟩ := lt_some hm
      replace f : Fk S h6 g := by rw [e1]; exact up_fk f (by decide) (hS _ (by decide))
      obtain ⟨-, hm⟩ := ck_s hm
      obtain ⟨r7, h8, he, hm⟩ := bd2_s hm
      replace f := fk_tr f (fkm_keeps _ _ he) (fun b hb => hS b ((by decide +kernel : ∀ b, b ∈ ([1073, 148] : List Nat) → b ∈ ([1073, 148, 108, 109, 123, 141] : List Nat)) b hb))
      obtain ⟨-, hm⟩ := ck_s hm
      obtain ⟨h9, e1, hm⟩ := lt_some hm
      replace f : Fk S h9 g := by rw [e1]; exact up_fk f (by decide) (hS _ (by decide))
      obtain ⟨-, hm⟩ := ck_s hm
      obtain ⟨r10, h11, he, hm⟩ := bd2_s hm
      replace f := fk_tr f (fkm_keeps _ _ he) (fun b hb => hS b ((by decide +kernel : ∀ b, b ∈ ([1073, 148] : List Nat) → b ∈ ([1073, 148, 108, 109, 123, 141] : List Nat)) b hb))
      obtain ⟨-, hm⟩ := ck_s hm
      obtain ⟨h12, e1, hm⟩ := lt_some hm
      replace f : Fk S h12 g := by rw [e1]; exact up_fk f (by decide) (hS _ (by decide))
      exact ih _ _ hm f
theorem wk_m_keepsTold_L80 (k0 : PH → Option (PH)) (S : List Nat) (g : PH) (r : PH) (hS : ∀ b, b ∈ ([1073, 148, 127] : List Nat) → b ∈ S) (kk0 : ∀ (y0 : PH), k0 y0 = some r → Fk S y0 g → Fk S r g) : ∀ (n : Nat) (v1 : Int32) (hv : PH), mm_keepsTold_L80 k0 n v1 hv = some r → Fk S hv g → Fk S r g := by
  intro n
  induction n with
  | zero => intro v1 hv hm; cases hm
  | succ n ih =>
    intro v1 hv hm f
    unfold mm_keepsTold_L80 at hm
    rcases ite_or hm with ⟨hc, hm⟩ | ⟨hc, hm⟩
    · exact kk0 _ hm f
    · obtain ⟨-, hm⟩ := ck_s hm
      obtain ⟨r14, h15, he, hm⟩ := bd2_s hm
      replace f := fk_tr f (fkm_keeps _ _ he) (fun b hb => hS b ((by decide +kernel : ∀ b, b ∈ ([1073, 148] : List Nat) → b ∈ ([1073, 148, 127] : List Nat)) b hb))
      obtain ⟨-, hm⟩ := ck_s hm
      obtain ⟨h16, e1, hm⟩ := lt_some hm
      replace f : Fk S h16 g := by rw [e1]; exact up_fk f (by decide) (hS _ (by decide))
      exact ih _ _ hm f
theorem wk_m_keepsTold_L110 (k0 : PH → Option (PH)) (S : List Nat) (g : PH) (r : PH) (hS : ∀ b, b ∈ ([1073, 148, 129, 133, 134, 144, 145] : List Nat) → b ∈ S) (kk0 : ∀ (y0 : PH), k0 y0 = some r → Fk S y0 g → Fk S r g) : ∀ (n : Nat) (v1 : Int32) (hv : PH), mm_keepsTold_L110 k0 n v1 hv = some r → Fk S hv g → Fk S r g := by
  intro n
  induction n with
  | zero => intro v1 hv hm; cases hm
  | succ n ih =>
    intro v1 hv hm f
    unfold mm_keepsTold_L110 at hm
    rcases ite_or hm with ⟨hc, hm⟩ | ⟨hc, hm⟩
    · exact kk0 _ hm f
    · obtain ⟨-, hm⟩ := ck_s hm
      obtain ⟨r18, h19, he, hm⟩ := bd2_s hm
      replace f := fk_tr f (fkm_keeps _ _ he) (fun b hb => hS b ((by decide +kernel : ∀ b, b ∈ ([1073, 148] : List Nat) → b ∈ ([1073, 148, 129, 133, 134, 144, 145] : List Nat)) b hb))
      obtain ⟨-, hm⟩ := ck_s hm
      obtain ⟨h20, e1, hm⟩ := lt_some hm
      replace f : Fk S h20 g := by rw [e1]; exact up_fk f (by decide) (hS _ (by decide))
      obtain ⟨-, hm⟩ := ck_s hm
      obtain ⟨r21, h22, he, hm⟩ := bd2_s hm
      replace f := fk_tr f (fkm_keeps _ _ he) (fun b hb => hS b ((by decide +kernel : ∀ b, b ∈ ([1073, 148] : List Nat) → b ∈ ([1073, 148, 129, 133, 134, 144, 145] : List Nat)) b hb))
      obtain ⟨-, hm⟩ := ck_s hm
      obtain ⟨h23, e1, hm⟩ := lt_some hm
      replace f : Fk S h23 g := by rw [e1]; exact up_fk f (by decide) (hS _ (by decide))
      obtain ⟨-, hm⟩ := ck_s hm
      obtain ⟨r24, h25, he, hm⟩ := bd2_s hm
      replace f := fk_tr f (fkm_keeps _ _ he) (fun b hb => hS b ((by decide +kernel : ∀ b, b ∈ ([1073, 148] : List Nat) → b ∈ ([1073, 148, 129, 133, 134, 144, 145] : List Nat)) b hb))
      obtain ⟨-, hm⟩ := ck_s hm
      obtain ⟨h26, e1, hm⟩ := lt_some hm
      replace f : Fk S h26 g := by rw [e1]; exact up_fk f (by decide) (hS _ (by decide))
      obtain ⟨-, hm⟩ := ck_s hm
      obtain ⟨r27, h28, he, hm⟩ := bd2_s hm
      replace f := fk_tr f (fkm_keeps _ _ he) (fun b hb => hS b ((by decide +kernel : ∀ b, b ∈ ([1073, 148] : List Nat) → b ∈ ([1073, 148, 129, 133, 134, 144, 145] : List Nat)) b hb))
      obtain ⟨-, hm⟩ := ck_s hm
      obtain ⟨h29, e1, hm⟩ := lt_some hm
      replace f : Fk S h29 g := by rw [e1]; exact up_fk f (by decide) (hS _ (by decide))
      obtain ⟨-, hm⟩ := ck_s hm
      obtain ⟨r30, h31, he, hm⟩ := bd2_s hm
      replace f := fk_tr f (fkm_keeps _ _ he) (fun b hb => hS b ((by decide +kernel : ∀ b, b ∈ ([1073, 148] : List Nat) → b ∈ ([1073, 148, 129, 133, 134, 144, 145] : List Nat)) b hb))
      obtain ⟨-, hm⟩ := ck_s hm
      obtain ⟨h32, e1, hm⟩ := lt_some hm
      replace f : Fk S h32 g := by rw [e1]; exact up_fk f (by decide) (hS _ (by decide))
      exact ih _ _ hm f
theorem wk_m_keepsTold_L204 (k0 : PH → Option (PH)) (S : List Nat) (g : PH) (r : PH) (hS : ∀ b, b ∈ ([1073, 148, 132] : List Nat) → b ∈ S) (kk0 : ∀ (y0 : PH), k0 y0 = some r → Fk S y0 g → Fk S r g) : ∀ (n : Nat) (v1 : Int32) (hv : PH), mm_keepsTold_L204 k0 n v1 hv = some r → Fk S hv g → Fk S r g := by
  intro n
  induction n with
  | zero => intro v1 hv hm; cases hm
  | succ n ih =>
    intro v1 hv hm f
    unfold mm_keepsTold_L204 at hm
    rcases ite_or hm with ⟨hc, hm⟩ | ⟨hc, hm⟩
    · exact kk0 _ hm f
    · obtain ⟨-, hm⟩ := ck_s hm
      obtain ⟨r34, h35, he, hm⟩ := bd2_s hm
      replace f := fk_tr f (fkm_keeps _ _ he) (fun b hb => hS b ((by decide +kernel : ∀ b, b ∈ ([1073, 148] : List Nat) → b ∈ ([1073, 148, 132] : List Nat)) b hb))
      obtain ⟨-, hm⟩ := ck_s hm
      obtain ⟨h36, e1, hm⟩ := lt_some hm
      replace f : Fk S h36 g := by rw [e1]; exact up_fk f (by decide) (hS _ (by decide))
      exact ih _ _ hm f
theorem wk_m_keepsTold_L233 (k0 : PH → Option (PH)) (S : List Nat) (g : PH) (r : PH) (hS : ∀ b, b ∈ ([1073, 148, 135] : List Nat) → b ∈ S) (kk0 : ∀ (y0 : PH), k0 y0 = some r → Fk S y0 g → Fk S r g) : ∀ (n : Nat) (v1 : Int32) (hv : PH), mm_keepsTold_L233 k0 n v1 hv = some r → Fk S hv g → Fk S r g := by
  intro n
  induction n with
  | zero => intro v1 hv hm; cases hm
  | succ n ih =>
    intro v1 hv hm f
    unfold mm_keepsTold_L233 at hm
    rcases ite_or hm with ⟨hc, hm⟩ | ⟨hc, hm⟩
    · exact kk0 _ hm f
    · obtain ⟨-, hm⟩ := ck_s hm
      obtain ⟨r38, h39, he, hm⟩ := bd2_s hm
      replace f := fk_tr f (fkm_keeps _ _ he) (fun b hb => hS b ((by decide +kernel : ∀ b, b ∈ ([1073, 148] : List Nat) → b ∈ ([1073, 148, 135] : List Nat)) b hb))
      obtain ⟨-, hm⟩ := ck_s hm
      obtain ⟨h40, e1, hm⟩ := lt_some hm
      replace f : Fk S h40 g := by rw [e1]; exact up_fk f (by decide) (hS _ (by decide))
      exact ih _ _ hm f
theorem wk_m_keepsTold_L263 (k0 : PH → Option (PH)) (S : List Nat) (g : PH) (r : PH) (hS : ∀ b, b ∈ ([1073, 148, 137, 138] : List Nat) → b ∈ S) (kk0 : ∀ (y0 : PH), k0 y0 = some r → Fk S y0 g → Fk S r g) : ∀ (n : Nat) (v1 : Int32) (hv : PH), mm_keepsTold_L263 k0 n v1 hv = some r → Fk S hv g → Fk S r g := by
  intro n
  induction n with
  | zero => intro v1 hv hm; cases hm
  | succ n ih =>
    intro v1 hv hm f
    unfold mm_keepsTold_L263 at hm
    rcases ite_or hm with ⟨hc, hm⟩ | ⟨hc, hm⟩
    · exact kk0 _ hm f
    · obtain ⟨hi, hm⟩ := ck_s hm
      have hlt : ix v1 < 6 := Nat.not_le.mp fun q => hi (Or.inr q)
      obtain ⟨r42, h43, he, hm⟩ := bd2_s hm
      replace f := fk_tr f (fkm_keeps _ _ he) (fun b hb => hS b ((by decide +kernel : ∀ b, b ∈ ([1073, 148] : List Nat) → b ∈ ([1073, 148, 137, 138] : List Nat)) b hb))
      obtain ⟨hi, hm⟩ := ck_s hm
      have hlt : ix v1 < 6 := Nat.not_le.mp fun q => hi (Or.inr q)
      obtain ⟨h44, e1, hm⟩ := lt_some hm
      replace f : Fk S h44 g := by rw [e1]; exact up_fk f (by decide) (hS _ (by decide))
      obtain ⟨hi, hm⟩ := ck_s hm
      have hlt : ix v1 < 6 := Nat.not_le.mp fun q => hi (Or.inr q)
      obtain ⟨r45, h46, he, hm⟩ := bd2_s hm
      replace f := fk_tr f (fkm_keeps _ _ he) (fun b hb => hS b ((by decide +kernel : ∀ b, b ∈ ([1073, 148] : List Nat) → b ∈ ([1073, 148, 137, 138] : List Nat)) b hb))
      obtain ⟨hi, hm⟩ := ck_s hm
      have hlt : ix v1 < 6 := Nat.not_le.mp fun q => hi (Or.inr q)
      obtain ⟨h47, e1, hm⟩ := lt_some hm
      replace f : Fk S h47 g := by rw [e1]; exact up_fk f (by decide) (hS _ (by decide))
      exact ih _ _ hm f
theorem wk_m_keepsTold_L309 (k0 : PH → Option (PH)) (S : List Nat) (g : PH) (r : PH) (hS : ∀ b, b ∈ ([1073, 148, 121] : List Nat) → b ∈ S) (kk0 : ∀ (y0 : PH), k0 y0 = some r → Fk S y0 g → Fk S r g) : ∀ (n : Nat) (v1 : Int32) (hv : PH), mm_keepsTold_L309 k0 n v1 hv = some r → Fk S hv g → Fk S r g := by
  intro n
  induction n with
  | zero => intro v1 hv hm; cases hm
  | succ n ih =>
    intro v1 hv hm f
    unfold mm_keepsTold_L309 at hm
    rcases ite_or hm with ⟨hc, hm⟩ | ⟨hc, hm⟩
    · exact kk0 _ hm f
    · obtain ⟨-, hm⟩ := ck_s hm
      obtain ⟨r49, h50, he, hm⟩ := bd2_s hm
      replace f := fk_tr f (fkm_keeps _ _ he) (fun b hb => hS b ((by decide +kernel : ∀ b, b ∈ ([1073, 148] : List Nat) → b ∈ ([1073, 148, 121] : List Nat)) b hb))
      obtain ⟨-, hm⟩ := ck_s hm
      obtain ⟨h51, e1, hm⟩ := lt_some hm
      replace f : Fk S h51 g := by rw [e1]; exact up_fk f (by decide) (hS _ (by decide))
      exact ih _ _ hm f
theorem wk_m_keepsTold_L339  (S : List Nat) (g : PH) (r : PH) (hS : ∀ b, b ∈ ([1073, 148, 122] : List Nat) → b ∈ S) : ∀ (n : Nat) (v1 : Int32) (hv : PH), mm_keepsTold_L339  n v1 hv = some r → Fk S hv g → Fk S r g := by
  intro n
  induction n with
  | zero => intro v1 hv hm; cases hm
  | succ n ih =>
    intro v1 hv hm f
    unfold mm_keepsTold_L339 at hm
    rcases ite_or hm with ⟨hc, hm⟩ | ⟨hc, hm⟩
    · cases hm
      exact f
    · obtain ⟨-, hm⟩ := ck_s hm
      obtain ⟨r53, h54, he, hm⟩ := bd2_s hm
      replace f := fk_tr f (fkm_keeps _ _ he) (fun b hb => hS b ((by decide +kernel : ∀ b, b ∈ ([1073, 148] : List Nat) → b ∈ ([1073, 148, 122] : List Nat)) b hb))
      obtain ⟨-, hm⟩ := ck_s hm
      obtain ⟨h55, e1, hm⟩ := lt_some hm
      replace f : Fk S h55 g := by rw [e1]; exact up_fk f (by decide) (hS _ (by decide))
      exact ih _ _ hm f
theorem fkm_keepsTold (h0 : PH) {r : PH} (hm : mm_keepsTold h0 = some r) : Fk (FKdm_keepsTold ) r h0 := by
  generalize hSe : FKdm_keepsTold = S
  have hS : ∀ b, b ∈ ([1073, 148, 122, 121, 137, 138, 135, 132, 129, 133, 134, 144, 145, 127, 108, 109, 123, 141] : List Nat) → b ∈ S := by rw [← hSe]; exact fun b hb => hb
  generalize hge : h0 = g at ⊢
  have f : Fk S h0 g := by rw [hge]; exact fun _ _ _ => rfl
  unfold mm_keepsTold at hm
  refine wk_m_keepsTold_L2 _ S g _ (fun b hb => hS b ((by decide +kernel : ∀ b, b ∈ ([1073, 148, 108, 109, 123, 141] : List Nat) → b ∈ ([1073, 148, 122, 121, 137, 138, 135, 132, 129, 133, 134, 144, 145, 127, 108, 109, 123, 141] : List Nat)) b hb)) (fun h13 hm f => ?_) _ _ _ hm f
  · refine wk_m_keepsTold_L80 _ S g _ (fun b hb => hS b ((by decide +kernel : ∀ b, b ∈ ([1073, 148, 127] : List Nat) → b ∈ ([1073, 148, 122, 121, 137, 138, 135, 132, 129, 133, 134, 144, 145, 127, 108, 109, 123, 141] : List Nat)) b hb)) (fun h17 hm f => ?_) _ _ _ hm f
    · refine wk_m_keepsTold_L110 _ S g _ (fun b hb => hS b ((by decide +kernel : ∀ b, b ∈ ([1073, 148, 129, 133, 134, 144, 145] : List Nat) → b ∈ ([1073, 148, 122, 121, 137, 138, 135, 132, 129, 133, 134, 144, 145, 127, 108, 109, 123, 141] : List Nat)) b hb)) (fun h33 hm f => ?_) _ _ _ hm f
      · refine wk_m_keepsTold_L204 _ S g _ (fun b hb => hS b ((by decide +kernel : ∀ b, b ∈ ([1073, 148, 132] : List Nat) → b ∈ ([1073, 148, 122, 121, 137, 138, 135, 132, 129, 133, 134, 144, 145, 127, 108, 109, 123, 141] : List Nat)) b hb)) (fun h37 hm f => ?_) _ _ _ hm f
        · refine wk_m_keepsTold_L233 _ S g _ (fun b hb => hS b ((by decide +kernel : ∀ b, b ∈ ([1073, 148, 135] : List Nat) → b ∈ ([1073, 148, 122, 121, 137, 138, 135, 132, 129, 133, 134, 144, 145, 127, 108, 109, 123, 141] : List Nat)) b hb)) (fun h41 hm f => ?_) _ _ _ hm f
          · refine wk_m_keepsTold_L263 _ S g _ (fun b hb => hS b ((by decide +kernel : ∀ b, b ∈ ([1073, 148, 137, 138] : List Nat) → b ∈ ([1073, 148, 122, 121, 137, 138, 135, 132, 129, 133, 134, 144, 145, 127, 108, 109, 123, 141] : List Nat)) b hb)) (fun h48 hm f => ?_) _ _ _ hm f
            · refine wk_m_keepsTold_L309 _ S g _ (fun b hb => hS b ((by decide +kernel : ∀ b, b ∈ ([1073, 148, 121] : List Nat) → b ∈ ([1073, 148, 122, 121, 137, 138, 135, 132, 129, 133, 134, 144, 145, 127, 108, 109, 123, 141] : List Nat)) b hb)) (fun h52 hm f => ?_) _ _ _ hm f
              · exact wk_m_keepsTold_L339 S g _ (fun b hb => hS b ((by decide +kernel : ∀ b, b ∈ ([1073, 148, 122] : List Nat) → b ∈ ([1073, 148, 122, 121, 137, 138, 135, 132, 129, 133, 134, 144, 145, 127, 108, 109, 123, 141] : List Nat)) b hb)) _ _ _ hm f
def FKdm_image (p1 : Int32) : List Nat := [1000, 1071, 1072, 1073, 148, 1006, 1033, 1035, 1037, 1042, 1045, 1049, 1051, 1054, 1057, 1062, 1066, 122, 121, 137, 138, 135, 132, 129, 133, 134, 144, 145, 127, 108, 109, 123, 141, 113, 118, 119, 114, 115, 116, 117, 1003, 110, 105]
theorem wk_m_image_L35 (p1 : Int32) (k0 : PH → Option (Int32 × PH)) (S : List Nat) (g : PH) (r : Int32 × PH) (hS : ∀ b, b ∈ ([1073, 148, 105] : List Nat) → b ∈ S) (kk0 : ∀ (y0 : PH), k0 y0 = some r → Fk S y0 g → Fk S r.2 g) : ∀ (n : Nat) (v2 : Int32) (hv : PH), mm_image_L35 p1 k0 n v2 hv = some r → Fk S hv g → Fk S r.2 g := by
  intro n
  induction n with
  | zero => intro v2 hv hm; cases hm
  | succ n ih =>
    intro v2 hv hm f
    unfold mm_image_L35 at hm
    rcases ite_or hm with ⟨hc, hm⟩ | ⟨hc, hm⟩
    · exact kk0 _ hm f
    · obtain ⟨-, hm⟩ := ck_s hm
      obtain ⟨r6, h7, he, hm⟩ := bd2_s hm
      replace f := fk_tr f (fkm_keeps _ _ he) (fun b hb => hS b ((by decide +kernel : ∀ b, b ∈ ([1073, 148] : List Nat) → b ∈ ([1073, 148, 105] : List Nat)) b hb))
      obtain ⟨-, hm⟩ := ck_s hm
      obtain ⟨h8, e1, hm⟩ := lt_some hm
      replace f : Fk S h8 g := by rw [e1]; exact up_fk f (by decide) (hS _ (by decide))
      exact ih _ _ hm f
theorem wk_m_image_L73 (p1 : Int32) (k0 : PH → Option (Int32 × PH)) (S : List Nat) (g : PH) (r : Int32 × PH) (hS : ∀ b, b ∈ ([1073, 148, 110] : List Nat) → b ∈ S) (kk0 : ∀ (y0 : PH), k0 y0 = some r → Fk S y0 g → Fk S r.2 g) : ∀ (n : Nat) (v2 : Int32) (hv : PH), mm_image_L73 p1 k0 n v2 hv = some r → Fk S hv g → Fk S r.2 g := by
  intro n
  induction n with
  | zero => intro v2 hv hm; cases hm
  | succ n ih =>
    intro v2 hv hm f
    unfold mm_image_L73 at hm
    rcases ite_or hm with ⟨hc, hm⟩ | ⟨hc, hm⟩
    · exact kk0 _ hm f
    · obtain ⟨-, hm⟩ := ck_s hm
      obtain ⟨r12, h13, he, hm⟩ := bd2_s hm
      replace f := fk_tr f (fkm_keeps _ _ he) (fun b hb => hS b ((by decide +kernel : ∀ b, b ∈ ([1073, 148] : List Nat) → b ∈ ([1073, 148, 110] : List Nat)) b hb))
      obtain ⟨-, hm⟩ := ck_s hm
      obtain ⟨h14, e1, hm⟩ := lt_some hm
      replace f : Fk S h14 g := by rw [e1]; exact up_fk f (by decide) (hS _ (by decide))
      exact ih _ _ hm f
theorem fkm_image (p1 : Int32) (h0 : PH) {r : Int32 × PH} (hm : mm_image p1 h0 = some r) : Fk (FKdm_image p1) r.2 h0 := by
  generalize hSe : FKdm_image p1 = S
  have hS : ∀ b, b ∈ ([1000, 1071, 1072, 1073, 148, 1006, 1033, 1035, 1037, 1042, 1045, 1049, 1051, 1054, 1057, 1062, 1066, 122, 121, 137, 138, 135, 132, 129, 133, 134, 144, 145, 127, 108, 109, 123, 141, 113, 118, 119, 114, 115, 116, 117, 1003, 110, 105] : List Nat) → b ∈ S := by rw [← hSe]; exact fun b hb => hb
  generalize hge : h0 = g at ⊢
  have f : Fk S h0 g := by rw [hge]; exact fun _ _ _ => rfl
  unfold mm_image at hm
  obtain ⟨h1, e1, hm⟩ := lt_some hm
  replace f : Fk S h1 g := by rw [e1]; exact up_fk4 f (hS _ (by decide))
  refine v_j0 (Fk S r.2 g) hm (fun hm => ?_) (fun j2 kj2 hm => ?_)
  · obtain ⟨-, hm⟩ := kz_s hm
    obtain ⟨h3, e1, hm⟩ := lt_some hm
    replace f : Fk S h3 g := by rw [e1]; exact up_fk4 f (hS _ (by decide))
    obtain ⟨h4, e1, hm⟩ := lt_some hm
    replace f : Fk S h4 g := by rw [e1]; exact up_fk4 f (hS _ (by decide))
    obtain ⟨h5, e1, hm⟩ := lt_some hm
    replace f : Fk S h5 g := by rw [e1]; exact up_fk4 f (hS _ (by decide))
    refine wk_m_image_L35 _ _ S g _ (fun b hb => hS b ((by decide +kernel : ∀ b, b ∈ ([1073, 148, 105] : List Nat) → b ∈ ([1000, 1071, 1072, 1073, 148, 1006, 1033, 1035, 1037, 1042, 1045, 1049, 1051, 1054, 1057, 1062, 1066, 122, 121, 137, 138, 135, 132, 129, 133, 134, 144, 145, 127, 108, 109, 123, 141, 113, 118, 119, 114, 115, 116, 117, 1003, 110, 105] : List Nat)) b hb)) (fun h9 hm f => ?_) _ _ _ hm f
    · obtain ⟨h10, he, hm⟩ := bd_s hm
      replace f := fk_tr f (fkm_keepsMany _ he) (fun b hb => hS b ((by decide +kernel : ∀ b, b ∈ ([1073, 148, 1006, 1033, 1035, 1037, 1042, 1045, 1049, 1051, 1054, 1057, 1062, 1066] : List Nat) → b ∈ ([1000, 1071, 1072, 1073, 148, 1006, 1033, 1035, 1037, 1042, 1045, 1049, 1051, 1054, 1057, 1062, 1066, 122, 121, 137, 138, 135, 132, 129, 133, 134, 144, 145, 127, 108, 109, 123, 141, 113, 118, 119, 114, 115, 116, 117, 1003, 110, 105] : List Nat)) b hb))
      obtain ⟨h11, he, hm⟩ := bd_s hm
      replace f := fk_tr f (fkm_keepsTold _ he) (fun b hb => hS b ((by decide +kernel : ∀ b, b ∈ ([1073, 148, 122, 121, 137, 138, 135, 132, 129, 133, 134, 144, 145, 127, 108, 109, 123, 141] : List Nat) → b ∈ ([1000, 1071, 1072, 1073, 148, 1006, 1033, 1035, 1037, 1042, 1045, 1049, 1051, 1054, 1057, 1062, 1066, 122, 121, 137, 138, 135, 132, 129, 133, 134, 144, 145, 127, 108, 109, 123, 141, 113, 118, 119, 114, 115, 116, 117, 1003, 110, 105] : List Nat)) b hb))
      refine wk_m_image_L73 _ _ S g _ (fun b hb => hS b ((by decide +kernel : ∀ b, b ∈ ([1073, 148, 110] : List Nat) → b ∈ ([1000, 1071, 1072, 1073, 148, 1006, 1033, 1035, 1037, 1042, 1045, 1049, 1051, 1054, 1057, 1062, 1066, 122, 121, 137, 138, 135, 132, 129, 133, 134, 144, 145, 127, 108, 109, 123, 141, 113, 118, 119, 114, 115, 116, 117, 1003, 110, 105] : List Nat)) b hb)) (fun h15 hm f => ?_) _ _ _ hm f
      · obtain ⟨h16, he, hm⟩ := bd_s hm
        replace f := fk_tr f (fkm_keepsLaw _ he) (fun b hb => hS b ((by decide +kernel : ∀ b, b ∈ ([1073, 148, 113, 118, 119, 114, 115, 116, 117] : List Nat) → b ∈ ([1000, 1071, 1072, 1073, 148, 1006, 1033, 1035, 1037, 1042, 1045, 1049, 1051, 1054, 1057, 1062, 1066, 122, 121, 137, 138, 135, 132, 129, 133, 134, 144, 145, 127, 108, 109, 123, 141, 113, 118, 119, 114, 115, 116, 117, 1003, 110, 105] : List Nat)) b hb))
        rcases ite_or hm with ⟨hc, hm⟩ | ⟨hc, hm⟩
        · obtain ⟨h17, e1, hm⟩ := lt_some hm
          replace f : Fk S h17 g := by rw [e1]; exact up_fk4 f (hS _ (by decide))
          cases hm
          exact f
        · cases hm
          exact f
  · rcases ite_or hm with ⟨hc, hm⟩ | ⟨hc, hm⟩
    · rcases ite_or hm with ⟨hc, hm⟩ | ⟨hc, hm⟩
      · cases hm
        exact f
      · exact kj2 hm
    · exact kj2 hm
def FKdm_look (p1 : Int32) : List Nat := [1000]
theorem fkm_look (p1 : Int32) (h0 : PH) {r : Int32 × PH} (hm : mm_look p1 h0 = some r) : Fk (FKdm_look p1) r.2 h0 := by
  generalize hSe : FKdm_look p1 = S
  have hS : ∀ b, b ∈ ([1000] : List Nat) → b ∈ S := by rw [← hSe]; exact fun b hb => hb
  generalize hge : h0 = g at ⊢
  have f : Fk S h0 g := by rw [hge]; exact fun _ _ _ => rfl
  unfold mm_look at hm
  obtain ⟨h1, e1, hm⟩ := lt_some hm
  replace f : Fk S h1 g := by rw [e1]; exact up_fk4 f (hS _ (by decide))
  rcases ite_or hm with ⟨hc, hm⟩ | ⟨hc, hm⟩
  · cases hm
    exact f
  · rcases ite_or hm with ⟨hc, hm⟩ | ⟨hc, hm⟩
    · obtain ⟨-, hm⟩ := ck_s hm
      cases hm
      exact f
    · rcases ite_or hm with ⟨hc, hm⟩ | ⟨hc, hm⟩
      · obtain ⟨-, hm⟩ := ck_s hm
        cases hm
        exact f
      · rcases ite_or hm with ⟨hc, hm⟩ | ⟨hc, hm⟩
        · obtain ⟨-, hm⟩ := ck_s hm
          cases hm
          exact f
        · rcases ite_or hm with ⟨hc, hm⟩ | ⟨hc, hm⟩
          · obtain ⟨-, hm⟩ := ck_s hm
            cases hm
            exact f
          · rcases ite_or hm with ⟨hc, hm⟩ | ⟨hc, hm⟩
            · obtain ⟨-, hm⟩ := ck_s hm
              cases hm
              exact f
            · rcases ite_or hm with ⟨hc, hm⟩ | ⟨hc, hm⟩
              · obtain ⟨r2, -, hm⟩ := bd_s hm
                cases hm
                exact f
              · rcases ite_or hm with ⟨hc, hm⟩ | ⟨hc, hm⟩
                · obtain ⟨-, hm⟩ := ck_s hm
                  cases hm
                  exact f
                · rcases ite_or hm with ⟨hc, hm⟩ | ⟨hc, hm⟩
                  · obtain ⟨-, hm⟩ := ck_s hm
                    cases hm
                    exact f
                  · rcases ite_or hm with ⟨hc, hm⟩ | ⟨hc, hm⟩
                    · obtain ⟨-, hm⟩ := ck_s hm
                      cases hm
                      exact f
                    · rcases ite_or hm with ⟨hc, hm⟩ | ⟨hc, hm⟩
                      · cases hm
                        exact f
                      · rcases ite_or hm with ⟨hc, hm⟩ | ⟨hc, hm⟩
                        · cases hm
                          exact f
                        · rcases ite_or hm with ⟨hc, hm⟩ | ⟨hc, hm⟩
                          · cases hm
                            exact f
                          · rcases ite_or hm with ⟨hc, hm⟩ | ⟨hc, hm⟩
                            · cases hm
                              exact f
                            · cases hm
                              exact f
