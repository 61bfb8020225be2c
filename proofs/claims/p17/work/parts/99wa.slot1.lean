/-! FRAMES of slot 1 (a borough's count of houses) over the class's methods. Printed by wip/gen/fph.py -/
def Fh (S : List Nat) (h g : PH) : Prop := ∀ b, b ∉ S → h b 1 = g b 1
theorem up_fh {S : List Nat} {h g : PH} {a j : Nat} {x : Int32} (f : Fh S h g) (ha : a ∈ S) : Fh S (up h a j x) g := fun b hb => by
  have : ¬ b = a := fun e => hb (by rw [e]; exact ha)
  rw [up_oc this]
  exact f b hb
theorem up_fh0 {S : List Nat} {h g : PH} {a j : Nat} {x : Int32} (f : Fh S h g) (hj : 1 ≠ j) : Fh S (up h a j x) g := fun b hb => by
  by_cases e : b = a
  · rw [e, up_oj hj]; exact (by rw [← e]; exact f b hb)
  · rw [up_oc e]; exact f b hb
theorem cpy_fh {S : List Nat} {h g : PH} {a0 a sp dp n : Nat} (f : Fh S h g) (ha : a ∈ S) : Fh S (cpy h a0 a sp dp n) g := fun b hb => by
  have : ¬ b = a := fun e => hb (by rw [e]; exact ha)
  simp only [cpy, setC, this, if_false]
  exact f b hb
theorem fh_tr {S T : List Nat} {h k g : PH} (f : Fh S h g) (e : Fh T k h) (i : ∀ b, b ∈ T → b ∈ S) : Fh S k g := fun b hb => (e b (fun q => hb (i b q))).trans (f b hb)
def FHdB_write (a0 : Nat) (p1 : Int32) (p2 : Int32) (p3 : Int32) : List Nat := [(a0 + 1)]
theorem fhB_write (a0 : Nat) (p1 : Int32) (p2 : Int32) (p3 : Int32) (h0 : PH) {r : PH} (hm : mB_write a0 p1 p2 p3 h0 = some r) : Fh (FHdB_write a0 p1 p2 p3) r h0 := by
  generalize hSe : FHdB_write a0 p1 p2 p3 = S
  have hS : ∀ b, b ∈ ([(a0 + 1)] : List Nat) → b ∈ S := by rw [← hSe]; exact fun b hb => hb
  generalize hge : h0 = g at ⊢
  have f : Fh S h0 g := by rw [hge]; exact fun _ _ => rfl
  unfold mB_write at hm
  rcases ite_or hm with ⟨hc, hm⟩ | ⟨hc, hm⟩
  · cases hm
    exact f
  · rcases ite_or hm with ⟨hc, hm⟩ | ⟨hc, hm⟩
    · cases hm
      exact f
    · rcases ite_or hm with ⟨hc, hm⟩ | ⟨hc, hm⟩
      · cases hm
        exact f
      · rcases ite_or hm with ⟨hc, hm⟩ | ⟨hc, hm⟩
        · cases hm
          exact f
        · obtain ⟨-, hm⟩ := ck_s hm
          obtain ⟨h1, e1, hm⟩ := lt_some hm
          replace f : Fh S h1 g := by rw [e1]; exact up_fh f (hS _ (by first | simp; done | (simp only [List.mem_cons, List.not_mem_nil, or_false]; omega)))
          cases hm
          exact f
def FHdB_build (a0 : Nat) (p1 : Int32) (p2 : Int32) (p3 : Int32) : List Nat := [a0, (a0 + 1)]
theorem wh_B_build_L19 (a0 : Nat) (p1 : Int32) (p2 : Int32) (p3 : Int32) (p4 : Int32) (k0 : PH → Option (Int32 × PH)) (S : List Nat) (g : PH) (r : Int32 × PH) (hS : ∀ b, b ∈ ([(a0 + 1)] : List Nat) → b ∈ S) (kk0 : ∀ (y0 : PH), k0 y0 = some r → Fh S y0 g → Fh S r.2 g) : ∀ (n : Nat) (v5 : Int32) (hv : PH), mB_build_L19 a0 p1 p2 p3 p4 k0 n v5 hv = some r → Fh S hv g → Fh S r.2 g := by
  intro n
  induction n with
  | zero => intro v5 hv hm; cases hm
  | succ n ih =>
    intro v5 hv hm f
    unfold mB_build_L19 at hm
    rcases ite_or hm with ⟨hc, hm⟩ | ⟨hc, hm⟩
    · exact kk0 _ hm f
    · obtain ⟨h3, he, hm⟩ := bd_s hm
      replace f := fh_tr f (fhB_write _ _ _ _ _ he) (fun b hb => hS b (by simp only [FHdB_write, List.mem_cons, List.not_mem_nil, or_false] at hb ⊢ <;> omega))
      exact ih _ _ hm f
theorem fhB_build (a0 : Nat) (p1 : Int32) (p2 : Int32) (p3 : Int32) (h0 : PH) {r : Int32 × PH} (hm : mB_build a0 p1 p2 p3 h0 = some r) : Fh (FHdB_build a0 p1 p2 p3) r.2 h0 := by
  generalize hSe : FHdB_build a0 p1 p2 p3 = S
  have hS : ∀ b, b ∈ ([a0, (a0 + 1)] : List Nat) → b ∈ S := by rw [← hSe]; exact fun b hb => hb
  generalize hge : h0 = g at ⊢
  have f : Fh S h0 g := by rw [hge]; exact fun _ _ => rfl
  unfold mB_build at hm
  obtain ⟨x1, -, hm⟩ := lt_some hm
  obtain ⟨h2, e1, hm⟩ := lt_some hm
  replace f : Fh S h2 g := by rw [e1]; exact up_fh f (hS _ (by first | simp; done | (simp only [List.mem_cons, List.not_mem_nil, or_false]; omega)))
  refine wh_B_build_L19 _ _ _ _ _ _ S g _ (fun b hb => hS b (by first | exact absurd hb List.not_mem_nil | (simp only [List.mem_cons, List.not_mem_nil, or_false] at hb ⊢ <;> omega))) (fun h4 hm f => ?_) _ _ _ hm f
  · obtain ⟨h5, he, hm⟩ := bd_s hm
    replace f := fh_tr f (fhB_write _ _ _ _ _ he) (fun b hb => hS b (by simp only [FHdB_write, List.mem_cons, List.not_mem_nil, or_false] at hb ⊢ <;> omega))
    obtain ⟨h6, he, hm⟩ := bd_s hm
    replace f := fh_tr f (fhB_write _ _ _ _ _ he) (fun b hb => hS b (by simp only [FHdB_write, List.mem_cons, List.not_mem_nil, or_false] at hb ⊢ <;> omega))
    obtain ⟨h7, he, hm⟩ := bd_s hm
    replace f := fh_tr f (fhB_write _ _ _ _ _ he) (fun b hb => hS b (by simp only [FHdB_write, List.mem_cons, List.not_mem_nil, or_false] at hb ⊢ <;> omega))
    obtain ⟨h8, he, hm⟩ := bd_s hm
    replace f := fh_tr f (fhB_write _ _ _ _ _ he) (fun b hb => hS b (by simp only [FHdB_write, List.mem_cons, List.not_mem_nil, or_false] at hb ⊢ <;> omega))
    obtain ⟨h9, he, hm⟩ := bd_s hm
    replace f := fh_tr f (fhB_write _ _ _ _ _ he) (fun b hb => hS b (by simp only [FHdB_write, List.mem_cons, List.not_mem_nil, or_false] at hb ⊢ <;> omega))
    obtain ⟨h10, he, hm⟩ := bd_s hm
    replace f := fh_tr f (fhB_write _ _ _ _ _ he) (fun b hb => hS b (by simp only [FHdB_write, List.mem_cons, List.not_mem_nil, or_false] at hb ⊢ <;> omega))
    obtain ⟨h11, he, hm⟩ := bd_s hm
    replace f := fh_tr f (fhB_write _ _ _ _ _ he) (fun b hb => hS b (by simp only [FHdB_write, List.mem_cons, List.not_mem_nil, or_false] at hb ⊢ <;> omega))
    cases hm
    exact f
def FHdB_thin (a0 : Nat) (p1 : Int32) (p2 : Int32) (p3 : Int32) : List Nat := [(a0 + 1)]
theorem fhB_thin (a0 : Nat) (p1 : Int32) (p2 : Int32) (p3 : Int32) (h0 : PH) {r : Int32 × PH} (hm : mB_thin a0 p1 p2 p3 h0 = some r) : Fh (FHdB_thin a0 p1 p2 p3) r.2 h0 := by
  generalize hSe : FHdB_thin a0 p1 p2 p3 = S
  have hS : ∀ b, b ∈ ([(a0 + 1)] : List Nat) → b ∈ S := by rw [← hSe]; exact fun b hb => hb
  generalize hge : h0 = g at ⊢
  have f : Fh S h0 g := by rw [hge]; exact fun _ _ => rfl
  unfold mB_thin at hm
  obtain ⟨r1, -, hm⟩ := bd_s hm
  obtain ⟨x2, -, hm⟩ := lt_some hm
  obtain ⟨h3, he, hm⟩ := bd_s hm
  replace f := fh_tr f (fhB_write _ _ _ _ _ he) (fun b hb => hS b (by simp only [FHdB_write, List.mem_cons, List.not_mem_nil, or_false] at hb ⊢ <;> omega))
  cases hm
  exact f
def FHdB_thicken (a0 : Nat) (p1 : Int32) (p2 : Int32) (p3 : Int32) : List Nat := [(a0 + 1)]
theorem fhB_thicken (a0 : Nat) (p1 : Int32) (p2 : Int32) (p3 : Int32) (h0 : PH) {r : PH} (hm : mB_thicken a0 p1 p2 p3 h0 = some r) : Fh (FHdB_thicken a0 p1 p2 p3) r h0 := by
  generalize hSe : FHdB_thicken a0 p1 p2 p3 = S
  have hS : ∀ b, b ∈ ([(a0 + 1)] : List Nat) → b ∈ S := by rw [← hSe]; exact fun b hb => hb
  generalize hge : h0 = g at ⊢
  have f : Fh S h0 g := by rw [hge]; exact fun _ _ => rfl
  unfold mB_thicken at hm
  obtain ⟨r1, -, hm⟩ := bd_s hm
  obtain ⟨h2, he, hm⟩ := bd_s hm
  replace f := fh_tr f (fhB_write _ _ _ _ _ he) (fun b hb => hS b (by simp only [FHdB_write, List.mem_cons, List.not_mem_nil, or_false] at hb ⊢ <;> omega))
  cases hm
  exact f
def FHdB_draw (a0 : Nat) (p1 : Int32) : List Nat := []
theorem fhB_draw (a0 : Nat) (p1 : Int32) (h0 : PH) {r : Int32 × PH} (hm : mB_draw a0 p1 h0 = some r) : Fh (FHdB_draw a0 p1) r.2 h0 := by
  generalize hSe : FHdB_draw a0 p1 = S
  have hS : ∀ b, b ∈ ([] : List Nat) → b ∈ S := by rw [← hSe]; exact fun b hb => hb
  generalize hge : h0 = g at ⊢
  have f : Fh S h0 g := by rw [hge]; exact fun _ _ => rfl
  unfold mB_draw at hm
  obtain ⟨h1, e1, hm⟩ := lt_some hm
  replace f : Fh S h1 g := by rw [e1]; exact up_fh0 f (by decide)
  rcases ite_or hm with ⟨hc, hm⟩ | ⟨hc, hm⟩
  · cases hm
    exact f
  · obtain ⟨-, hm⟩ := dz_s hm
    cases hm
    exact f
def FHdB_copyFrom (a0 : Nat) (a1 : Nat) : List Nat := [(a0 + 1), a0]
theorem fhB_copyFrom (a0 : Nat) (a1 : Nat) (h0 : PH) {r : PH} (hm : mB_copyFrom a0 a1 h0 = some r) : Fh (FHdB_copyFrom a0 a1) r h0 := by
  generalize hSe : FHdB_copyFrom a0 a1 = S
  have hS : ∀ b, b ∈ ([(a0 + 1), a0] : List Nat) → b ∈ S := by rw [← hSe]; exact fun b hb => hb
  generalize hge : h0 = g at ⊢
  have f : Fh S h0 g := by rw [hge]; exact fun _ _ => rfl
  unfold mB_copyFrom at hm
  obtain ⟨-, hm⟩ := cc_s hm
  obtain ⟨h1, e1, hm⟩ := lt_some hm
  replace f : Fh S h1 g := by rw [e1]; exact cpy_fh f (hS _ (by first | simp; done | (simp only [List.mem_cons, List.not_mem_nil, or_false]; omega)))
  obtain ⟨h2, e1, hm⟩ := lt_some hm
  replace f : Fh S h2 g := by rw [e1]; exact up_fh f (hS _ (by first | simp; done | (simp only [List.mem_cons, List.not_mem_nil, or_false]; omega)))
  obtain ⟨h3, e1, hm⟩ := lt_some hm
  replace f : Fh S h3 g := by rw [e1]; exact up_fh0 f (by decide)
  obtain ⟨h4, e1, hm⟩ := lt_some hm
  replace f : Fh S h4 g := by rw [e1]; exact up_fh0 f (by decide)
  obtain ⟨h5, e1, hm⟩ := lt_some hm
  replace f : Fh S h5 g := by rw [e1]; exact up_fh0 f (by decide)
  obtain ⟨h6, e1, hm⟩ := lt_some hm
  replace f : Fh S h6 g := by rw [e1]; exact up_fh0 f (by decide)
  obtain ⟨h7, e1, hm⟩ := lt_some hm
  replace f : Fh S h7 g := by rw [e1]; exact up_fh0 f (by decide)
  obtain ⟨h8, e1, hm⟩ := lt_some hm
  replace f : Fh S h8 g := by rw [e1]; exact up_fh0 f (by decide)
  cases hm
  exact f
def FHdR_add (a0 : Nat) (p1 : Int32) (p2 : Int32) (p3 : Int32) (p4 : Int32) (p5 : Int32) : List Nat := [(a0 + 1)]
theorem fhR_add (a0 : Nat) (p1 : Int32) (p2 : Int32) (p3 : Int32) (p4 : Int32) (p5 : Int32) (h0 : PH) {r : Int32 × PH} (hm : mR_add a0 p1 p2 p3 p4 p5 h0 = some r) : Fh (FHdR_add a0 p1 p2 p3 p4 p5) r.2 h0 := by
  generalize hSe : FHdR_add a0 p1 p2 p3 p4 p5 = S
  have hS : ∀ b, b ∈ ([(a0 + 1)] : List Nat) → b ∈ S := by rw [← hSe]; exact fun b hb => hb
  generalize hge : h0 = g at ⊢
  have f : Fh S h0 g := by rw [hge]; exact fun _ _ => rfl
  unfold mR_add at hm
  rcases ite_or hm with ⟨hc, hm⟩ | ⟨hc, hm⟩
  · obtain ⟨x1, -, hm⟩ := lt_some hm
    obtain ⟨-, hm⟩ := ck_s hm
    obtain ⟨h2, e1, hm⟩ := lt_some hm
    replace f : Fh S h2 g := by rw [e1]; exact up_fh f (hS _ (by first | simp; done | (simp only [List.mem_cons, List.not_mem_nil, or_false]; omega)))
    refine v_j1 (fun (h4 : PH) => Fh S h4 g → Fh S r.2 g) hm (fun h4 hm f => ?_) (fun j3 kj3 hm => ?_)
    · refine v_j1 (fun (h6 : PH) => Fh S h6 g → Fh S r.2 g) hm (fun h6 hm f => ?_) (fun j5 kj5 hm => ?_)
      · refine v_j1 (fun (h8 : PH) => Fh S h8 g → Fh S r.2 g) hm (fun h8 hm f => ?_) (fun j7 kj7 hm => ?_)
        · refine v_j1 (fun (h10 : PH) => Fh S h10 g → Fh S r.2 g) hm (fun h10 hm f => ?_) (fun j9 kj9 hm => ?_)
          · obtain ⟨h11, e1, hm⟩ := lt_some hm
            replace f : Fh S h11 g := by rw [e1]; exact up_fh0 f (by decide)
            cases hm
            exact f
          · rcases ite_or hm with ⟨hc, hm⟩ | ⟨hc, hm⟩
            · exact kj9 _ hm f
            · obtain ⟨-, hm⟩ := ck_s hm
              obtain ⟨h12, e1, hm⟩ := lt_some hm
              replace f : Fh S h12 g := by rw [e1]; exact up_fh f (hS _ (by first | simp; done | (simp only [List.mem_cons, List.not_mem_nil, or_false]; omega)))
              exact kj9 _ hm f
        · rcases ite_or hm with ⟨hc, hm⟩ | ⟨hc, hm⟩
          · exact kj7 _ hm f
          · obtain ⟨-, hm⟩ := ck_s hm
            obtain ⟨h13, e1, hm⟩ := lt_some hm
            replace f : Fh S h13 g := by rw [e1]; exact up_fh f (hS _ (by first | simp; done | (simp only [List.mem_cons, List.not_mem_nil, or_false]; omega)))
            exact kj7 _ hm f
      · rcases ite_or hm with ⟨hc, hm⟩ | ⟨hc, hm⟩
        · exact kj5 _ hm f
        · obtain ⟨-, hm⟩ := ck_s hm
          obtain ⟨h14, e1, hm⟩ := lt_some hm
          replace f : Fh S h14 g := by rw [e1]; exact up_fh f (hS _ (by first | simp; done | (simp only [List.mem_cons, List.not_mem_nil, or_false]; omega)))
          exact kj5 _ hm f
    · rcases ite_or hm with ⟨hc, hm⟩ | ⟨hc, hm⟩
      · exact kj3 _ hm f
      · obtain ⟨-, hm⟩ := ck_s hm
        obtain ⟨h15, e1, hm⟩ := lt_some hm
        replace f : Fh S h15 g := by rw [e1]; exact up_fh f (hS _ (by first | simp; done | (simp only [List.mem_cons, List.not_mem_nil, or_false]; omega)))
        exact kj3 _ hm f
  · cases hm
    exact f
def FHdR_copyFrom (a0 : Nat) (a1 : Nat) : List Nat := [(a0 + 1)]
theorem fhR_copyFrom (a0 : Nat) (a1 : Nat) (h0 : PH) {r : PH} (hm : mR_copyFrom a0 a1 h0 = some r) : Fh (FHdR_copyFrom a0 a1) r h0 := by
  generalize hSe : FHdR_copyFrom a0 a1 = S
  have hS : ∀ b, b ∈ ([(a0 + 1)] : List Nat) → b ∈ S := by rw [← hSe]; exact fun b hb => hb
  generalize hge : h0 = g at ⊢
  have f : Fh S h0 g := by rw [hge]; exact fun _ _ => rfl
  unfold mR_copyFrom at hm
  obtain ⟨x1, -, hm⟩ := lt_some hm
  rcases ite_or hm with ⟨hc, hm⟩ | ⟨hc, hm⟩
  · rcases ite_or hm with ⟨hc, hm⟩ | ⟨hc, hm⟩
    · cases hm
      exact f
    · obtain ⟨-, hm⟩ := cc_s hm
      obtain ⟨h2, e1, hm⟩ := lt_some hm
      replace f : Fh S h2 g := by rw [e1]; exact cpy_fh f (hS _ (by first | simp; done | (simp only [List.mem_cons, List.not_mem_nil, or_false]; omega)))
      obtain ⟨h3, e1, hm⟩ := lt_some hm
      replace f : Fh S h3 g := by rw [e1]; exact up_fh0 f (by decide)
      cases hm
      exact f
  · cases hm
    exact f
def FHdW_gather (a1 : Nat) (p2 : Int32) (p3 : Int32) : List Nat := [35]
theorem fhW_gather (a1 : Nat) (p2 : Int32) (p3 : Int32) (h0 : PH) {r : PH} (hm : mW_gather a1 p2 p3 h0 = some r) : Fh (FHdW_gather a1 p2 p3) r h0 := by
  generalize hSe : FHdW_gather a1 p2 p3 = S
  have hS : ∀ b, b ∈ ([35] : List Nat) → b ∈ S := by rw [← hSe]; exact fun b hb => hb
  generalize hge : h0 = g at ⊢
  have f : Fh S h0 g := by rw [hge]; exact fun _ _ => rfl
  unfold mW_gather at hm
  obtain ⟨r1, -, hm⟩ := bd_s hm
  obtain ⟨-, hm⟩ := ck_s hm
  obtain ⟨h2, e1, hm⟩ := lt_some hm
  replace f : Fh S h2 g := by rw [e1]; exact up_fh f (hS _ (by first | simp; done | (simp only [List.mem_cons, List.not_mem_nil, or_false]; omega)))
  obtain ⟨r3, -, hm⟩ := bd_s hm
  obtain ⟨-, hm⟩ := ck_s hm
  obtain ⟨h4, e1, hm⟩ := lt_some hm
  replace f : Fh S h4 g := by rw [e1]; exact up_fh f (hS _ (by first | simp; done | (simp only [List.mem_cons, List.not_mem_nil, or_false]; omega)))
  obtain ⟨r5, -, hm⟩ := bd_s hm
  obtain ⟨-, hm⟩ := ck_s hm
  obtain ⟨h6, e1, hm⟩ := lt_some hm
  replace f : Fh S h6 g := by rw [e1]; exact up_fh f (hS _ (by first | simp; done | (simp only [List.mem_cons, List.not_mem_nil, or_false]; omega)))
  obtain ⟨r7, -, hm⟩ := bd_s hm
  obtain ⟨-, hm⟩ := ck_s hm
  obtain ⟨h8, e1, hm⟩ := lt_some hm
  replace f : Fh S h8 g := by rw [e1]; exact up_fh f (hS _ (by first | simp; done | (simp only [List.mem_cons, List.not_mem_nil, or_false]; omega)))
  obtain ⟨r9, -, hm⟩ := bd_s hm
  obtain ⟨-, hm⟩ := ck_s hm
  obtain ⟨h10, e1, hm⟩ := lt_some hm
  replace f : Fh S h10 g := by rw [e1]; exact up_fh f (hS _ (by first | simp; done | (simp only [List.mem_cons, List.not_mem_nil, or_false]; omega)))
  obtain ⟨r11, -, hm⟩ := bd_s hm
  obtain ⟨-, hm⟩ := ck_s hm
  obtain ⟨h12, e1, hm⟩ := lt_some hm
  replace f : Fh S h12 g := by rw [e1]; exact up_fh f (hS _ (by first | simp; done | (simp only [List.mem_cons, List.not_mem_nil, or_false]; omega)))
  obtain ⟨r13, -, hm⟩ := bd_s hm
  obtain ⟨-, hm⟩ := ck_s hm
  obtain ⟨h14, e1, hm⟩ := lt_some hm
  replace f : Fh S h14 g := by rw [e1]; exact up_fh f (hS _ (by first | simp; done | (simp only [List.mem_cons, List.not_mem_nil, or_false]; omega)))
  obtain ⟨r15, -, hm⟩ := bd_s hm
  obtain ⟨-, hm⟩ := ck_s hm
  obtain ⟨h16, e1, hm⟩ := lt_some hm
  replace f : Fh S h16 g := by rw [e1]; exact up_fh f (hS _ (by first | simp; done | (simp only [List.mem_cons, List.not_mem_nil, or_false]; omega)))
  obtain ⟨r17, -, hm⟩ := bd_s hm
  obtain ⟨-, hm⟩ := ck_s hm
  obtain ⟨h18, e1, hm⟩ := lt_some hm
  replace f : Fh S h18 g := by rw [e1]; exact up_fh f (hS _ (by first | simp; done | (simp only [List.mem_cons, List.not_mem_nil, or_false]; omega)))
  obtain ⟨-, hm⟩ := ck_s hm
  obtain ⟨h19, e1, hm⟩ := lt_some hm
  replace f : Fh S h19 g := by rw [e1]; exact up_fh f (hS _ (by first | simp; done | (simp only [List.mem_cons, List.not_mem_nil, or_false]; omega)))
  obtain ⟨-, hm⟩ := ck_s hm
  obtain ⟨h20, e1, hm⟩ := lt_some hm
  replace f : Fh S h20 g := by rw [e1]; exact up_fh f (hS _ (by first | simp; done | (simp only [List.mem_cons, List.not_mem_nil, or_false]; omega)))
  obtain ⟨-, hm⟩ := ck_s hm
  obtain ⟨h21, e1, hm⟩ := lt_some hm
  replace f : Fh S h21 g := by rw [e1]; exact up_fh f (hS _ (by first | simp; done | (simp only [List.mem_cons, List.not_mem_nil, or_false]; omega)))
  cases hm
  exact f
def FHdW_step (p1 : Int32) (p2 : Int32) : List Nat := [36]
theorem fhW_step (p1 : Int32) (p2 : Int32) (h0 : PH) {r : PH} (hm : mW_step p1 p2 h0 = some r) : Fh (FHdW_step p1 p2) r h0 := by
  generalize hSe : FHdW_step p1 p2 = S
  have hS : ∀ b, b ∈ ([36] : List Nat) → b ∈ S := by rw [← hSe]; exact fun b hb => hb
  generalize hge : h0 = g at ⊢
  have f : Fh S h0 g := by rw [hge]; exact fun _ _ => rfl
  unfold mW_step at hm
  refine v_j0 (Fh S r g) hm (fun hm => ?_) (fun j1 kj1 hm => ?_)
  · rcases ite_or hm with ⟨hc, hm⟩ | ⟨hc, hm⟩
    · cases hm
      exact f
    · refine v_j1 (fun (x3 : Int32) => Fh S r g) hm (fun x3 hm => ?_) (fun j2 kj2 hm => ?_)
      · refine v_j1 (fun (x5 : Int32) => Fh S r g) hm (fun x5 hm => ?_) (fun j4 kj4 hm => ?_)
        · obtain ⟨-, hm⟩ := ck_s hm
          obtain ⟨h6, e1, hm⟩ := lt_some hm
          replace f : Fh S h6 g := by rw [e1]; exact up_fh f (hS _ (by first | simp; done | (simp only [List.mem_cons, List.not_mem_nil, or_false]; omega)))
          obtain ⟨h7, e1, hm⟩ := lt_some hm
          replace f : Fh S h7 g := by rw [e1]; exact up_fh0 f (by decide)
          cases hm
          exact f
        · rcases ite_or hm with ⟨hc, hm⟩ | ⟨hc, hm⟩
          · exact kj4 _ hm
          · obtain ⟨-, hm⟩ := ck_s hm
            exact kj4 _ hm
      · rcases ite_or hm with ⟨hc, hm⟩ | ⟨hc, hm⟩
        · rcases ite_or hm with ⟨hc, hm⟩ | ⟨hc, hm⟩
          · exact kj2 _ hm
          · rcases ite_or hm with ⟨hc, hm⟩ | ⟨hc, hm⟩
            · exact kj2 _ hm
            · exact kj2 _ hm
        · exact kj2 _ hm
  · rcases ite_or hm with ⟨hc, hm⟩ | ⟨hc, hm⟩
    · exact kj1 hm
    · rcases ite_or hm with ⟨hc, hm⟩ | ⟨hc, hm⟩
      · exact kj1 hm
      · rcases ite_or hm with ⟨hc, hm⟩ | ⟨hc, hm⟩
        · rcases ite_or hm with ⟨hc, hm⟩ | ⟨hc, hm⟩
          · cases hm
            exact f
          · rcases ite_or hm with ⟨hc, hm⟩ | ⟨hc, hm⟩
            · cases hm
              exact f
            · obtain ⟨-, hm⟩ := ck_s hm
              obtain ⟨-, hm⟩ := dz_s hm
              obtain ⟨-, hm⟩ := ck_s hm
              obtain ⟨h8, e1, hm⟩ := lt_some hm
              replace f : Fh S h8 g := by rw [e1]; exact up_fh f (hS _ (by first | simp; done | (simp only [List.mem_cons, List.not_mem_nil, or_false]; omega)))
              cases hm
              exact f
        · rcases ite_or hm with ⟨hc, hm⟩ | ⟨hc, hm⟩
          · rcases ite_or hm with ⟨hc, hm⟩ | ⟨hc, hm⟩
            · cases hm
              exact f
            · obtain ⟨-, hm⟩ := ck_s hm
              refine v_j1 (fun (x10 : Int32) => Fh S r g) hm (fun x10 hm => ?_) (fun j9 kj9 hm => ?_)
              · obtain ⟨-, hm⟩ := ck_s hm
                obtain ⟨h11, e1, hm⟩ := lt_some hm
                replace f : Fh S h11 g := by rw [e1]; exact up_fh f (hS _ (by first | simp; done | (simp only [List.mem_cons, List.not_mem_nil, or_false]; omega)))
                cases hm
                exact f
              · rcases ite_or hm with ⟨hc, hm⟩ | ⟨hc, hm⟩
                · exact kj9 _ hm
                · exact kj9 _ hm
          · rcases ite_or hm with ⟨hc, hm⟩ | ⟨hc, hm⟩
            · cases hm
              exact f
            · obtain ⟨h12, e1, hm⟩ := lt_some hm
              replace f : Fh S h12 g := by rw [e1]; exact up_fh0 f (by decide)
              obtain ⟨-, hm⟩ := ck_s hm
              obtain ⟨-, hm⟩ := ck_s hm
              obtain ⟨r13, -, hm⟩ := bd_s hm
              obtain ⟨-, hm⟩ := ck_s hm
              obtain ⟨h14, e1, hm⟩ := lt_some hm
              replace f : Fh S h14 g := by rw [e1]; exact up_fh f (hS _ (by first | simp; done | (simp only [List.mem_cons, List.not_mem_nil, or_false]; omega)))
              cases hm
              exact f
def FHdW_run (p1 : Int32) (p2 : Int32) : List Nat := [36]
theorem wh_W_run_L7 (p2 : Int32) (k0 : PH → Option (Int32 × PH)) (S : List Nat) (g : PH) (r : Int32 × PH) (hS : ∀ b, b ∈ ([36] : List Nat) → b ∈ S) (kk0 : ∀ (y0 : PH), k0 y0 = some r → Fh S y0 g → Fh S r.2 g) : ∀ (n : Nat) (v3 : Int32) (hv : PH), mW_run_L7 p2 k0 n v3 hv = some r → Fh S hv g → Fh S r.2 g := by
  intro n
  induction n with
  | zero => intro v3 hv hm; cases hm
  | succ n ih =>
    intro v3 hv hm f
    unfold mW_run_L7 at hm
    rcases ite_or hm with ⟨hc, hm⟩ | ⟨hc, hm⟩
    · exact kk0 _ hm f
    · obtain ⟨r2, -, hm⟩ := bd_s hm
      obtain ⟨r3, -, hm⟩ := bd_s hm
      obtain ⟨h4, he, hm⟩ := bd_s hm
      replace f := fh_tr f (fhW_step _ _ _ he) (fun b hb => hS b (by simp only [FHdW_step, List.mem_cons, List.not_mem_nil, or_false] at hb ⊢ <;> omega))
      exact ih _ _ hm f
theorem fhW_run (p1 : Int32) (p2 : Int32) (h0 : PH) {r : Int32 × PH} (hm : mW_run p1 p2 h0 = some r) : Fh (FHdW_run p1 p2) r.2 h0 := by
  generalize hSe : FHdW_run p1 p2 = S
  have hS : ∀ b, b ∈ ([36] : List Nat) → b ∈ S := by rw [← hSe]; exact fun b hb => hb
  generalize hge : h0 = g at ⊢
  have f : Fh S h0 g := by rw [hge]; exact fun _ _ => rfl
  unfold mW_run at hm
  obtain ⟨h1, e1, hm⟩ := lt_some hm
  replace f : Fh S h1 g := by rw [e1]; exact up_fh0 f (by decide)
  refine wh_W_run_L7 _ _ S g _ (fun b hb => hS b (by first | exact absurd hb List.not_mem_nil | (simp only [List.mem_cons, List.not_mem_nil, or_false] at hb ⊢ <;> omega))) (fun h5 hm f => ?_) _ _ _ hm f
  · rcases ite_or hm with ⟨hc, hm⟩ | ⟨hc, hm⟩
    · cases hm
      exact f
    · obtain ⟨-, hm⟩ := ck_s hm
      cases hm
      exact f
def FHdW_applies (p1 : Int32) : List Nat := [36]
theorem fhW_applies (p1 : Int32) (h0 : PH) {r : Int32 × PH} (hm : mW_applies p1 h0 = some r) : Fh (FHdW_applies p1) r.2 h0 := by
  generalize hSe : FHdW_applies p1 = S
  have hS : ∀ b, b ∈ ([36] : List Nat) → b ∈ S := by rw [← hSe]; exact fun b hb => hb
  generalize hge : h0 = g at ⊢
  have f : Fh S h0 g := by rw [hge]; exact fun _ _ => rfl
  unfold mW_applies at hm
  obtain ⟨r1, -, hm⟩ := bd_s hm
  obtain ⟨r2, -, hm⟩ := bd_s hm
  rcases ite_or hm with ⟨hc, hm⟩ | ⟨hc, hm⟩
  · cases hm
    exact f
  · obtain ⟨r3, h4, he, hm⟩ := bd2_s hm
    replace f := fh_tr f (fhW_run _ _ _ he) (fun b hb => hS b (by simp only [FHdW_run, List.mem_cons, List.not_mem_nil, or_false] at hb ⊢ <;> omega))
    rcases ite_or hm with ⟨hc, hm⟩ | ⟨hc, hm⟩
    · cases hm
      exact f
    · cases hm
      exact f
def FHdW_tells (a1 : Nat) (p2 : Int32) (p3 : Int32) (p4 : Int32) : List Nat := [36, 35]
theorem wh_W_tells_L22 (a1 : Nat) (p2 : Int32) (p3 : Int32) (p4 : Int32) (p5 : Int32) (k0 : Int32 → PH → Option (Int32 × PH)) (k1 : PH → Option (Int32 × PH)) (S : List Nat) (g : PH) (r : Int32 × PH) (hS : ∀ b, b ∈ ([36, 35] : List Nat) → b ∈ S) (kk0 : ∀ (y0 : Int32) (y1 : PH), k0 y0 y1 = some r → Fh S y1 g → Fh S r.2 g) (kk1 : ∀ (y0 : PH), k1 y0 = some r → Fh S y0 g → Fh S r.2 g) : ∀ (n : Nat) (v6 : Int32) (v7 : Int32) (hv : PH), mW_tells_L22 a1 p2 p3 p4 p5 k0 k1 n v6 v7 hv = some r → Fh S hv g → Fh S r.2 g := by
  intro n
  induction n with
  | zero => intro v6 v7 hv hm; cases hm
  | succ n ih =>
    intro v6 v7 hv hm f
    unfold mW_tells_L22 at hm
    rcases ite_or hm with ⟨hc, hm⟩ | ⟨hc, hm⟩
    · exact kk1 _ hm f
    · obtain ⟨r3, -, hm⟩ := bd_s hm
      rcases ite_or hm with ⟨hc, hm⟩ | ⟨hc, hm⟩
      · refine v_j2 (fun (x5 : Int32) (h6 : PH) => Fh S h6 g → Fh S r.2 g) hm (fun x5 h6 hm f => ?_) (fun j4 kj4 hm => ?_)
        · obtain ⟨r7, h8, he, hm⟩ := bd2_s hm
          replace f := fh_tr f (fhW_applies _ _ he) (fun b hb => hS b (by simp only [FHdW_applies, List.mem_cons, List.not_mem_nil, or_false] at hb ⊢ <;> omega))
          rcases ite_or hm with ⟨hc, hm⟩ | ⟨hc, hm⟩
          · exact ih _ _ _ hm f
          · exact kk0 _ _ hm f
        · rcases ite_or hm with ⟨hc, hm⟩ | ⟨hc, hm⟩
          · obtain ⟨h9, he, hm⟩ := bd_s hm
            replace f := fh_tr f (fhW_gather _ _ _ _ he) (fun b hb => hS b (by simp only [FHdW_gather, List.mem_cons, List.not_mem_nil, or_false] at hb ⊢ <;> omega))
            exact kj4 _ _ hm f
          · exact kj4 _ _ hm f
      · exact ih _ _ _ hm f
theorem fhW_tells (a1 : Nat) (p2 : Int32) (p3 : Int32) (p4 : Int32) (h0 : PH) {r : Int32 × PH} (hm : mW_tells a1 p2 p3 p4 h0 = some r) : Fh (FHdW_tells a1 p2 p3 p4) r.2 h0 := by
  generalize hSe : FHdW_tells a1 p2 p3 p4 = S
  have hS : ∀ b, b ∈ ([36, 35] : List Nat) → b ∈ S := by rw [← hSe]; exact fun b hb => hb
  generalize hge : h0 = g at ⊢
  have f : Fh S h0 g := by rw [hge]; exact fun _ _ => rfl
  unfold mW_tells at hm
  refine v_j1 (fun (x2 : Int32) => Fh S r.2 g) hm (fun x2 hm => ?_) (fun j1 kj1 hm => ?_)
  · refine wh_W_tells_L22 _ _ _ _ _ _ _ S g _ (fun b hb => hS b (by first | exact absurd hb List.not_mem_nil | (simp only [List.mem_cons, List.not_mem_nil, or_false] at hb ⊢ <;> omega))) (fun x10 h11 hm f => ?_) (fun h17 hm f => ?_) _ _ _ _ hm f
    · obtain ⟨r12, -, hm⟩ := bd_s hm
      obtain ⟨r13, -, hm⟩ := bd_s hm
      obtain ⟨r14, h15, he, hm⟩ := bd2_s hm
      replace f := fh_tr f (fhW_run _ _ _ he) (fun b hb => hS b (by simp only [FHdW_run, List.mem_cons, List.not_mem_nil, or_false] at hb ⊢ <;> omega))
      obtain ⟨r16, -, hm⟩ := bd_s hm
      cases hm
      exact f
    · obtain ⟨r18, -, hm⟩ := bd_s hm
      obtain ⟨r19, -, hm⟩ := bd_s hm
      cases hm
      exact f
  · rcases ite_or hm with ⟨hc, hm⟩ | ⟨hc, hm⟩
    · exact kj1 _ hm
    · exact kj1 _ hm
def FHdP_keep (a1 : Nat) (p2 : Int32) : List Nat := [73, 74, 75, 76, 77, 78, 79, 80, 81, 82, 83, 84, 72]
theorem fhP_keep (a1 : Nat) (p2 : Int32) (h0 : PH) {r : PH} (hm : mP_keep a1 p2 h0 = some r) : Fh (FHdP_keep a1 p2) r h0 := by
  generalize hSe : FHdP_keep a1 p2 = S
  have hS : ∀ b, b ∈ ([73, 74, 75, 76, 77, 78, 79, 80, 81, 82, 83, 84, 72] : List Nat) → b ∈ S := by rw [← hSe]; exact fun b hb => hb
  generalize hge : h0 = g at ⊢
  have f : Fh S h0 g := by rw [hge]; exact fun _ _ => rfl
  unfold mP_keep at hm
  obtain ⟨-, hm⟩ := dz_s hm
  obtain ⟨x1, -, hm⟩ := lt_some hm
  obtain ⟨hi, hm⟩ := ck_s hm
  have hlt : ix x1 < 6 := Nat.not_le.mp fun q => hi (Or.inr q)
  obtain ⟨h3, he, hm⟩ := bd_s hm
  replace f := fh_tr f (fhB_copyFrom _ _ _ he) (fun b hb => hS b (by simp only [FHdB_copyFrom, List.mem_cons, List.not_mem_nil, or_false] at hb ⊢ <;> omega))
  obtain ⟨hi, hm⟩ := ck_s hm
  have hlt : ix x1 < 6 := Nat.not_le.mp fun q => hi (Or.inr q)
  obtain ⟨h4, e1, hm⟩ := lt_some hm
  replace f : Fh S h4 g := by rw [e1]; exact up_fh f (hS _ (by first | simp; done | (simp only [List.mem_cons, List.not_mem_nil, or_false]; omega)))
  rcases ite_or hm with ⟨hc, hm⟩ | ⟨hc, hm⟩
  · obtain ⟨-, hm⟩ := dz_s hm
    obtain ⟨h5, e1, hm⟩ := lt_some hm
    replace f : Fh S h5 g := by rw [e1]; exact up_fh0 f (by decide)
    cases hm
    exact f
  · obtain ⟨h6, e1, hm⟩ := lt_some hm
    replace f : Fh S h6 g := by rw [e1]; exact up_fh0 f (by decide)
    cases hm
    exact f
def FHdP_goBack (a1 : Nat) : List Nat := [(a1 + 1), a1]
theorem fhP_goBack (a1 : Nat) (h0 : PH) {r : Int32 × PH} (hm : mP_goBack a1 h0 = some r) : Fh (FHdP_goBack a1) r.2 h0 := by
  generalize hSe : FHdP_goBack a1 = S
  have hS : ∀ b, b ∈ ([(a1 + 1), a1] : List Nat) → b ∈ S := by rw [← hSe]; exact fun b hb => hb
  generalize hge : h0 = g at ⊢
  have f : Fh S h0 g := by rw [hge]; exact fun _ _ => rfl
  unfold mP_goBack at hm
  obtain ⟨h1, e1, hm⟩ := lt_some hm
  replace f : Fh S h1 g := by rw [e1]; exact up_fh0 f (by decide)
  obtain ⟨-, hm⟩ := dz_s hm
  obtain ⟨x2, -, hm⟩ := lt_some hm
  obtain ⟨hi, hm⟩ := ck_s hm
  have hlt : ix x2 < 6 := Nat.not_le.mp fun q => hi (Or.inr q)
  obtain ⟨h4, he, hm⟩ := bd_s hm
  replace f := fh_tr f (fhB_copyFrom _ _ _ he) (fun b hb => hS b (by simp only [FHdB_copyFrom, List.mem_cons, List.not_mem_nil, or_false] at hb ⊢ <;> omega))
  obtain ⟨hi, hm⟩ := ck_s hm
  have hlt : ix x2 < 6 := Nat.not_le.mp fun q => hi (Or.inr q)
  cases hm
  exact f
def FHdP_forget : List Nat := []
theorem fhP_forget (h0 : PH) {r : PH} (hm : mP_forget h0 = some r) : Fh (FHdP_forget ) r h0 := by
  generalize hSe : FHdP_forget = S
  have hS : ∀ b, b ∈ ([] : List Nat) → b ∈ S := by rw [← hSe]; exact fun b hb => hb
  generalize hge : h0 = g at ⊢
  have f : Fh S h0 g := by rw [hge]; exact fun _ _ => rfl
  unfold mP_forget at hm
  obtain ⟨h1, e1, hm⟩ := lt_some hm
  replace f : Fh S h1 g := by rw [e1]; exact up_fh0 f (by decide)
  cases hm
  exact f
def FHdO_copyFrom (a0 : Nat) (a1 : Nat) : List Nat := [((a0 + 1) + 1), ((a0 + 3) + 1), ((a0 + 5) + 1), ((a0 + 7) + 1), ((a0 + 9) + 1), ((a0 + 11) + 1), ((a0 + 13) + 1), ((a0 + 15) + 1), ((a0 + 17) + 1), ((a0 + 19) + 1), ((a0 + 21) + 1), ((a0 + 23) + 1), ((a0 + 25) + 1), ((a0 + 27) + 1)]
theorem fhO_copyFrom (a0 : Nat) (a1 : Nat) (h0 : PH) {r : PH} (hm : mO_copyFrom a0 a1 h0 = some r) : Fh (FHdO_copyFrom a0 a1) r h0 := by
  generalize hSe : FHdO_copyFrom a0 a1 = S
  have hS : ∀ b, b ∈ ([((a0 + 1) + 1), ((a0 + 3) + 1), ((a0 + 5) + 1), ((a0 + 7) + 1), ((a0 + 9) + 1), ((a0 + 11) + 1), ((a0 + 13) + 1), ((a0 + 15) + 1), ((a0 + 17) + 1), ((a0 + 19) + 1), ((a0 + 21) + 1), ((a0 + 23) + 1), ((a0 + 25) + 1), ((a0 + 27) + 1)] : List Nat) → b ∈ S := by rw [← hSe]; exact fun b hb => hb
  generalize hge : h0 = g at ⊢
  have f : Fh S h0 g := by rw [hge]; exact fun _ _ => rfl
  unfold mO_copyFrom at hm
  obtain ⟨h1, he, hm⟩ := bd_s hm
  replace f := fh_tr f (fhR_copyFrom _ _ _ he) (fun b hb => hS b (by simp only [FHdR_copyFrom, List.mem_cons, List.not_mem_nil, or_false] at hb ⊢ <;> omega))
  obtain ⟨h2, he, hm⟩ := bd_s hm
  replace f := fh_tr f (fhR_copyFrom _ _ _ he) (fun b hb => hS b (by simp only [FHdR_copyFrom, List.mem_cons, List.not_mem_nil, or_false] at hb ⊢ <;> omega))
  obtain ⟨h3, he, hm⟩ := bd_s hm
  replace f := fh_tr f (fhR_copyFrom _ _ _ he) (fun b hb => hS b (by simp only [FHdR_copyFrom, List.mem_cons, List.not_mem_nil, or_false] at hb ⊢ <;> omega))
  obtain ⟨h4, he, hm⟩ := bd_s hm
  replace f := fh_tr f (fhR_copyFrom _ _ _ he) (fun b hb => hS b (by simp only [FHdR_copyFrom, List.mem_cons, List.not_mem_nil, or_false] at hb ⊢ <;> omega))
  obtain ⟨h5, he, hm⟩ := bd_s hm
  replace f := fh_tr f (fhR_copyFrom _ _ _ he) (fun b hb => hS b (by simp only [FHdR_copyFrom, List.mem_cons, List.not_mem_nil, or_false] at hb ⊢ <;> omega))
  obtain ⟨h6, he, hm⟩ := bd_s hm
  replace f := fh_tr f (fhR_copyFrom _ _ _ he) (fun b hb => hS b (by simp only [FHdR_copyFrom, List.mem_cons, List.not_mem_nil, or_false] at hb ⊢ <;> omega))
  obtain ⟨h7, he, hm⟩ := bd_s hm
  replace f := fh_tr f (fhR_copyFrom _ _ _ he) (fun b hb => hS b (by simp only [FHdR_copyFrom, List.mem_cons, List.not_mem_nil, or_false] at hb ⊢ <;> omega))
  obtain ⟨h8, he, hm⟩ := bd_s hm
  replace f := fh_tr f (fhR_copyFrom _ _ _ he) (fun b hb => hS b (by simp only [FHdR_copyFrom, List.mem_cons, List.not_mem_nil, or_false] at hb ⊢ <;> omega))
  obtain ⟨h9, he, hm⟩ := bd_s hm
  replace f := fh_tr f (fhR_copyFrom _ _ _ he) (fun b hb => hS b (by simp only [FHdR_copyFrom, List.mem_cons, List.not_mem_nil, or_false] at hb ⊢ <;> omega))
  obtain ⟨h10, he, hm⟩ := bd_s hm
  replace f := fh_tr f (fhR_copyFrom _ _ _ he) (fun b hb => hS b (by simp only [FHdR_copyFrom, List.mem_cons, List.not_mem_nil, or_false] at hb ⊢ <;> omega))
  obtain ⟨h11, he, hm⟩ := bd_s hm
  replace f := fh_tr f (fhR_copyFrom _ _ _ he) (fun b hb => hS b (by simp only [FHdR_copyFrom, List.mem_cons, List.not_mem_nil, or_false] at hb ⊢ <;> omega))
  obtain ⟨h12, he, hm⟩ := bd_s hm
  replace f := fh_tr f (fhR_copyFrom _ _ _ he) (fun b hb => hS b (by simp only [FHdR_copyFrom, List.mem_cons, List.not_mem_nil, or_false] at hb ⊢ <;> omega))
  obtain ⟨h13, he, hm⟩ := bd_s hm
  replace f := fh_tr f (fhR_copyFrom _ _ _ he) (fun b hb => hS b (by simp only [FHdR_copyFrom, List.mem_cons, List.not_mem_nil, or_false] at hb ⊢ <;> omega))
  obtain ⟨h14, he, hm⟩ := bd_s hm
  replace f := fh_tr f (fhR_copyFrom _ _ _ he) (fun b hb => hS b (by simp only [FHdR_copyFrom, List.mem_cons, List.not_mem_nil, or_false] at hb ⊢ <;> omega))
  cases hm
  exact f
def FHdS_weather (a0 : Nat) : List Nat := []
theorem wh_S_weather_L10 (a0 : Nat) (S : List Nat) (g : PH) (r : PH) (hS : ∀ b, b ∈ ([] : List Nat) → b ∈ S) : ∀ (n : Nat) (v2 : Int32) (hv : PH), mS_weather_L10 a0 n v2 hv = some r → Fh S hv g → Fh S r g := by
  intro n
  induction n with
  | zero => intro v2 hv hm; cases hm
  | succ n ih =>
    intro v2 hv hm f
    unfold mS_weather_L10 at hm
    rcases ite_or hm with ⟨hc, hm⟩ | ⟨hc, hm⟩
    · cases hm
      exact f
    · obtain ⟨r1, -, hm⟩ := bd_s hm
      rcases ite_or hm with ⟨hc, hm⟩ | ⟨hc, hm⟩
      · obtain ⟨r2, -, hm⟩ := bd_s hm
        rcases ite_or hm with ⟨hc, hm⟩ | ⟨hc, hm⟩
        · obtain ⟨r3, -, hm⟩ := bd_s hm
          obtain ⟨h4, e1, hm⟩ := lt_some hm
          replace f : Fh S h4 g := by rw [e1]; exact up_fh0 f (by decide)
          exact ih _ _ hm f
        · rcases ite_or hm with ⟨hc, hm⟩ | ⟨hc, hm⟩
          · obtain ⟨h5, e1, hm⟩ := lt_some hm
            replace f : Fh S h5 g := by rw [e1]; exact up_fh0 f (by decide)
            exact ih _ _ hm f
          · obtain ⟨h6, e1, hm⟩ := lt_some hm
            replace f : Fh S h6 g := by rw [e1]; exact up_fh0 f (by decide)
            exact ih _ _ hm f
      · exact ih _ _ hm f
theorem fhS_weather (a0 : Nat) (h0 : PH) {r : PH} (hm : mS_weather a0 h0 = some r) : Fh (FHdS_weather a0) r h0 := by
  generalize hSe : FHdS_weather a0 = S
  have hS : ∀ b, b ∈ ([] : List Nat) → b ∈ S := by rw [← hSe]; exact fun b hb => hb
  generalize hge : h0 = g at ⊢
  have f : Fh S h0 g := by rw [hge]; exact fun _ _ => rfl
  unfold mS_weather at hm
  exact wh_S_weather_L10 _ S g _ (fun b hb => hS b (by first | exact absurd hb List.not_mem_nil | (simp only [List.mem_cons, List.not_mem_nil, or_false] at hb ⊢ <;> omega))) _ _ _ hm f
def FHdS_note (a0 : Nat) (p1 : Int32) (p2 : Int32) (p3 : Int32) : List Nat := [17]
theorem fhS_note (a0 : Nat) (p1 : Int32) (p2 : Int32) (p3 : Int32) (h0 : PH) {r : PH} (hm : mS_note a0 p1 p2 p3 h0 = some r) : Fh (FHdS_note a0 p1 p2 p3) r h0 := by
  generalize hSe : FHdS_note a0 p1 p2 p3 = S
  have hS : ∀ b, b ∈ ([17] : List Nat) → b ∈ S := by rw [← hSe]; exact fun b hb => hb
  generalize hge : h0 = g at ⊢
  have f : Fh S h0 g := by rw [hge]; exact fun _ _ => rfl
  unfold mS_note at hm
  rcases ite_or hm with ⟨hc, hm⟩ | ⟨hc, hm⟩
  · cases hm
    exact f
  · obtain ⟨r1, h2, he, hm⟩ := bd2_s hm
    replace f := fh_tr f (fhR_add _ _ _ _ _ _ _ he) (fun b hb => hS b (by simp only [FHdR_add, List.mem_cons, List.not_mem_nil, or_false] at hb ⊢ <;> omega))
    cases hm
    exact f
def FHdS_moveLodgers (a0 : Nat) (p1 : Int32) (p2 : Int32) : List Nat := [((sT a0) + 1), 17]
theorem fhS_moveLodgers (a0 : Nat) (p1 : Int32) (p2 : Int32) (h0 : PH) {r : PH} (hm : mS_moveLodgers a0 p1 p2 h0 = some r) : Fh (FHdS_moveLodgers a0 p1 p2) r h0 := by
  generalize hSe : FHdS_moveLodgers a0 p1 p2 = S
  have hS : ∀ b, b ∈ ([((sT a0) + 1), 17] : List Nat) → b ∈ S := by rw [← hSe]; exact fun b hb => hb
  generalize hge : h0 = g at ⊢
  have f : Fh S h0 g := by rw [hge]; exact fun _ _ => rfl
  unfold mS_moveLodgers at hm
  obtain ⟨r1, -, hm⟩ := bd_s hm
  obtain ⟨h2, he, hm⟩ := bd_s hm
  replace f := fh_tr f (fhB_write _ _ _ _ _ he) (fun b hb => hS b (by simp only [FHdB_write, List.mem_cons, List.not_mem_nil, or_false] at hb ⊢ <;> omega))
  refine v_j1 (fun (h4 : PH) => Fh S h4 g → Fh S r g) hm (fun h4 hm f => ?_) (fun j3 kj3 hm => ?_)
  · obtain ⟨h5, he, hm⟩ := bd_s hm
    replace f := fh_tr f (fhS_note _ _ _ _ _ he) (fun b hb => hS b (by simp only [FHdS_note, List.mem_cons, List.not_mem_nil, or_false] at hb ⊢ <;> omega))
    cases hm
    exact f
  · rcases ite_or hm with ⟨hc, hm⟩ | ⟨hc, hm⟩
    · exact kj3 _ hm f
    · obtain ⟨r6, -, hm⟩ := bd_s hm
      obtain ⟨h7, he, hm⟩ := bd_s hm
      replace f := fh_tr f (fhB_write _ _ _ _ _ he) (fun b hb => hS b (by simp only [FHdB_write, List.mem_cons, List.not_mem_nil, or_false] at hb ⊢ <;> omega))
      exact kj3 _ hm f
def FHdS_leaveIfFallen (a0 : Nat) (p1 : Int32) : List Nat := [((sT a0) + 1), 17]
theorem fhS_leaveIfFallen (a0 : Nat) (p1 : Int32) (h0 : PH) {r : PH} (hm : mS_leaveIfFallen a0 p1 h0 = some r) : Fh (FHdS_leaveIfFallen a0 p1) r h0 := by
  generalize hSe : FHdS_leaveIfFallen a0 p1 = S
  have hS : ∀ b, b ∈ ([((sT a0) + 1), 17] : List Nat) → b ∈ S := by rw [← hSe]; exact fun b hb => hb
  generalize hge : h0 = g at ⊢
  have f : Fh S h0 g := by rw [hge]; exact fun _ _ => rfl
  unfold mS_leaveIfFallen at hm
  obtain ⟨r1, -, hm⟩ := bd_s hm
  rcases ite_or hm with ⟨hc, hm⟩ | ⟨hc, hm⟩
  · obtain ⟨r2, -, hm⟩ := bd_s hm
    rcases ite_or hm with ⟨hc, hm⟩ | ⟨hc, hm⟩
    · obtain ⟨r3, -, hm⟩ := bd_s hm
      obtain ⟨h4, he, hm⟩ := bd_s hm
      replace f := fh_tr f (fhS_moveLodgers _ _ _ _ he) (fun b hb => hS b (by simp only [FHdS_moveLodgers, List.mem_cons, List.not_mem_nil, or_false] at hb ⊢ <;> omega))
      cases hm
      exact f
    · cases hm
      exact f
  · cases hm
    exact f
def FHdS_wed (a0 : Nat) (p1 : Int32) : List Nat := [((sT a0) + 1), 17]
theorem fhS_wed (a0 : Nat) (p1 : Int32) (h0 : PH) {r : PH} (hm : mS_wed a0 p1 h0 = some r) : Fh (FHdS_wed a0 p1) r h0 := by
  generalize hSe : FHdS_wed a0 p1 = S
  have hS : ∀ b, b ∈ ([((sT a0) + 1), 17] : List Nat) → b ∈ S := by rw [← hSe]; exact fun b hb => hb
  generalize hge : h0 = g at ⊢
  have f : Fh S h0 g := by rw [hge]; exact fun _ _ => rfl
  unfold mS_wed at hm
  obtain ⟨h1, he, hm⟩ := bd_s hm
  replace f := fh_tr f (fhB_write _ _ _ _ _ he) (fun b hb => hS b (by simp only [FHdB_write, List.mem_cons, List.not_mem_nil, or_false] at hb ⊢ <;> omega))
  obtain ⟨r2, -, hm⟩ := bd_s hm
  obtain ⟨r3, h4, he, hm⟩ := bd2_s hm
  replace f := fh_tr f (fhB_thin _ _ _ _ _ he) (fun b hb => hS b (by simp only [FHdB_thin, List.mem_cons, List.not_mem_nil, or_false] at hb ⊢ <;> omega))
  obtain ⟨r5, -, hm⟩ := bd_s hm
  obtain ⟨x6, -, hm⟩ := lt_some hm
  obtain ⟨h7, he, hm⟩ := bd_s hm
  replace f := fh_tr f (fhB_write _ _ _ _ _ he) (fun b hb => hS b (by simp only [FHdB_write, List.mem_cons, List.not_mem_nil, or_false] at hb ⊢ <;> omega))
  obtain ⟨h8, he, hm⟩ := bd_s hm
  replace f := fh_tr f (fhS_note _ _ _ _ _ he) (fun b hb => hS b (by simp only [FHdS_note, List.mem_cons, List.not_mem_nil, or_false] at hb ⊢ <;> omega))
  obtain ⟨h9, he, hm⟩ := bd_s hm
  replace f := fh_tr f (fhS_leaveIfFallen _ _ _ he) (fun b hb => hS b (by simp only [FHdS_leaveIfFallen, List.mem_cons, List.not_mem_nil, or_false] at hb ⊢ <;> omega))
  cases hm
  exact f
def FHdS_raze (a0 : Nat) (p1 : Int32) : List Nat := [((sT a0) + 1), 17]
theorem wh_S_raze_L2 (a0 : Nat) (p1 : Int32) (k0 : PH → Option (PH)) (S : List Nat) (g : PH) (r : PH) (hS : ∀ b, b ∈ ([((sT a0) + 1)] : List Nat) → b ∈ S) (kk0 : ∀ (y0 : PH), k0 y0 = some r → Fh S y0 g → Fh S r g) : ∀ (n : Nat) (v2 : Int32) (hv : PH), mS_raze_L2 a0 p1 k0 n v2 hv = some r → Fh S hv g → Fh S r g := by
  intro n
  induction n with
  | zero => intro v2 hv hm; cases hm
  | succ n ih =>
    intro v2 hv hm f
    unfold mS_raze_L2 at hm
    rcases ite_or hm with ⟨hc, hm⟩ | ⟨hc, hm⟩
    · exact kk0 _ hm f
    · obtain ⟨h1, he, hm⟩ := bd_s hm
      replace f := fh_tr f (fhB_write _ _ _ _ _ he) (fun b hb => hS b (by simp only [FHdB_write, List.mem_cons, List.not_mem_nil, or_false] at hb ⊢ <;> omega))
      exact ih _ _ hm f
theorem fhS_raze (a0 : Nat) (p1 : Int32) (h0 : PH) {r : PH} (hm : mS_raze a0 p1 h0 = some r) : Fh (FHdS_raze a0 p1) r h0 := by
  generalize hSe : FHdS_raze a0 p1 = S
  have hS : ∀ b, b ∈ ([((sT a0) + 1), 17] : List Nat) → b ∈ S := by rw [← hSe]; exact fun b hb => hb
  generalize hge : h0 = g at ⊢
  have f : Fh S h0 g := by rw [hge]; exact fun _ _ => rfl
  unfold mS_raze at hm
  refine wh_S_raze_L2 _ _ _ S g _ (fun b hb => hS b (by first | exact absurd hb List.not_mem_nil | (simp only [List.mem_cons, List.not_mem_nil, or_false] at hb ⊢ <;> omega))) (fun h2 hm f => ?_) _ _ _ hm f
  · obtain ⟨h3, he, hm⟩ := bd_s hm
    replace f := fh_tr f (fhS_leaveIfFallen _ _ _ he) (fun b hb => hS b (by simp only [FHdS_leaveIfFallen, List.mem_cons, List.not_mem_nil, or_false] at hb ⊢ <;> omega))
    cases hm
    exact f
def FHdS_officeLine (a0 : Nat) (a1 : Nat) (p2 : Int32) : List Nat := [((sT a0) + 1), 17]
theorem fhS_officeLine (a0 : Nat) (a1 : Nat) (p2 : Int32) (h0 : PH) {r : PH} (hm : mS_officeLine a0 a1 p2 h0 = some r) : Fh (FHdS_officeLine a0 a1 p2) r h0 := by
  generalize hSe : FHdS_officeLine a0 a1 p2 = S
  have hS : ∀ b, b ∈ ([((sT a0) + 1), 17] : List Nat) → b ∈ S := by rw [← hSe]; exact fun b hb => hb
  generalize hge : h0 = g at ⊢
  have f : Fh S h0 g := by rw [hge]; exact fun _ _ => rfl
  unfold mS_officeLine at hm
  obtain ⟨r1, -, hm⟩ := bd_s hm
  obtain ⟨r2, -, hm⟩ := bd_s hm
  obtain ⟨r3, -, hm⟩ := bd_s hm
  rcases ite_or hm with ⟨hc, hm⟩ | ⟨hc, hm⟩
  · obtain ⟨r4, -, hm⟩ := bd_s hm
    obtain ⟨h5, he, hm⟩ := bd_s hm
    replace f := fh_tr f (fhB_write _ _ _ _ _ he) (fun b hb => hS b (by simp only [FHdB_write, List.mem_cons, List.not_mem_nil, or_false] at hb ⊢ <;> omega))
    cases hm
    exact f
  · rcases ite_or hm with ⟨hc, hm⟩ | ⟨hc, hm⟩
    · obtain ⟨r6, -, hm⟩ := bd_s hm
      obtain ⟨h7, he, hm⟩ := bd_s hm
      replace f := fh_tr f (fhB_thicken _ _ _ _ _ he) (fun b hb => hS b (by simp only [FHdB_thicken, List.mem_cons, List.not_mem_nil, or_false] at hb ⊢ <;> omega))
      cases hm
      exact f
    · rcases ite_or hm with ⟨hc, hm⟩ | ⟨hc, hm⟩
      · obtain ⟨r8, -, hm⟩ := bd_s hm
        rcases ite_or hm with ⟨hc, hm⟩ | ⟨hc, hm⟩
        · cases hm
          exact f
        · obtain ⟨h9, he, hm⟩ := bd_s hm
          replace f := fh_tr f (fhS_wed _ _ _ he) (fun b hb => hS b (by simp only [FHdS_wed, List.mem_cons, List.not_mem_nil, or_false] at hb ⊢ <;> omega))
          cases hm
          exact f
      · obtain ⟨r10, -, hm⟩ := bd_s hm
        rcases ite_or hm with ⟨hc, hm⟩ | ⟨hc, hm⟩
        · cases hm
          exact f
        · obtain ⟨h11, he, hm⟩ := bd_s hm
          replace f := fh_tr f (fhS_raze _ _ _ he) (fun b hb => hS b (by simp only [FHdS_raze, List.mem_cons, List.not_mem_nil, or_false] at hb ⊢ <;> omega))
          cases hm
          exact f
def FHdS_noteIfAny (a0 : Nat) (p1 : Int32) (p2 : Int32) (p3 : Int32) : List Nat := [17]
theorem fhS_noteIfAny (a0 : Nat) (p1 : Int32) (p2 : Int32) (p3 : Int32) (h0 : PH) {r : PH} (hm : mS_noteIfAny a0 p1 p2 p3 h0 = some r) : Fh (FHdS_noteIfAny a0 p1 p2 p3) r h0 := by
  generalize hSe : FHdS_noteIfAny a0 p1 p2 p3 = S
  have hS : ∀ b, b ∈ ([17] : List Nat) → b ∈ S := by rw [← hSe]; exact fun b hb => hb
  generalize hge : h0 = g at ⊢
  have f : Fh S h0 g := by rw [hge]; exact fun _ _ => rfl
  unfold mS_noteIfAny at hm
  rcases ite_or hm with ⟨hc, hm⟩ | ⟨hc, hm⟩
  · cases hm
    exact f
  · obtain ⟨h1, he, hm⟩ := bd_s hm
    replace f := fh_tr f (fhS_note _ _ _ _ _ he) (fun b hb => hS b (by simp only [FHdS_note, List.mem_cons, List.not_mem_nil, or_false] at hb ⊢ <;> omega))
    cases hm
    exact f
def FHdS_payRent (a0 : Nat) (p1 : Int32) : List Nat := [36, 35, 17, ((sT a0) + 1)]
theorem wh_S_payRent_L27 (a0 : Nat) (p1 : Int32) (p2 : Int32) (k0 : Int32 → PH → Option (PH)) (S : List Nat) (g : PH) (r : PH) (hS : ∀ b, b ∈ ([((sT a0) + 1)] : List Nat) → b ∈ S) (kk0 : ∀ (y0 : Int32) (y1 : PH), k0 y0 y1 = some r → Fh S y1 g → Fh S r g) : ∀ (n : Nat) (v3 : Int32) (v4 : Int32) (hv : PH), mS_payRent_L27 a0 p1 p2 k0 n v3 v4 hv = some r → Fh S hv g → Fh S r g := by
  intro n
  induction n with
  | zero => intro v3 v4 hv hm; cases hm
  | succ n ih =>
    intro v3 v4 hv hm f
    unfold mS_payRent_L27 at hm
    rcases ite_or hm with ⟨hc, hm⟩ | ⟨hc, hm⟩
    · exact kk0 _ _ hm f
    · obtain ⟨r4, -, hm⟩ := bd_s hm
      rcases ite_or hm with ⟨hc, hm⟩ | ⟨hc, hm⟩
      · exact kk0 _ _ hm f
      · obtain ⟨r5, -, hm⟩ := bd_s hm
        obtain ⟨r6, h7, he, hm⟩ := bd2_s hm
        replace f := fh_tr f (fhB_thin _ _ _ _ _ he) (fun b hb => hS b (by simp only [FHdB_thin, List.mem_cons, List.not_mem_nil, or_false] at hb ⊢ <;> omega))
        obtain ⟨x8, -, hm⟩ := lt_some hm
        exact ih _ _ _ hm f
theorem fhS_payRent (a0 : Nat) (p1 : Int32) (h0 : PH) {r : PH} (hm : mS_payRent a0 p1 h0 = some r) : Fh (FHdS_payRent a0 p1) r h0 := by
  generalize hSe : FHdS_payRent a0 p1 = S
  have hS : ∀ b, b ∈ ([36, 35, 17, ((sT a0) + 1)] : List Nat) → b ∈ S := by rw [← hSe]; exact fun b hb => hb
  generalize hge : h0 = g at ⊢
  have f : Fh S h0 g := by rw [hge]; exact fun _ _ => rfl
  unfold mS_payRent at hm
  obtain ⟨r1, -, hm⟩ := bd_s hm
  obtain ⟨r2, h3, he, hm⟩ := bd2_s hm
  replace f := fh_tr f (fhW_tells _ _ _ _ _ he) (fun b hb => hS b (by simp only [FHdW_tells, List.mem_cons, List.not_mem_nil, or_false] at hb ⊢ <;> omega))
  refine wh_S_payRent_L27 _ _ _ _ S g _ (fun b hb => hS b (by first | exact absurd hb List.not_mem_nil | (simp only [List.mem_cons, List.not_mem_nil, or_false] at hb ⊢ <;> omega))) (fun x9 h10 hm f => ?_) _ _ _ _ hm f
  · obtain ⟨h11, e1, hm⟩ := lt_some hm
    replace f : Fh S h11 g := by rw [e1]; exact up_fh0 f (by decide)
    obtain ⟨h12, he, hm⟩ := bd_s hm
    replace f := fh_tr f (fhS_noteIfAny _ _ _ _ _ he) (fun b hb => hS b (by simp only [FHdS_noteIfAny, List.mem_cons, List.not_mem_nil, or_false] at hb ⊢ <;> omega))
    obtain ⟨x13, -, hm⟩ := lt_some hm
    obtain ⟨r14, -, hm⟩ := bd_s hm
    obtain ⟨h15, he, hm⟩ := bd_s hm
    replace f := fh_tr f (fhB_write _ _ _ _ _ he) (fun b hb => hS b (by simp only [FHdB_write, List.mem_cons, List.not_mem_nil, or_false] at hb ⊢ <;> omega))
    obtain ⟨h16, he, hm⟩ := bd_s hm
    replace f := fh_tr f (fhS_noteIfAny _ _ _ _ _ he) (fun b hb => hS b (by simp only [FHdS_noteIfAny, List.mem_cons, List.not_mem_nil, or_false] at hb ⊢ <;> omega))
    obtain ⟨h17, he, hm⟩ := bd_s hm
    replace f := fh_tr f (fhS_leaveIfFallen _ _ _ he) (fun b hb => hS b (by simp only [FHdS_leaveIfFallen, List.mem_cons, List.not_mem_nil, or_false] at hb ⊢ <;> omega))
    cases hm
    exact f
def FHdS_ratsGnaw (a0 : Nat) (p1 : Int32) : List Nat := []
theorem fhS_ratsGnaw (a0 : Nat) (p1 : Int32) (h0 : PH) {r : Int32 × PH} (hm : mS_ratsGnaw a0 p1 h0 = some r) : Fh (FHdS_ratsGnaw a0 p1) r.2 h0 := by
  generalize hSe : FHdS_ratsGnaw a0 p1 = S
  have hS : ∀ b, b ∈ ([] : List Nat) → b ∈ S := by rw [← hSe]; exact fun b hb => hb
  generalize hge : h0 = g at ⊢
  have f : Fh S h0 g := by rw [hge]; exact fun _ _ => rfl
  unfold mS_ratsGnaw at hm
  rcases ite_or hm with ⟨hc, hm⟩ | ⟨hc, hm⟩
  · rcases ite_or hm with ⟨hc, hm⟩ | ⟨hc, hm⟩
    · cases hm
      exact f
    · cases hm
      exact f
  · rcases ite_or hm with ⟨hc, hm⟩ | ⟨hc, hm⟩
    · cases hm
      exact f
    · obtain ⟨r1, h2, he, hm⟩ := bd2_s hm
      replace f := fh_tr f (fhB_draw _ _ _ he) (fun b hb => hS b (by simp only [FHdB_draw, List.mem_cons, List.not_mem_nil, or_false] at hb ⊢ <;> omega))
      rcases ite_or hm with ⟨hc, hm⟩ | ⟨hc, hm⟩
      · cases hm
        exact f
      · cases hm
        exact f
def FHdS_gnaw (a0 : Nat) (p1 : Int32) : List Nat := [17, 36, 35, ((sT a0) + 1)]
theorem wh_S_gnaw_L4 (a0 : Nat) (p1 : Int32) (k0 : Int32 → PH → Option (PH)) (S : List Nat) (g : PH) (r : PH) (hS : ∀ b, b ∈ ([36, 35, ((sT a0) + 1)] : List Nat) → b ∈ S) (kk0 : ∀ (y0 : Int32) (y1 : PH), k0 y0 y1 = some r → Fh S y1 g → Fh S r g) : ∀ (n : Nat) (v2 : Int32) (v3 : Int32) (hv : PH), mS_gnaw_L4 a0 p1 k0 n v2 v3 hv = some r → Fh S hv g → Fh S r g := by
  intro n
  induction n with
  | zero => intro v2 v3 hv hm; cases hm
  | succ n ih =>
    intro v2 v3 hv hm f
    unfold mS_gnaw_L4 at hm
    rcases ite_or hm with ⟨hc, hm⟩ | ⟨hc, hm⟩
    · exact kk0 _ _ hm f
    · obtain ⟨r1, -, hm⟩ := bd_s hm
      rcases ite_or hm with ⟨hc, hm⟩ | ⟨hc, hm⟩
      · exact ih _ _ _ hm f
      · obtain ⟨r2, h3, he, hm⟩ := bd2_s hm
        replace f := fh_tr f (fhW_tells _ _ _ _ _ he) (fun b hb => hS b (by simp only [FHdW_tells, List.mem_cons, List.not_mem_nil, or_false] at hb ⊢ <;> omega))
        obtain ⟨r4, h5, he, hm⟩ := bd2_s hm
        replace f := fh_tr f (fhS_ratsGnaw _ _ _ he) (fun b hb => hS b (by simp only [FHdS_ratsGnaw, List.mem_cons, List.not_mem_nil, or_false] at hb ⊢ <;> omega))
        rcases ite_or hm with ⟨hc, hm⟩ | ⟨hc, hm⟩
        · exact ih _ _ _ hm f
        · obtain ⟨r6, h7, he, hm⟩ := bd2_s hm
          replace f := fh_tr f (fhB_thin _ _ _ _ _ he) (fun b hb => hS b (by simp only [FHdB_thin, List.mem_cons, List.not_mem_nil, or_false] at hb ⊢ <;> omega))
          obtain ⟨x8, -, hm⟩ := lt_some hm
          exact ih _ _ _ hm f
theorem fhS_gnaw (a0 : Nat) (p1 : Int32) (h0 : PH) {r : PH} (hm : mS_gnaw a0 p1 h0 = some r) : Fh (FHdS_gnaw a0 p1) r h0 := by
  generalize hSe : FHdS_gnaw a0 p1 = S
  have hS : ∀ b, b ∈ ([17, 36, 35, ((sT a0) + 1)] : List Nat) → b ∈ S := by rw [← hSe]; exact fun b hb => hb
  generalize hge : h0 = g at ⊢
  have f : Fh S h0 g := by rw [hge]; exact fun _ _ => rfl
  unfold mS_gnaw at hm
  refine wh_S_gnaw_L4 _ _ _ S g _ (fun b hb => hS b (by first | exact absurd hb List.not_mem_nil | (simp only [List.mem_cons, List.not_mem_nil, or_false] at hb ⊢ <;> omega))) (fun x9 h10 hm f => ?_) _ _ _ _ hm f
  · obtain ⟨h11, e1, hm⟩ := lt_some hm
    replace f : Fh S h11 g := by rw [e1]; exact up_fh0 f (by decide)
    obtain ⟨h12, he, hm⟩ := bd_s hm
    replace f := fh_tr f (fhS_noteIfAny _ _ _ _ _ he) (fun b hb => hS b (by simp only [FHdS_noteIfAny, List.mem_cons, List.not_mem_nil, or_false] at hb ⊢ <;> omega))
    cases hm
    exact f
def FHdS_melt (a0 : Nat) (p1 : Int32) : List Nat := [17, 36, 35, ((sT a0) + 1)]
theorem wh_S_melt_L15 (a0 : Nat) (p1 : Int32) (k0 : Int32 → PH → Option (PH)) (S : List Nat) (g : PH) (r : PH) (hS : ∀ b, b ∈ ([36, 35, ((sT a0) + 1)] : List Nat) → b ∈ S) (kk0 : ∀ (y0 : Int32) (y1 : PH), k0 y0 y1 = some r → Fh S y1 g → Fh S r g) : ∀ (n : Nat) (v2 : Int32) (v3 : Int32) (hv : PH), mS_melt_L15 a0 p1 k0 n v2 v3 hv = some r → Fh S hv g → Fh S r g := by
  intro n
  induction n with
  | zero => intro v2 v3 hv hm; cases hm
  | succ n ih =>
    intro v2 v3 hv hm f
    unfold mS_melt_L15 at hm
    rcases ite_or hm with ⟨hc, hm⟩ | ⟨hc, hm⟩
    · exact kk0 _ _ hm f
    · obtain ⟨r1, -, hm⟩ := bd_s hm
      rcases ite_or hm with ⟨hc, hm⟩ | ⟨hc, hm⟩
      · exact ih _ _ _ hm f
      · obtain ⟨r2, h3, he, hm⟩ := bd2_s hm
        replace f := fh_tr f (fhW_tells _ _ _ _ _ he) (fun b hb => hS b (by simp only [FHdW_tells, List.mem_cons, List.not_mem_nil, or_false] at hb ⊢ <;> omega))
        obtain ⟨r4, h5, he, hm⟩ := bd2_s hm
        replace f := fh_tr f (fhB_thin _ _ _ _ _ he) (fun b hb => hS b (by simp only [FHdB_thin, List.mem_cons, List.not_mem_nil, or_false] at hb ⊢ <;> omega))
        obtain ⟨x6, -, hm⟩ := lt_some hm
        exact ih _ _ _ hm f
theorem fhS_melt (a0 : Nat) (p1 : Int32) (h0 : PH) {r : PH} (hm : mS_melt a0 p1 h0 = some r) : Fh (FHdS_melt a0 p1) r h0 := by
  generalize hSe : FHdS_melt a0 p1 = S
  have hS : ∀ b, b ∈ ([17, 36, 35, ((sT a0) + 1)] : List Nat) → b ∈ S := by rw [← hSe]; exact fun b hb => hb
  generalize hge : h0 = g at ⊢
  have f : Fh S h0 g := by rw [hge]; exact fun _ _ => rfl
  unfold mS_melt at hm
  rcases ite_or hm with ⟨hc, hm⟩ | ⟨hc, hm⟩
  · refine wh_S_melt_L15 _ _ _ S g _ (fun b hb => hS b (by first | exact absurd hb List.not_mem_nil | (simp only [List.mem_cons, List.not_mem_nil, or_false] at hb ⊢ <;> omega))) (fun x7 h8 hm f => ?_) _ _ _ _ hm f
    · obtain ⟨h9, he, hm⟩ := bd_s hm
      replace f := fh_tr f (fhS_noteIfAny _ _ _ _ _ he) (fun b hb => hS b (by simp only [FHdS_noteIfAny, List.mem_cons, List.not_mem_nil, or_false] at hb ⊢ <;> omega))
      cases hm
      exact f
  · cases hm
    exact f
def FHdS_harden (a0 : Nat) : List Nat := [((sT a0) + 1)]
theorem wh_S_harden_L2 (a0 : Nat) (S : List Nat) (g : PH) (r : PH) (hS : ∀ b, b ∈ ([((sT a0) + 1)] : List Nat) → b ∈ S) : ∀ (n : Nat) (v1 : Int32) (hv : PH), mS_harden_L2 a0 n v1 hv = some r → Fh S hv g → Fh S r g := by
  intro n
  induction n with
  | zero => intro v1 hv hm; cases hm
  | succ n ih =>
    intro v1 hv hm f
    unfold mS_harden_L2 at hm
    rcases ite_or hm with ⟨hc, hm⟩ | ⟨hc, hm⟩
    · cases hm
      exact f
    · rcases ite_or hm with ⟨hc, hm⟩ | ⟨hc, hm⟩
      · obtain ⟨r1, -, hm⟩ := bd_s hm
        rcases ite_or hm with ⟨hc, hm⟩ | ⟨hc, hm⟩
        · exact ih _ _ hm f
        · obtain ⟨r2, -, hm⟩ := bd_s hm
          obtain ⟨h3, he, hm⟩ := bd_s hm
          replace f := fh_tr f (fhB_write _ _ _ _ _ he) (fun b hb => hS b (by simp only [FHdB_write, List.mem_cons, List.not_mem_nil, or_false] at hb ⊢ <;> omega))
          exact ih _ _ hm f
      · exact ih _ _ hm f
theorem fhS_harden (a0 : Nat) (h0 : PH) {r : PH} (hm : mS_harden a0 h0 = some r) : Fh (FHdS_harden a0) r h0 := by
  generalize hSe : FHdS_harden a0 = S
  have hS : ∀ b, b ∈ ([((sT a0) + 1)] : List Nat) → b ∈ S := by rw [← hSe]; exact fun b hb => hb
  generalize hge : h0 = g at ⊢
  have f : Fh S h0 g := by rw [hge]; exact fun _ _ => rfl
  unfold mS_harden at hm
  exact wh_S_harden_L2 _ S g _ (fun b hb => hS b (by first | exact absurd hb List.not_mem_nil | (simp only [List.mem_cons, List.not_mem_nil, or_false] at hb ⊢ <;> omega))) _ _ _ hm f
def FHdS_grow (a0 : Nat) : List Nat := [((sT a0) + 1)]
theorem wh_S_grow_L2 (a0 : Nat) (k0 : PH → Option (PH)) (S : List Nat) (g : PH) (r : PH) (hS : ∀ b, b ∈ ([((sT a0) + 1)] : List Nat) → b ∈ S) (kk0 : ∀ (y0 : PH), k0 y0 = some r → Fh S y0 g → Fh S r g) : ∀ (n : Nat) (v1 : Int32) (hv : PH), mS_grow_L2 a0 k0 n v1 hv = some r → Fh S hv g → Fh S r g := by
  intro n
  induction n with
  | zero => intro v1 hv hm; cases hm
  | succ n ih =>
    intro v1 hv hm f
    unfold mS_grow_L2 at hm
    rcases ite_or hm with ⟨hc, hm⟩ | ⟨hc, hm⟩
    · exact kk0 _ hm f
    · obtain ⟨r1, -, hm⟩ := bd_s hm
      rcases ite_or hm with ⟨hc, hm⟩ | ⟨hc, hm⟩
      · exact ih _ _ hm f
      · obtain ⟨r2, -, hm⟩ := bd_s hm
        obtain ⟨h3, he, hm⟩ := bd_s hm
        replace f := fh_tr f (fhB_write _ _ _ _ _ he) (fun b hb => hS b (by simp only [FHdB_write, List.mem_cons, List.not_mem_nil, or_false] at hb ⊢ <;> omega))
        exact ih _ _ hm f
theorem fhS_grow (a0 : Nat) (h0 : PH) {r : PH} (hm : mS_grow a0 h0 = some r) : Fh (FHdS_grow a0) r h0 := by
  generalize hSe : FHdS_grow a0 = S
  have hS : ∀ b, b ∈ ([((sT a0) + 1)] : List Nat) → b ∈ S := by rw [← hSe]; exact fun b hb => hb
  generalize hge : h0 = g at ⊢
  have f : Fh S h0 g := by rw [hge]; exact fun _ _ => rfl
  unfold mS_grow at hm
  refine wh_S_grow_L2 _ _ S g _ (fun b hb => hS b (by first | exact absurd hb List.not_mem_nil | (simp only [List.mem_cons, List.not_mem_nil, or_false] at hb ⊢ <;> omega))) (fun h4 hm f => ?_) _ _ _ hm f
  · obtain ⟨h5, e1, hm⟩ := lt_some hm
    replace f : Fh S h5 g := by rw [e1]; exact up_fh0 f (by decide)
    cases hm
    exact f
def FHdS_pass (a0 : Nat) : List Nat := [((sT a0) + 1), 17, 36, 35]
theorem wh_S_pass_L6 (a0 : Nat) (k0 : PH → Option (Int32 × PH)) (S : List Nat) (g : PH) (r : Int32 × PH) (hS : ∀ b, b ∈ ([((sT a0) + 1), 17] : List Nat) → b ∈ S) (kk0 : ∀ (y0 : PH), k0 y0 = some r → Fh S y0 g → Fh S r.2 g) : ∀ (n : Nat) (v1 : Int32) (hv : PH), mS_pass_L6 a0 k0 n v1 hv = some r → Fh S hv g → Fh S r.2 g := by
  intro n
  induction n with
  | zero => intro v1 hv hm; cases hm
  | succ n ih =>
    intro v1 hv hm f
    unfold mS_pass_L6 at hm
    rcases ite_or hm with ⟨hc, hm⟩ | ⟨hc, hm⟩
    · exact kk0 _ hm f
    · obtain ⟨r2, -, hm⟩ := bd_s hm
      rcases ite_or hm with ⟨hc, hm⟩ | ⟨hc, hm⟩
      · obtain ⟨h3, he, hm⟩ := bd_s hm
        replace f := fh_tr f (fhS_officeLine _ _ _ _ he) (fun b hb => hS b (by simp only [FHdS_officeLine, List.mem_cons, List.not_mem_nil, or_false] at hb ⊢ <;> omega))
        exact ih _ _ hm f
      · exact ih _ _ hm f
theorem wh_S_pass_L70 (a0 : Nat) (p1 : Int32) (k0 : PH → Option (Int32 × PH)) (S : List Nat) (g : PH) (r : Int32 × PH) (hS : ∀ b, b ∈ ([36, 35, 17, ((sT a0) + 1)] : List Nat) → b ∈ S) (kk0 : ∀ (y0 : PH), k0 y0 = some r → Fh S y0 g → Fh S r.2 g) : ∀ (n : Nat) (v2 : Int32) (hv : PH), mS_pass_L70 a0 p1 k0 n v2 hv = some r → Fh S hv g → Fh S r.2 g := by
  intro n
  induction n with
  | zero => intro v2 hv hm; cases hm
  | succ n ih =>
    intro v2 hv hm f
    unfold mS_pass_L70 at hm
    rcases ite_or hm with ⟨hc, hm⟩ | ⟨hc, hm⟩
    · exact kk0 _ hm f
    · obtain ⟨r6, -, hm⟩ := bd_s hm
      rcases ite_or hm with ⟨hc, hm⟩ | ⟨hc, hm⟩
      · exact ih _ _ hm f
      · obtain ⟨r7, -, hm⟩ := bd_s hm
        rcases ite_or hm with ⟨hc, hm⟩ | ⟨hc, hm⟩
        · exact ih _ _ hm f
        · obtain ⟨h8, he, hm⟩ := bd_s hm
          replace f := fh_tr f (fhS_payRent _ _ _ he) (fun b hb => hS b (by simp only [FHdS_payRent, List.mem_cons, List.not_mem_nil, or_false] at hb ⊢ <;> omega))
          exact ih _ _ hm f
theorem wh_S_pass_L118 (a0 : Nat) (p1 : Int32) (k0 : PH → Option (Int32 × PH)) (S : List Nat) (g : PH) (r : Int32 × PH) (hS : ∀ b, b ∈ ([17, 36, 35, ((sT a0) + 1)] : List Nat) → b ∈ S) (kk0 : ∀ (y0 : PH), k0 y0 = some r → Fh S y0 g → Fh S r.2 g) : ∀ (n : Nat) (v2 : Int32) (hv : PH), mS_pass_L118 a0 p1 k0 n v2 hv = some r → Fh S hv g → Fh S r.2 g := by
  intro n
  induction n with
  | zero => intro v2 hv hm; cases hm
  | succ n ih =>
    intro v2 hv hm f
    unfold mS_pass_L118 at hm
    rcases ite_or hm with ⟨hc, hm⟩ | ⟨hc, hm⟩
    · exact kk0 _ hm f
    · obtain ⟨h10, he, hm⟩ := bd_s hm
      replace f := fh_tr f (fhS_gnaw _ _ _ he) (fun b hb => hS b (by simp only [FHdS_gnaw, List.mem_cons, List.not_mem_nil, or_false] at hb ⊢ <;> omega))
      exact ih _ _ hm f
theorem wh_S_pass_L142 (a0 : Nat) (p1 : Int32) (k0 : PH → Option (Int32 × PH)) (S : List Nat) (g : PH) (r : Int32 × PH) (hS : ∀ b, b ∈ ([17, 36, 35, ((sT a0) + 1)] : List Nat) → b ∈ S) (kk0 : ∀ (y0 : PH), k0 y0 = some r → Fh S y0 g → Fh S r.2 g) : ∀ (n : Nat) (v2 : Int32) (hv : PH), mS_pass_L142 a0 p1 k0 n v2 hv = some r → Fh S hv g → Fh S r.2 g := by
  intro n
  induction n with
  | zero => intro v2 hv hm; cases hm
  | succ n ih =>
    intro v2 hv hm f
    unfold mS_pass_L142 at hm
    rcases ite_or hm with ⟨hc, hm⟩ | ⟨hc, hm⟩
    · exact kk0 _ hm f
    · obtain ⟨h12, he, hm⟩ := bd_s hm
      replace f := fh_tr f (fhS_melt _ _ _ he) (fun b hb => hS b (by simp only [FHdS_melt, List.mem_cons, List.not_mem_nil, or_false] at hb ⊢ <;> omega))
      exact ih _ _ hm f
theorem wh_S_pass_L180 (a0 : Nat) (p2 : Int32) (k0 : PH → Option (Int32 × PH)) (S : List Nat) (g : PH) (r : Int32 × PH) (hS : ∀ b, b ∈ ([((sT a0) + 1), 17] : List Nat) → b ∈ S) (kk0 : ∀ (y0 : PH), k0 y0 = some r → Fh S y0 g → Fh S r.2 g) : ∀ (n : Nat) (v3 : Int32) (hv : PH), mS_pass_L180 a0 p2 k0 n v3 hv = some r → Fh S hv g → Fh S r.2 g := by
  intro n
  induction n with
  | zero => intro v3 hv hm; cases hm
  | succ n ih =>
    intro v3 hv hm f
    unfold mS_pass_L180 at hm
    rcases ite_or hm with ⟨hc, hm⟩ | ⟨hc, hm⟩
    · exact kk0 _ hm f
    · obtain ⟨h17, he, hm⟩ := bd_s hm
      replace f := fh_tr f (fhS_leaveIfFallen _ _ _ he) (fun b hb => hS b (by simp only [FHdS_leaveIfFallen, List.mem_cons, List.not_mem_nil, or_false] at hb ⊢ <;> omega))
      exact ih _ _ hm f
theorem fhS_pass (a0 : Nat) (h0 : PH) {r : Int32 × PH} (hm : mS_pass a0 h0 = some r) : Fh (FHdS_pass a0) r.2 h0 := by
  generalize hSe : FHdS_pass a0 = S
  have hS : ∀ b, b ∈ ([((sT a0) + 1), 17, 36, 35] : List Nat) → b ∈ S := by rw [← hSe]; exact fun b hb => hb
  generalize hge : h0 = g at ⊢
  have f : Fh S h0 g := by rw [hge]; exact fun _ _ => rfl
  unfold mS_pass at hm
  obtain ⟨h1, he, hm⟩ := bd_s hm
  replace f := fh_tr f (fhS_weather _ _ he) (fun b hb => hS b (by simp only [FHdS_weather, List.mem_cons, List.not_mem_nil, or_false] at hb ⊢ <;> omega))
  refine wh_S_pass_L6 _ _ S g _ (fun b hb => hS b (by first | exact absurd hb List.not_mem_nil | (simp only [List.mem_cons, List.not_mem_nil, or_false] at hb ⊢ <;> omega))) (fun h4 hm f => ?_) _ _ _ hm f
  · obtain ⟨r5, -, hm⟩ := bd_s hm
    refine wh_S_pass_L70 _ _ _ S g _ (fun b hb => hS b (by first | exact absurd hb List.not_mem_nil | (simp only [List.mem_cons, List.not_mem_nil, or_false] at hb ⊢ <;> omega))) (fun h9 hm f => ?_) _ _ _ hm f
    · refine wh_S_pass_L118 _ _ _ S g _ (fun b hb => hS b (by first | exact absurd hb List.not_mem_nil | (simp only [List.mem_cons, List.not_mem_nil, or_false] at hb ⊢ <;> omega))) (fun h11 hm f => ?_) _ _ _ hm f
      · refine wh_S_pass_L142 _ _ _ S g _ (fun b hb => hS b (by first | exact absurd hb List.not_mem_nil | (simp only [List.mem_cons, List.not_mem_nil, or_false] at hb ⊢ <;> omega))) (fun h13 hm f => ?_) _ _ _ hm f
        · obtain ⟨r14, -, hm⟩ := bd_s hm
          obtain ⟨x15, -, hm⟩ := lt_some hm
          obtain ⟨h16, he, hm⟩ := bd_s hm
          replace f := fh_tr f (fhS_harden _ _ he) (fun b hb => hS b (by simp only [FHdS_harden, List.mem_cons, List.not_mem_nil, or_false] at hb ⊢ <;> omega))
          refine wh_S_pass_L180 _ _ _ S g _ (fun b hb => hS b (by first | exact absurd hb List.not_mem_nil | (simp only [List.mem_cons, List.not_mem_nil, or_false] at hb ⊢ <;> omega))) (fun h18 hm f => ?_) _ _ _ hm f
          · obtain ⟨h19, he, hm⟩ := bd_s hm
            replace f := fh_tr f (fhS_grow _ _ he) (fun b hb => hS b (by simp only [FHdS_grow, List.mem_cons, List.not_mem_nil, or_false] at hb ⊢ <;> omega))
            cases hm
            exact f
def FHdS_nibble (a0 : Nat) (p1 : Int32) (p2 : Int32) (p3 : Int32) : List Nat := [((sT a0) + 1), 17]
theorem fhS_nibble (a0 : Nat) (p1 : Int32) (p2 : Int32) (p3 : Int32) (h0 : PH) {r : PH} (hm : mS_nibble a0 p1 p2 p3 h0 = some r) : Fh (FHdS_nibble a0 p1 p2 p3) r h0 := by
  generalize hSe : FHdS_nibble a0 p1 p2 p3 = S
  have hS : ∀ b, b ∈ ([((sT a0) + 1), 17] : List Nat) → b ∈ S := by rw [← hSe]; exact fun b hb => hb
  generalize hge : h0 = g at ⊢
  have f : Fh S h0 g := by rw [hge]; exact fun _ _ => rfl
  unfold mS_nibble at hm
  obtain ⟨r1, h2, he, hm⟩ := bd2_s hm
  replace f := fh_tr f (fhB_thin _ _ _ _ _ he) (fun b hb => hS b (by simp only [FHdB_thin, List.mem_cons, List.not_mem_nil, or_false] at hb ⊢ <;> omega))
  obtain ⟨h3, e1, hm⟩ := lt_some hm
  replace f : Fh S h3 g := by rw [e1]; exact up_fh0 f (by decide)
  obtain ⟨h4, he, hm⟩ := bd_s hm
  replace f := fh_tr f (fhS_note _ _ _ _ _ he) (fun b hb => hS b (by simp only [FHdS_note, List.mem_cons, List.not_mem_nil, or_false] at hb ⊢ <;> omega))
  obtain ⟨h5, he, hm⟩ := bd_s hm
  replace f := fh_tr f (fhS_leaveIfFallen _ _ _ he) (fun b hb => hS b (by simp only [FHdS_leaveIfFallen, List.mem_cons, List.not_mem_nil, or_false] at hb ⊢ <;> omega))
  cases hm
  exact f
def FHdS_actByHand (a0 : Nat) (p1 : Int32) (p2 : Int32) (p3 : Int32) : List Nat := [((sT a0) + 1), 17]
theorem fhS_actByHand (a0 : Nat) (p1 : Int32) (p2 : Int32) (p3 : Int32) (h0 : PH) {r : PH} (hm : mS_actByHand a0 p1 p2 p3 h0 = some r) : Fh (FHdS_actByHand a0 p1 p2 p3) r h0 := by
  generalize hSe : FHdS_actByHand a0 p1 p2 p3 = S
  have hS : ∀ b, b ∈ ([((sT a0) + 1), 17] : List Nat) → b ∈ S := by rw [← hSe]; exact fun b hb => hb
  generalize hge : h0 = g at ⊢
  have f : Fh S h0 g := by rw [hge]; exact fun _ _ => rfl
  unfold mS_actByHand at hm
  obtain ⟨r1, -, hm⟩ := bd_s hm
  rcases ite_or hm with ⟨hc, hm⟩ | ⟨hc, hm⟩
  · obtain ⟨r2, -, hm⟩ := bd_s hm
    rcases ite_or hm with ⟨hc, hm⟩ | ⟨hc, hm⟩
    · rcases ite_or hm with ⟨hc, hm⟩ | ⟨hc, hm⟩
      · obtain ⟨h3, he, hm⟩ := bd_s hm
        replace f := fh_tr f (fhS_wed _ _ _ he) (fun b hb => hS b (by simp only [FHdS_wed, List.mem_cons, List.not_mem_nil, or_false] at hb ⊢ <;> omega))
        cases hm
        exact f
      · rcases ite_or hm with ⟨hc, hm⟩ | ⟨hc, hm⟩
        · obtain ⟨h4, he, hm⟩ := bd_s hm
          replace f := fh_tr f (fhS_moveLodgers _ _ _ _ he) (fun b hb => hS b (by simp only [FHdS_moveLodgers, List.mem_cons, List.not_mem_nil, or_false] at hb ⊢ <;> omega))
          cases hm
          exact f
        · rcases ite_or hm with ⟨hc, hm⟩ | ⟨hc, hm⟩
          · obtain ⟨h5, he, hm⟩ := bd_s hm
            replace f := fh_tr f (fhS_raze _ _ _ he) (fun b hb => hS b (by simp only [FHdS_raze, List.mem_cons, List.not_mem_nil, or_false] at hb ⊢ <;> omega))
            cases hm
            exact f
          · cases hm
            exact f
    · obtain ⟨h6, he, hm⟩ := bd_s hm
      replace f := fh_tr f (fhB_thicken _ _ _ _ _ he) (fun b hb => hS b (by simp only [FHdB_thicken, List.mem_cons, List.not_mem_nil, or_false] at hb ⊢ <;> omega))
      cases hm
      exact f
  · obtain ⟨h7, he, hm⟩ := bd_s hm
    replace f := fh_tr f (fhS_nibble _ _ _ _ _ he) (fun b hb => hS b (by simp only [FHdS_nibble, List.mem_cons, List.not_mem_nil, or_false] at hb ⊢ <;> omega))
    cases hm
    exact f
