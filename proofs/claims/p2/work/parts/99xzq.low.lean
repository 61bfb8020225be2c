/-! WHAT THE MODEL'S READER leaves alone. Printed by wip/gen/flo.py -/
def LOW (b j : Nat) : Prop := b < 1000 ∧ b ≠ 104 ∧ b ≠ 120 ∧ ¬ (114 ≤ b ∧ b ≤ 117 ∧ 16 ≤ j) ∧ ¬ ((b = 118 ∨ b = 119) ∧ 400 ≤ j) ∧ ¬ (b = 121 ∧ 48 ≤ j) ∧ ¬ (b = 122 ∧ 80 ≤ j) ∧ ¬ (b = 123 ∧ 12 ≤ j)
def Flo (h g : PH) : Prop := 0 ≤ (g 104 25).toInt → 0 ≤ (h 104 25).toInt ∧ ∀ b j, LOW b j → h b j = g b j
theorem flo_r (h : PH) : Flo h h := fun z => ⟨z, fun _ _ _ => rfl⟩
theorem flo_tr {h k g : PH} (f : Flo h g) (e : Flo k h) : Flo k g := fun z => ⟨(e (f z).1).1, fun b j l => ((e (f z).1).2 b j l).trans ((f z).2 b j l)⟩
theorem flo_fr {T : List Nat} {h k g : PH} (f : Flo h g) (e : Fk T k h) (n : ∀ b, b ∈ T → b = 120 ∨ (1000 ≤ b ∧ b ≠ 1025)) : Flo k g := flo_tr f (fun z => ⟨by
  rw [e 104 25 (fun q => by have := n _ q; rw [show kk 104 25 = 1025 from rfl] at this; omega)]
  exact z, fun b j l => e b j (fun q => by
    have y := n _ q
    unfold LOW at l
    unfold kk at y
    rw [if_neg l.2.1] at y
    omega)⟩)
theorem up_lo {h g : PH} {a j : Nat} {x : Int32} (f : Flo h g) (h4 : a ≠ 104) (n : ¬ LOW a j) : Flo (up h a j x) g := flo_tr f (fun z => ⟨by rw [up_oc (Ne.symm h4)]; exact z, fun b q l => up_ne (by
  by_cases y : b = a
  · subst y
    exact Or.inr (fun w => n (by rw [← w]; exact l))
  · exact Or.inl y)⟩)
theorem up_flo {h g : PH} {a j : Nat} {x : Int32} (f : Flo h g) (n : a = 120) : Flo (up h a j x) g := up_lo f (by omega) (fun l => l.2.2.1 n)
theorem up_flo4 {h g : PH} {j : Nat} {x : Int32} (f : Flo h g) (n : j ≠ 25) : Flo (up h 104 j x) g := flo_tr f (fun z => ⟨by rw [up_oj (Ne.symm n)]; exact z, fun b q l => up_oc l.2.1⟩)
theorem ixs {a v : Int32} {n : Nat} (c : vp_in (a + v) n) (ha : 0 ≤ a.toInt) (ha2 : a.toInt ≤ 10000) (hv : 0 ≤ v.toInt) : ((ix (a + v) : Nat) : Int) = a.toInt + v.toInt ∧ a.toInt + v.toInt < (n : Int) := by
  have c' : ¬ (a + v < 0 ∨ n ≤ ix (a + v)) := c
  have c1 : 0 ≤ (a + v).toInt := by
    have : ¬ a + v < 0 := fun q => c' (Or.inl q)
    rw [Int32.lt_iff_toInt_lt, show (0 : Int32).toInt = 0 from rfl] at this
    omega
  have c2 : ((ix (a + v) : Nat) : Int) = (a + v).toInt := clamp_int c1
  have c3 : ¬ n ≤ ix (a + v) := fun q => c' (Or.inr q)
  have vl : v.toInt < 2147483648 := by have := Int32.toInt_lt v; simpa using this
  have ad : (a + v).toInt = (a.toInt + v.toInt).bmod 4294967296 := Int32.toInt_add a v
  rw [Int.bmod_def] at ad
  split at ad
  · omega
  · omega
theorem lo_b {p v : Int32} {n t c : Nat} (h1 : (t : Int) ≤ p.toInt) (h2 : p.toInt ≤ (c : Int)) (k : vp_in (p + v) n) (hv : 0 ≤ v.toInt := by decide) (hc : c ≤ 10000 := by decide) (b : Nat := 121) (hb : (b = 121 ∧ t = 48) ∨ (b = 122 ∧ t = 80) := by decide) : ¬ LOW b (ix (p + v)) := fun l => by
  obtain ⟨a, _⟩ := ixs k (by omega) (by omega) hv
  unfold LOW at l
  omega
theorem lo_a {p : Int32} {n t : Nat} (h1 : (t : Int) ≤ p.toInt) (k : vp_in p n) (b : Nat := 121) (hb : (b = 121 ∧ t = 48) ∨ (b = 122 ∧ t = 80) := by decide) : ¬ LOW b (ix p) := fun l => by
  have : ((ix p : Nat) : Int) = p.toInt := clamp_int (by omega)
  unfold LOW at l
  omega
theorem flom_emits (p1 : Int32) (p2 : Int32) (h0 : PH) {r : PH} (hS : True) (hm : mm_emits p1 p2 h0 = some r) : Flo r h0 := by
  unfold mm_emits at hm
  obtain ⟨c1, hm⟩ := ck_s hm
  obtain ⟨h1, e1, hm⟩ := lt_some hm
  obtain ⟨c2, hm⟩ := ck_s hm
  obtain ⟨h2, e2, hm⟩ := lt_some hm
  obtain ⟨h3, e3, hm⟩ := lt_some hm
  cases hm
  have q1 : h1 104 25 = h0 104 25 := by rw [e1, up_oc (by decide)]
  have q2 : h2 104 25 = h0 104 25 := by rw [e2, up_oc (by decide), q1]
  intro z
  obtain ⟨a1, a2⟩ := ixs c1 (by decide) (by decide) z
  rw [show (800 : Int32).toInt = 800 from rfl] at a1 a2
  have ad : (h0 104 25 + 1).toInt = (h0 104 25).toInt + 1 := i_add (a := 0) (b := 1000) (c := 1) (d := 1) ⟨z, by omega⟩ ⟨by decide, by decide⟩ (by decide)
  refine ⟨by rw [e3, up_same, q2, ad]; omega, fun b j l => ?_⟩
  unfold LOW at l
  rw [e3, up_oc l.2.1, e2, q1, up_ne (by omega), e1, up_ne (by omega)]
theorem flom_readUnit (h0 : PH) {r : Int32 × PH} (hS : True) (hm : mm_readUnit h0 = some r) : Flo r.2 h0 := by
  generalize hge : h0 = g at ⊢
  have f : Flo h0 g := by rw [hge]; exact flo_r _
  unfold mm_readUnit at hm
  refine v_j1 (fun (x2 : Int32) => Flo r.2 g) hm (fun x2 hm => ?_) (fun j1 kj1 hm => ?_)
  · refine v_j0 (Flo r.2 g) hm (fun hm => ?_) (fun j3 kj3 hm => ?_)
    · refine v_j1 (fun (x5 : Int32) => Flo r.2 g) hm (fun x5 hm => ?_) (fun j4 kj4 hm => ?_)
      · refine v_j1 (fun (x7 : Int32) => Flo r.2 g) hm (fun x7 hm => ?_) (fun j6 kj6 hm => ?_)
        · obtain ⟨h8, he, hm⟩ := bd_s hm
          replace f := flo_tr f (flom_emits _ _ _ hS he)
          obtain ⟨h9, he, hm⟩ := bd_s hm
          replace f := flo_fr f (fkm_reads _ he) (by unfold FKdm_reads; decide)
          cases hm
          exact f
        · rcases ite_or hm with ⟨hc, hm⟩ | ⟨hc, hm⟩
          · exact kj6 _ hm
          · exact kj6 _ hm
      · rcases ite_or hm with ⟨hc, hm⟩ | ⟨hc, hm⟩
        · exact kj4 _ hm
        · exact kj4 _ hm
    · rcases ite_or hm with ⟨hc, hm⟩ | ⟨hc, hm⟩
      · rcases ite_or hm with ⟨hc, hm⟩ | ⟨hc, hm⟩
        · exact kj3 hm
        · obtain ⟨r10, h11, he, hm⟩ := bd2_s hm
          replace f := flo_fr f (fkm_errs _ _ he) (by unfold FKdm_errs; decide)
          cases hm
          exact f
      · exact kj3 hm
  · rcases ite_or hm with ⟨hc, hm⟩ | ⟨hc, hm⟩
    · obtain ⟨r12, -, hm⟩ := bd_s hm
      rcases ite_or hm with ⟨hc, hm⟩ | ⟨hc, hm⟩
      · exact kj1 _ hm
      · exact kj1 _ hm
    · exact kj1 _ hm
theorem wlo_m_readProduct_L10 (k0 : PH → Option (Int32 × PH)) (k1 : PH → Option (Int32 × PH)) (g : PH) (r : Int32 × PH) (hS : True) (kk0 : ∀ (y0 : PH), k0 y0 = some r → Flo y0 g → Flo r.2 g) (kk1 : ∀ (y0 : PH), k1 y0 = some r → Flo y0 g → Flo r.2 g) : ∀ (n : Nat) (hv : PH), mm_readProduct_L10 k0 k1 n hv = some r → Flo hv g → Flo r.2 g := by
  intro n
  induction n with
  | zero => intro hv hm; cases hm
  | succ n ih =>
    intro hv hm f
    unfold mm_readProduct_L10 at hm
    obtain ⟨r3, -, hm⟩ := bd_s hm
    refine v_j0 (Flo r.2 g) hm (fun hm => ?_) (fun j4 kj4 hm => ?_)
    · obtain ⟨r5, -, hm⟩ := bd_s hm
      obtain ⟨h6, he, hm⟩ := bd_s hm
      replace f := flo_fr f (fkm_reads _ he) (by unfold FKdm_reads; decide)
      refine v_j0 (Flo r.2 g) hm (fun hm => ?_) (fun j7 kj7 hm => ?_)
      · refine v_j0 (Flo r.2 g) hm (fun hm => ?_) (fun j8 kj8 hm => ?_)
        · obtain ⟨r9, h10, he, hm⟩ := bd2_s hm
          replace f := flo_tr f (flom_readUnit _ hS he)
          rcases ite_or hm with ⟨hc, hm⟩ | ⟨hc, hm⟩
          · cases hm
            exact f
          · refine v_j1 (fun (x12 : Int32) => Flo r.2 g) hm (fun x12 hm => ?_) (fun j11 kj11 hm => ?_)
            · obtain ⟨h13, he, hm⟩ := bd_s hm
              replace f := flo_tr f (flom_emits _ _ _ hS he)
              exact ih _ hm f
            · rcases ite_or hm with ⟨hc, hm⟩ | ⟨hc, hm⟩
              · exact kj11 _ hm
              · exact kj11 _ hm
        · rcases ite_or hm with ⟨hc, hm⟩ | ⟨hc, hm⟩
          · rcases ite_or hm with ⟨hc, hm⟩ | ⟨hc, hm⟩
            · exact kk1 _ hm f
            · exact kj8 hm
          · exact kj8 hm
      · rcases ite_or hm with ⟨hc, hm⟩ | ⟨hc, hm⟩
        · rcases ite_or hm with ⟨hc, hm⟩ | ⟨hc, hm⟩
          · exact kj7 hm
          · exact kk0 _ hm f
        · exact kj7 hm
    · rcases ite_or hm with ⟨hc, hm⟩ | ⟨hc, hm⟩
      · obtain ⟨r14, -, hm⟩ := bd_s hm
        rcases ite_or hm with ⟨hc, hm⟩ | ⟨hc, hm⟩
        · cases hm
          exact f
        · exact kj4 hm
      · exact kj4 hm
theorem flom_readProduct (h0 : PH) {r : Int32 × PH} (hS : True) (hm : mm_readProduct h0 = some r) : Flo r.2 h0 := by
  generalize hge : h0 = g at ⊢
  have f : Flo h0 g := by rw [hge]; exact flo_r _
  unfold mm_readProduct at hm
  obtain ⟨r1, h2, he, hm⟩ := bd2_s hm
  replace f := flo_tr f (flom_readUnit _ hS he)
  rcases ite_or hm with ⟨hc, hm⟩ | ⟨hc, hm⟩
  · cases hm
    exact f
  · refine wlo_m_readProduct_L10 _ _ g _ hS (fun h15 hm f => ?_) (fun h18 hm f => ?_) _ _ hm f
    · obtain ⟨r16, h17, he, hm⟩ := bd2_s hm
      replace f := flo_fr f (fkm_errs _ _ he) (by unfold FKdm_errs; decide)
      cases hm
      exact f
    · obtain ⟨r19, h20, he, hm⟩ := bd2_s hm
      replace f := flo_fr f (fkm_errs _ _ he) (by unfold FKdm_errs; decide)
      cases hm
      exact f
theorem wlo_m_readSum_L10  (g : PH) (r : Int32 × PH) (hS : True) : ∀ (n : Nat) (hv : PH), mm_readSum_L10  n hv = some r → Flo hv g → Flo r.2 g := by
  intro n
  induction n with
  | zero => intro hv hm; cases hm
  | succ n ih =>
    intro hv hm f
    unfold mm_readSum_L10 at hm
    obtain ⟨r3, -, hm⟩ := bd_s hm
    refine v_j0 (Flo r.2 g) hm (fun hm => ?_) (fun j4 kj4 hm => ?_)
    · refine v_j1 (fun (x6 : Int32) => Flo r.2 g) hm (fun x6 hm => ?_) (fun j5 kj5 hm => ?_)
      · obtain ⟨h7, he, hm⟩ := bd_s hm
        replace f := flo_fr f (fkm_reads _ he) (by unfold FKdm_reads; decide)
        obtain ⟨r8, h9, he, hm⟩ := bd2_s hm
        replace f := flo_tr f (flom_readProduct _ hS he)
        rcases ite_or hm with ⟨hc, hm⟩ | ⟨hc, hm⟩
        · cases hm
          exact f
        · obtain ⟨h10, he, hm⟩ := bd_s hm
          replace f := flo_tr f (flom_emits _ _ _ hS he)
          exact ih _ hm f
      · rcases ite_or hm with ⟨hc, hm⟩ | ⟨hc, hm⟩
        · exact kj5 _ hm
        · exact kj5 _ hm
    · rcases ite_or hm with ⟨hc, hm⟩ | ⟨hc, hm⟩
      · obtain ⟨r11, -, hm⟩ := bd_s hm
        rcases ite_or hm with ⟨hc, hm⟩ | ⟨hc, hm⟩
        · cases hm
          exact f
        · exact kj4 hm
      · exact kj4 hm
theorem flom_readSum (h0 : PH) {r : Int32 × PH} (hS : True) (hm : mm_readSum h0 = some r) : Flo r.2 h0 := by
  generalize hge : h0 = g at ⊢
  have f : Flo h0 g := by rw [hge]; exact flo_r _
  unfold mm_readSum at hm
  obtain ⟨r1, h2, he, hm⟩ := bd2_s hm
  replace f := flo_tr f (flom_readProduct _ hS he)
  rcases ite_or hm with ⟨hc, hm⟩ | ⟨hc, hm⟩
  · cases hm
    exact f
  · exact wlo_m_readSum_L10 g _ hS _ _ hm f
theorem flom_readCompared (h0 : PH) {r : Int32 × PH} (hS : True) (hm : mm_readCompared h0 = some r) : Flo r.2 h0 := by
  generalize hge : h0 = g at ⊢
  have f : Flo h0 g := by rw [hge]; exact flo_r _
  unfold mm_readCompared at hm
  obtain ⟨r1, h2, he, hm⟩ := bd2_s hm
  replace f := flo_tr f (flom_readSum _ hS he)
  rcases ite_or hm with ⟨hc, hm⟩ | ⟨hc, hm⟩
  · cases hm
    exact f
  · obtain ⟨r3, -, hm⟩ := bd_s hm
    refine v_j0 (Flo r.2 g) hm (fun hm => ?_) (fun j4 kj4 hm => ?_)
    · refine v_j1 (fun (x6 : Int32) => Flo r.2 g) hm (fun x6 hm => ?_) (fun j5 kj5 hm => ?_)
      · obtain ⟨h7, he, hm⟩ := bd_s hm
        replace f := flo_fr f (fkm_reads _ he) (by unfold FKdm_reads; decide)
        obtain ⟨r8, h9, he, hm⟩ := bd2_s hm
        replace f := flo_tr f (flom_readSum _ hS he)
        rcases ite_or hm with ⟨hc, hm⟩ | ⟨hc, hm⟩
        · cases hm
          exact f
        · obtain ⟨h10, he, hm⟩ := bd_s hm
          replace f := flo_tr f (flom_emits _ _ _ hS he)
          cases hm
          exact f
      · rcases ite_or hm with ⟨hc, hm⟩ | ⟨hc, hm⟩
        · exact kj5 _ hm
        · rcases ite_or hm with ⟨hc, hm⟩ | ⟨hc, hm⟩
          · exact kj5 _ hm
          · exact kj5 _ hm
    · rcases ite_or hm with ⟨hc, hm⟩ | ⟨hc, hm⟩
      · obtain ⟨r11, -, hm⟩ := bd_s hm
        rcases ite_or hm with ⟨hc, hm⟩ | ⟨hc, hm⟩
        · obtain ⟨r12, -, hm⟩ := bd_s hm
          rcases ite_or hm with ⟨hc, hm⟩ | ⟨hc, hm⟩
          · obtain ⟨r13, h14, he, hm⟩ := bd2_s hm
            replace f := flo_fr f (fkm_errs _ _ he) (by unfold FKdm_errs; decide)
            cases hm
            exact f
          · exact kj4 hm
        · exact kj4 hm
      · exact kj4 hm
theorem wlo_m_settles_L0 (p1 : Int32) (g : PH) (r : PH) (hS : True) : ∀ (n : Nat) (hv : PH), mm_settles_L0 p1 n hv = some r → Flo hv g → Flo r g := by
  intro n
  induction n with
  | zero => intro hv hm; cases hm
  | succ n ih =>
    intro hv hm f
    unfold mm_settles_L0 at hm
    rcases ite_or hm with ⟨hc, hm⟩ | ⟨hc, hm⟩
    · cases hm
      exact f
    · obtain ⟨-, hm⟩ := ck_s hm
      rcases ite_or hm with ⟨hc, hm⟩ | ⟨hc, hm⟩
      · obtain ⟨h1, e1, hm⟩ := lt_some hm
        replace f : Flo h1 g := by rw [e1]; exact up_flo4 f (by decide)
        obtain ⟨h2, he, hm⟩ := bd_s hm
        replace f := flo_tr f (flom_emits _ _ _ hS he)
        rcases ite_or hm with ⟨hc, hm⟩ | ⟨hc, hm⟩
        · obtain ⟨h3, e1, hm⟩ := lt_some hm
          replace f : Flo h3 g := by rw [e1]; exact up_flo4 f (by decide)
          exact ih _ hm f
        · exact ih _ hm f
      · cases hm
        exact f
theorem flom_settles (p1 : Int32) (h0 : PH) {r : PH} (hS : True) (hm : mm_settles p1 h0 = some r) : Flo r h0 := by
  generalize hge : h0 = g at ⊢
  have f : Flo h0 g := by rw [hge]; exact flo_r _
  unfold mm_settles at hm
  exact wlo_m_settles_L0 _ g _ hS _ _ hm f
theorem wlo_m_readAny_L9 (k0 : PH → Option (Int32 × PH)) (k1 : PH → Option (Int32 × PH)) (g : PH) (r : Int32 × PH) (hS : True) (kk0 : ∀ (y0 : PH), k0 y0 = some r → Flo y0 g → Flo r.2 g) (kk1 : ∀ (y0 : PH), k1 y0 = some r → Flo y0 g → Flo r.2 g) : ∀ (n : Nat) (v1 : Int32) (v2 : Int32) (hv : PH), mm_readAny_L9 k0 k1 n v1 v2 hv = some r → Flo hv g → Flo r.2 g := by
  intro n
  induction n with
  | zero => intro v1 v2 hv hm; cases hm
  | succ n ih =>
    intro v1 v2 hv hm f
    unfold mm_readAny_L9 at hm
    rcases ite_or hm with ⟨hc, hm⟩ | ⟨hc, hm⟩
    · obtain ⟨r2, -, hm⟩ := bd_s hm
      rcases ite_or hm with ⟨hc, hm⟩ | ⟨hc, hm⟩
      · obtain ⟨r3, -, hm⟩ := bd_s hm
        rcases ite_or hm with ⟨hc, hm⟩ | ⟨hc, hm⟩
        · obtain ⟨h4, he, hm⟩ := bd_s hm
          replace f := flo_tr f (flom_settles _ _ hS he)
          obtain ⟨h5, he, hm⟩ := bd_s hm
          replace f := flo_tr f (flom_settles _ _ hS he)
          rcases ite_or hm with ⟨hc, hm⟩ | ⟨hc, hm⟩
          · cases hm
            exact f
          · obtain ⟨r6, -, hm⟩ := bd_s hm
            rcases ite_or hm with ⟨hc, hm⟩ | ⟨hc, hm⟩
            · exact kk1 _ hm f
            · obtain ⟨h7, e1, hm⟩ := lt_some hm
              replace f : Flo h7 g := by rw [e1]; exact up_flo4 f (by decide)
              obtain ⟨x8, -, hm⟩ := lt_some hm
              obtain ⟨h9, e1, hm⟩ := lt_some hm
              replace f : Flo h9 g := by rw [e1]; exact up_flo4 f (by decide)
              obtain ⟨h10, he, hm⟩ := bd_s hm
              replace f := flo_tr f (flom_settles _ _ hS he)
              obtain ⟨h11, he, hm⟩ := bd_s hm
              replace f := flo_fr f (fkm_reads _ he) (by unfold FKdm_reads; decide)
              exact ih _ _ _ hm f
        · obtain ⟨h12, he, hm⟩ := bd_s hm
          replace f := flo_tr f (flom_settles _ _ hS he)
          obtain ⟨h13, he, hm⟩ := bd_s hm
          replace f := flo_tr f (flom_settles _ _ hS he)
          obtain ⟨h14, he, hm⟩ := bd_s hm
          replace f := flo_fr f (fkm_waits _ _ he) (by unfold FKdm_waits; decide)
          obtain ⟨h15, he, hm⟩ := bd_s hm
          replace f := flo_fr f (fkm_reads _ he) (by unfold FKdm_reads; decide)
          exact ih _ _ _ hm f
      · obtain ⟨h16, he, hm⟩ := bd_s hm
        replace f := flo_tr f (flom_settles _ _ hS he)
        obtain ⟨h17, he, hm⟩ := bd_s hm
        replace f := flo_fr f (fkm_waits _ _ he) (by unfold FKdm_waits; decide)
        obtain ⟨h18, he, hm⟩ := bd_s hm
        replace f := flo_fr f (fkm_reads _ he) (by unfold FKdm_reads; decide)
        exact ih _ _ _ hm f
    · obtain ⟨r19, -, hm⟩ := bd_s hm
      refine v_j0 (Flo r.2 g) hm (fun hm => ?_) (fun j20 kj20 hm => ?_)
      · rcases ite_or hm with ⟨hc, hm⟩ | ⟨hc, hm⟩
        · exact kk0 _ hm f
        · obtain ⟨h21, e1, hm⟩ := lt_some hm
          replace f : Flo h21 g := by rw [e1]; exact up_flo4 f (by decide)
          refine v_j1 (fun (x23 : Int32) => Flo r.2 g) hm (fun x23 hm => ?_) (fun j22 kj22 hm => ?_)
          · refine v_j1 (fun (x25 : Int32) => Flo r.2 g) hm (fun x25 hm => ?_) (fun j24 kj24 hm => ?_)
            · obtain ⟨h26, he, hm⟩ := bd_s hm
              replace f := flo_fr f (fkm_waits _ _ he) (by unfold FKdm_waits; decide)
              obtain ⟨h27, he, hm⟩ := bd_s hm
              replace f := flo_fr f (fkm_reads _ he) (by unfold FKdm_reads; decide)
              exact ih _ _ _ hm f
            · rcases ite_or hm with ⟨hc, hm⟩ | ⟨hc, hm⟩
              · exact kj24 _ hm
              · exact kj24 _ hm
          · rcases ite_or hm with ⟨hc, hm⟩ | ⟨hc, hm⟩
            · obtain ⟨x28, -, hm⟩ := lt_some hm
              exact kj22 _ hm
            · exact kj22 _ hm
      · rcases ite_or hm with ⟨hc, hm⟩ | ⟨hc, hm⟩
        · obtain ⟨r29, -, hm⟩ := bd_s hm
          rcases ite_or hm with ⟨hc, hm⟩ | ⟨hc, hm⟩
          · obtain ⟨r30, h31, he, hm⟩ := bd2_s hm
            replace f := flo_tr f (flom_readCompared _ hS he)
            rcases ite_or hm with ⟨hc, hm⟩ | ⟨hc, hm⟩
            · cases hm
              exact f
            · obtain ⟨h32, he, hm⟩ := bd_s hm
              replace f := flo_tr f (flom_settles _ _ hS he)
              exact ih _ _ _ hm f
          · exact kj20 hm
        · exact kj20 hm
theorem flom_readAny (h0 : PH) {r : Int32 × PH} (hS : True) (hm : mm_readAny h0 = some r) : Flo r.2 h0 := by
  generalize hge : h0 = g at ⊢
  have f : Flo h0 g := by rw [hge]; exact flo_r _
  unfold mm_readAny at hm
  obtain ⟨h1, e1, hm⟩ := lt_some hm
  replace f : Flo h1 g := by rw [e1]; exact up_flo4 f (by decide)
  refine wlo_m_readAny_L9 _ _ g _ hS (fun h33 hm f => ?_) (fun h36 hm f => ?_) _ _ _ _ hm f
  · obtain ⟨r34, h35, he, hm⟩ := bd2_s hm
    replace f := flo_fr f (fkm_errs _ _ he) (by unfold FKdm_errs; decide)
    cases hm
    exact f
  · obtain ⟨r37, h38, he, hm⟩ := bd2_s hm
    replace f := flo_fr f (fkm_errs _ _ he) (by unfold FKdm_errs; decide)
    cases hm
    exact f
theorem flom_readSkyLine (p1 : Int32) (h0 : PH) {r : Int32 × PH} (hS : 48 ≤ p1.toInt ∧ p1.toInt ≤ 96) (hm : mm_readSkyLine p1 h0 = some r) : Flo r.2 h0 := by
  generalize hge : h0 = g at ⊢
  have f : Flo h0 g := by rw [hge]; exact flo_r _
  unfold mm_readSkyLine at hm
  obtain ⟨r1, h2, he, hm⟩ := bd2_s hm
  replace f := flo_fr f (fkm_readTold _ _ _ _ he) (by unfold FKdm_readTold; decide)
  obtain ⟨hck, hm⟩ := ck_s hm
  obtain ⟨h3, e1, hm⟩ := lt_some hm
  replace f : Flo h3 g := by rw [e1]; exact up_lo f (by decide) (by first | exact lo_a (t := 48) hS.1 hck 121 | exact lo_b (t := 48) (c := 96) hS.1 hS.2 hck (by decide) (by decide) 121)
  obtain ⟨hck, hm⟩ := ck_s hm
  rcases ite_or hm with ⟨hc, hm⟩ | ⟨hc, hm⟩
  · cases hm
    exact f
  · obtain ⟨r4, -, hm⟩ := bd_s hm
    refine v_j1 (fun (x6 : Int32) => Flo r.2 g) hm (fun x6 hm => ?_) (fun j5 kj5 hm => ?_)
    · rcases ite_or hm with ⟨hc, hm⟩ | ⟨hc, hm⟩
      · obtain ⟨r7, h8, he, hm⟩ := bd2_s hm
        replace f := flo_fr f (fkm_errs _ _ he) (by unfold FKdm_errs; decide)
        cases hm
        exact f
      · obtain ⟨h9, he, hm⟩ := bd_s hm
        replace f := flo_fr f (fkm_reads _ he) (by unfold FKdm_reads; decide)
        obtain ⟨hck, hm⟩ := ck_s hm
        obtain ⟨h10, e1, hm⟩ := lt_some hm
        replace f : Flo h10 g := by rw [e1]; exact up_lo f (by decide) (by first | exact lo_a (t := 48) hS.1 hck 121 | exact lo_b (t := 48) (c := 96) hS.1 hS.2 hck (by decide) (by decide) 121)
        refine v_j2 (fun (x12 : Int32) (h13 : PH) => Flo h13 g → Flo r.2 g) hm (fun x12 h13 hm f => ?_) (fun j11 kj11 hm => ?_)
        · obtain ⟨hck, hm⟩ := ck_s hm
          obtain ⟨h14, e1, hm⟩ := lt_some hm
          replace f : Flo h14 g := by rw [e1]; exact up_lo f (by decide) (by first | exact lo_a (t := 48) hS.1 hck 121 | exact lo_b (t := 48) (c := 96) hS.1 hS.2 hck (by decide) (by decide) 121)
          obtain ⟨hck, hm⟩ := ck_s hm
          rcases ite_or hm with ⟨hc, hm⟩ | ⟨hc, hm⟩
          · cases hm
            exact f
          · obtain ⟨r15, h16, he, hm⟩ := bd2_s hm
            replace f := flo_fr f (fkm_readMark _ _ he) (by unfold FKdm_readMark; decide)
            cases hm
            exact f
        · rcases ite_or hm with ⟨hc, hm⟩ | ⟨hc, hm⟩
          · obtain ⟨r17, h18, he, hm⟩ := bd2_s hm
            replace f := flo_fr f (fkm_readNumber _ _ _ he) (by unfold FKdm_readNumber; decide)
            exact kj11 _ _ hm f
          · exact kj11 _ _ hm f
    · rcases ite_or hm with ⟨hc, hm⟩ | ⟨hc, hm⟩
      · obtain ⟨r19, -, hm⟩ := bd_s hm
        rcases ite_or hm with ⟨hc, hm⟩ | ⟨hc, hm⟩
        · obtain ⟨r20, -, hm⟩ := bd_s hm
          rcases ite_or hm with ⟨hc, hm⟩ | ⟨hc, hm⟩
          · exact kj5 _ hm
          · exact kj5 _ hm
        · exact kj5 _ hm
      · exact kj5 _ hm
theorem flom_readDeed (p1 : Int32) (h0 : PH) {r : Int32 × PH} (hS : 80 ≤ p1.toInt ∧ p1.toInt ≤ 160) (hm : mm_readDeed p1 h0 = some r) : Flo r.2 h0 := by
  generalize hge : h0 = g at ⊢
  have f : Flo h0 g := by rw [hge]; exact flo_r _
  unfold mm_readDeed at hm
  obtain ⟨r1, h2, he, hm⟩ := bd2_s hm
  replace f := flo_fr f (fkm_readTold _ _ _ _ he) (by unfold FKdm_readTold; decide)
  obtain ⟨hck, hm⟩ := ck_s hm
  obtain ⟨h3, e1, hm⟩ := lt_some hm
  replace f : Flo h3 g := by rw [e1]; exact up_lo f (by decide) (by first | exact lo_a (t := 80) hS.1 hck 122 | exact lo_b (t := 80) (c := 160) hS.1 hS.2 hck (by decide) (by decide) 122)
  obtain ⟨hck, hm⟩ := ck_s hm
  rcases ite_or hm with ⟨hc, hm⟩ | ⟨hc, hm⟩
  · cases hm
    exact f
  · refine v_j0 (Flo r.2 g) hm (fun hm => ?_) (fun j4 kj4 hm => ?_)
    · obtain ⟨r5, h6, he, hm⟩ := bd2_s hm
      replace f := flo_fr f (fkm_errs _ _ he) (by unfold FKdm_errs; decide)
      cases hm
      exact f
    · rcases ite_or hm with ⟨hc, hm⟩ | ⟨hc, hm⟩
      · obtain ⟨r7, -, hm⟩ := bd_s hm
        rcases ite_or hm with ⟨hc, hm⟩ | ⟨hc, hm⟩
        · exact kj4 hm
        · obtain ⟨x8, -, hm⟩ := lt_some hm
          obtain ⟨h9, he, hm⟩ := bd_s hm
          replace f := flo_fr f (fkm_reads _ he) (by unfold FKdm_reads; decide)
          obtain ⟨hck, hm⟩ := ck_s hm
          obtain ⟨h10, e1, hm⟩ := lt_some hm
          replace f : Flo h10 g := by rw [e1]; exact up_lo f (by decide) (by first | exact lo_a (t := 80) hS.1 hck 122 | exact lo_b (t := 80) (c := 160) hS.1 hS.2 hck (by decide) (by decide) 122)
          obtain ⟨r11, h12, he, hm⟩ := bd2_s hm
          replace f := flo_fr f (fkm_readNumber _ _ _ he) (by unfold FKdm_readNumber; decide)
          obtain ⟨hck, hm⟩ := ck_s hm
          obtain ⟨h13, e1, hm⟩ := lt_some hm
          replace f : Flo h13 g := by rw [e1]; exact up_lo f (by decide) (by first | exact lo_a (t := 80) hS.1 hck 122 | exact lo_b (t := 80) (c := 160) hS.1 hS.2 hck (by decide) (by decide) 122)
          obtain ⟨hck, hm⟩ := ck_s hm
          rcases ite_or hm with ⟨hc, hm⟩ | ⟨hc, hm⟩
          · cases hm
            exact f
          · refine v_j2 (fun (x15 : Int32) (h16 : PH) => Flo h16 g → Flo r.2 g) hm (fun x15 h16 hm f => ?_) (fun j14 kj14 hm => ?_)
            · obtain ⟨hck, hm⟩ := ck_s hm
              obtain ⟨h17, e1, hm⟩ := lt_some hm
              replace f : Flo h17 g := by rw [e1]; exact up_lo f (by decide) (by first | exact lo_a (t := 80) hS.1 hck 122 | exact lo_b (t := 80) (c := 160) hS.1 hS.2 hck (by decide) (by decide) 122)
              obtain ⟨hck, hm⟩ := ck_s hm
              rcases ite_or hm with ⟨hc, hm⟩ | ⟨hc, hm⟩
              · cases hm
                exact f
              · refine v_j2 (fun (x19 : Int32) (h20 : PH) => Flo h20 g → Flo r.2 g) hm (fun x19 h20 hm f => ?_) (fun j18 kj18 hm => ?_)
                · obtain ⟨hck, hm⟩ := ck_s hm
                  obtain ⟨h21, e1, hm⟩ := lt_some hm
                  replace f : Flo h21 g := by rw [e1]; exact up_lo f (by decide) (by first | exact lo_a (t := 80) hS.1 hck 122 | exact lo_b (t := 80) (c := 160) hS.1 hS.2 hck (by decide) (by decide) 122)
                  obtain ⟨hck, hm⟩ := ck_s hm
                  rcases ite_or hm with ⟨hc, hm⟩ | ⟨hc, hm⟩
                  · cases hm
                    exact f
                  · obtain ⟨r22, h23, he, hm⟩ := bd2_s hm
                    replace f := flo_fr f (fkm_readMark _ _ he) (by unfold FKdm_readMark; decide)
                    cases hm
                    exact f
                · refine v_j0 (Flo r.2 g) hm (fun hm => ?_) (fun j24 kj24 hm => ?_)
                  · obtain ⟨r25, h26, he, hm⟩ := bd2_s hm
                    replace f := flo_fr f (fkm_readNumber _ _ _ he) (by unfold FKdm_readNumber; decide)
                    exact kj18 _ _ hm f
                  · rcases ite_or hm with ⟨hc, hm⟩ | ⟨hc, hm⟩
                    · exact kj24 hm
                    · rcases ite_or hm with ⟨hc, hm⟩ | ⟨hc, hm⟩
                      · exact kj24 hm
                      · exact kj18 _ _ hm f
            · rcases ite_or hm with ⟨hc, hm⟩ | ⟨hc, hm⟩
              · obtain ⟨r27, h28, he, hm⟩ := bd2_s hm
                replace f := flo_fr f (fkm_readNumber _ _ _ he) (by unfold FKdm_readNumber; decide)
                exact kj14 _ _ hm f
              · exact kj14 _ _ hm f
      · exact kj4 hm
theorem er_lo (p : Int32) {g : PH} {r : Int32 × PH} (e : (bd2 (mm_errs p g) fun r h => some (r, h)) = some r) : Flo r.2 g := by
  obtain ⟨a, b, he, e⟩ := bd2_s e
  cases e
  exact flo_fr (flo_r g) (fkm_errs _ _ he) (by unfold FKdm_errs; decide)
theorem ke_lo (x : Int32) {g : PH} {r : Int32 × PH} (e : (if (g 104 14) = 0 then some (x, g) else bd2 (mm_errs 1 g) fun r h => some (r, h)) = some r) : Flo r.2 g := by
  rcases ite_or e with ⟨_, e⟩ | ⟨_, e⟩
  · cases e
    exact flo_r g
  · exact er_lo 1 e
theorem v_1 {v : Int32} (h1 : 0 ≤ v.toInt) (h2 : v.toInt ≤ 16) (h3 : ¬ v = 16) : 0 ≤ (v + 1).toInt ∧ (v + 1).toInt ≤ 16 ∧ v.toInt < 16 := by
  have ad : (v + 1).toInt = v.toInt + 1 := i_add (a := 0) (b := 1000) (c := 1) (d := 1) ⟨h1, by omega⟩ ⟨by decide, by decide⟩ (by decide)
  have : v.toInt ≠ 16 := fun z => h3 (Int32.toInt_inj.mp (by rw [z]; rfl))
  omega
theorem lo_law (k0 k1 : PH → Option (Int32 × PH)) (k2 : Int32 → PH → Option (Int32 × PH)) (q0 : ∀ g r, k0 g = some r → Flo r.2 g) (q1 : ∀ g r, k1 g = some r → Flo r.2 g) (q2 : ∀ x g r, k2 x g = some r → Flo r.2 g) : ∀ (n : Nat) (v1 : Int32) (hv : PH) (r : Int32 × PH), 0 ≤ v1.toInt → v1.toInt ≤ 16 → mm_readLaw_L2 k0 k1 k2 n v1 hv = some r → Flo r.2 hv := by
  intro n
  induction n with
  | zero => intro v1 hv r _ _ hm; cases hm
  | succ n ih =>
    intro v1 hv r w1 w2 hm
    unfold mm_readLaw_L2 at hm
    obtain ⟨r1, -, hm⟩ := bd_s hm
    rcases ite_or hm with ⟨hc, hm⟩ | ⟨hc, hm⟩
    · exact q2 _ _ _ hm
    · rcases ite_or hm with ⟨c16, hm⟩ | ⟨c16, hm⟩
      · exact q0 _ _ hm
      · obtain ⟨w3, w4, w5⟩ := v_1 w1 w2 c16
        obtain ⟨x2, ex, hm⟩ := lt_some hm
        subst ex
        obtain ⟨hck, hm⟩ := ck_s hm
        obtain ⟨a1, a2⟩ := ixs hck (by decide) (by decide) w1
        rw [show (32 : Int32).toInt = 32 from rfl] at a1 a2
        have lo : ∀ b, 114 ≤ b → b ≤ 117 → ¬ LOW b (ix (32 + v1)) := fun b b1 b2 l => by
          unfold LOW at l
          omega
        obtain ⟨h3, e3, hm⟩ := lt_some hm
        have f : Flo h3 hv := by rw [e3]; exact up_lo (flo_r hv) (by decide) (lo 114 (by decide) (by decide))
        obtain ⟨h4, he, hm⟩ := bd_s hm
        replace f := flo_fr f (fkm_reads _ he) (by unfold FKdm_reads; decide)
        obtain ⟨-, hm⟩ := ck_s hm
        obtain ⟨h5, e5, hm⟩ := lt_some hm
        replace f : Flo h5 hv := by rw [e5]; exact up_lo f (by decide) (lo 115 (by decide) (by decide))
        obtain ⟨r6, h7, he, hm⟩ := bd2_s hm
        replace f := flo_tr f (flom_readSum _ trivial he)
        rcases ite_or hm with ⟨hc, hm⟩ | ⟨hc, hm⟩
        · cases hm
          exact f
        · obtain ⟨-, hm⟩ := ck_s hm
          obtain ⟨h8, e8, hm⟩ := lt_some hm
          replace f : Flo h8 hv := by rw [e8]; exact up_lo f (by decide) (lo 116 (by decide) (by decide))
          obtain ⟨r9, -, hm⟩ := bd_s hm
          refine v_j1 (fun (h11 : PH) => Flo h11 hv → Flo r.2 hv) hm (fun h11 hm f => ?_) (fun j10 kj10 hm => ?_)
          · obtain ⟨-, hm⟩ := ck_s hm
            obtain ⟨h12, e12, hm⟩ := lt_some hm
            replace f : Flo h12 hv := by rw [e12]; exact up_lo f (by decide) (lo 117 (by decide) (by decide))
            obtain ⟨r13, -, hm⟩ := bd_s hm
            rcases ite_or hm with ⟨hc, hm⟩ | ⟨hc, hm⟩
            · exact flo_tr f (q1 _ _ hm)
            · obtain ⟨h14, he, hm⟩ := bd_s hm
              replace f := flo_fr f (fkm_reads _ he) (by unfold FKdm_reads; decide)
              obtain ⟨x15, ex, hm⟩ := lt_some hm
              subst ex
              exact flo_tr f (ih _ _ _ w3 w4 hm)
          · rcases ite_or hm with ⟨hc, hm⟩ | ⟨hc, hm⟩
            · exact kj10 _ hm f
            · obtain ⟨h16, he, hm⟩ := bd_s hm
              replace f := flo_fr f (fkm_reads _ he) (by unfold FKdm_reads; decide)
              obtain ⟨r17, h18, he, hm⟩ := bd2_s hm
              replace f := flo_tr f (flom_readAny _ trivial he)
              rcases ite_or hm with ⟨hc, hm⟩ | ⟨hc, hm⟩
              · cases hm
                exact f
              · exact kj10 _ hm f
theorem m_sc {v : Int32} {a b : Nat} (h1 : 0 ≤ v.toInt) (h2 : v.toInt < 16) (ha : a < 100) (hb : b < 10) : (nI a + nI b * v).toInt = a + b * v.toInt := by
  obtain ⟨k, k1, k2, ek⟩ := nat_of (a := 0) (b := 15) (x := v) ⟨h1, by omega⟩ (by decide)
  have hbk : b * k ≤ 9 * 15 := Nat.mul_le_mul (by omega) (by omega)
  subst ek
  rw [nI_mul, nI_add, nI_toInt (by omega), nI_toInt k2, Int.natCast_add, Int.natCast_mul]
theorem lo_sky (k0 : PH → Option (Int32 × PH)) (k1 : Int32 → PH → Option (Int32 × PH)) (q0 : ∀ g r, k0 g = some r → Flo r.2 g) (q1 : ∀ x g r, k1 x g = some r → Flo r.2 g) : ∀ (n : Nat) (v1 : Int32) (hv : PH) (r : Int32 × PH), 0 ≤ v1.toInt → v1.toInt ≤ 16 → mm_readSky_L2 k0 k1 n v1 hv = some r → Flo r.2 hv := by
  intro n
  induction n with
  | zero => intro v1 hv r _ _ hm; cases hm
  | succ n ih =>
    intro v1 hv r w1 w2 hm
    unfold mm_readSky_L2 at hm
    obtain ⟨r1, -, hm⟩ := bd_s hm
    rcases ite_or hm with ⟨hc, hm⟩ | ⟨hc, hm⟩
    · exact q1 _ _ _ hm
    · rcases ite_or hm with ⟨c16, hm⟩ | ⟨c16, hm⟩
      · exact q0 _ _ hm
      · obtain ⟨w3, w4, w5⟩ := v_1 w1 w2 c16
        have ms : (48 + 3 * v1 : Int32).toInt = 48 + 3 * v1.toInt := m_sc (a := 48) (b := 3) w1 w5 (by decide) (by decide)
        obtain ⟨r2, h3, he, hm⟩ := bd2_s hm
        have f := flom_readSkyLine _ hv (by rw [ms]; omega) he
        rcases ite_or hm with ⟨hc, hm⟩ | ⟨hc, hm⟩
        · cases hm
          exact f
        · obtain ⟨x4, ex, hm⟩ := lt_some hm
          subst ex
          exact flo_tr f (ih _ _ _ w3 w4 hm)
theorem lo_off (k0 : PH → Option (Int32 × PH)) (k1 : Int32 → PH → Option (Int32 × PH)) (q0 : ∀ g r, k0 g = some r → Flo r.2 g) (q1 : ∀ x g r, k1 x g = some r → Flo r.2 g) : ∀ (n : Nat) (v1 : Int32) (hv : PH) (r : Int32 × PH), 0 ≤ v1.toInt → v1.toInt ≤ 16 → mm_readOffice_L2 k0 k1 n v1 hv = some r → Flo r.2 hv := by
  intro n
  induction n with
  | zero => intro v1 hv r _ _ hm; cases hm
  | succ n ih =>
    intro v1 hv r w1 w2 hm
    unfold mm_readOffice_L2 at hm
    obtain ⟨r1, -, hm⟩ := bd_s hm
    rcases ite_or hm with ⟨hc, hm⟩ | ⟨hc, hm⟩
    · exact q1 _ _ _ hm
    · rcases ite_or hm with ⟨c16, hm⟩ | ⟨c16, hm⟩
      · exact q0 _ _ hm
      · obtain ⟨w3, w4, w5⟩ := v_1 w1 w2 c16
        have ms : (80 + 5 * v1 : Int32).toInt = 80 + 5 * v1.toInt := m_sc (a := 80) (b := 5) w1 w5 (by decide) (by decide)
        obtain ⟨r2, h3, he, hm⟩ := bd2_s hm
        have f := flom_readDeed _ hv (by rw [ms]; omega) he
        rcases ite_or hm with ⟨hc, hm⟩ | ⟨hc, hm⟩
        · cases hm
          exact f
        · obtain ⟨x4, ex, hm⟩ := lt_some hm
          subst ex
          exact flo_tr f (ih _ _ _ w3 w4 hm)
theorem rn_ge {p1 p2 : Int32} {h : PH} {r : Int32} {g : PH} (e : mm_readNumber p1 p2 h = some (r, g)) : r = -1 ∨ p1 ≤ r := by
  unfold mm_readNumber at e
  rcases ite_or e with ⟨_, e⟩ | ⟨_, e⟩
  · by_cases f : p1 ≤ h 104 15 ∧ h 104 15 ≤ p2
    · rw [isIn_y f, bd_e, if_neg no10] at e
      obtain ⟨x4, ex, e⟩ := lt_some e
      obtain ⟨h5, -, e⟩ := bd_s e
      cases e
      rw [ex]
      exact Or.inr f.1
    · rw [isIn_n f, bd_e, if_pos rfl] at e
      cases e
      exact Or.inl rfl
  · cases e
    exact Or.inl rfl
theorem rt_ge {p0 p1 p2 : Int32} {h : PH} {r : Int32} {g : PH} (e : mm_readTold p0 p1 p2 h = some (r, g)) : r = -1 ∨ p1 ≤ r := by
  unfold mm_readTold at e
  obtain ⟨r1, -, e⟩ := bd_s e
  rcases ite_or e with ⟨_, e⟩ | ⟨_, e⟩
  · cases e
    exact Or.inl rfl
  · obtain ⟨h4, -, e⟩ := bd_s e
    obtain ⟨r5, h6, he, e⟩ := bd2_s e
    cases e
    exact rn_ge he
theorem lo_next {h : PH} {r : Int32 × PH} (hm : mm_readNext h = some r) : Flo r.2 h := by
  unfold mm_readNext at hm
  have lo : ∀ v : Int32, (v = -1 ∨ (0 : Int32) ≤ v) → ¬ v = -1 → vp_in (12 + v) 24 → ¬ LOW 123 (ix (12 + v)) := fun v hv n k l => by
    have v0 : 0 ≤ v.toInt := by
      rcases hv with z | z
      · exact absurd z n
      · rw [Int32.le_iff_toInt_le] at z; exact z
    obtain ⟨a1, _⟩ := ixs k (by decide) (by decide) v0
    rw [show (12 : Int32).toInt = 12 from rfl] at a1
    unfold LOW at l
    omega
  obtain ⟨r1, h2, he, hm⟩ := bd2_s hm
  have g1 := rt_ge he
  have f := flo_fr (flo_r h) (fkm_readTold _ _ _ _ he) (by unfold FKdm_readTold; decide)
  rcases ite_or hm with ⟨n1, hm⟩ | ⟨n1, hm⟩
  · cases hm
    exact f
  · obtain ⟨r3, -, hm⟩ := bd_s hm
    rcases ite_or hm with ⟨hc, hm⟩ | ⟨hc, hm⟩
    · exact flo_tr f (er_lo 1 hm)
    · obtain ⟨h6, he, hm⟩ := bd_s hm
      replace f := flo_fr f (fkm_reads _ he) (by unfold FKdm_reads; decide)
      rw [jn0_e] at hm
      have fin : (bd2 (mm_readNumber 0 ((h6 104 6) - 1) h6) fun r8 h9 => if r8 = (-1) then some ((-1 : Int32), h9) else ck (12 + r1) 24 <| ck (12 + r1) 24 <| lt (up h9 123 (ix (12 + r1)) ((h9 123 (ix (12 + r1))) ||| (1 <<< (r8 &&& 31)))) fun h10 => ck (12 + r8) 24 <| ck (12 + r8) 24 <| lt (up h10 123 (ix (12 + r8)) ((h10 123 (ix (12 + r8))) ||| (1 <<< (r1 &&& 31)))) fun h11 => bd2 (mm_readMark 59 h11) fun r12 h13 => some (r12, h13)) = some r → Flo r.2 h := fun hm => by
        obtain ⟨r8, h9, he, hm⟩ := bd2_s hm
        have g8 := rn_ge he
        have f := flo_fr f (fkm_readNumber _ _ _ he) (by unfold FKdm_readNumber; decide)
        rcases ite_or hm with ⟨n8, hm⟩ | ⟨n8, hm⟩
        · cases hm
          exact f
        · obtain ⟨-, hm⟩ := ck_s hm
          obtain ⟨k1, hm⟩ := ck_s hm
          obtain ⟨h10, e10, hm⟩ := lt_some hm
          replace f : Flo h10 h := by rw [e10]; exact up_lo f (by decide) (lo r1 g1 n1 k1)
          obtain ⟨-, hm⟩ := ck_s hm
          obtain ⟨k2, hm⟩ := ck_s hm
          obtain ⟨h11, e11, hm⟩ := lt_some hm
          replace f : Flo h11 h := by rw [e11]; exact up_lo f (by decide) (lo r8 g8 n8 k2)
          obtain ⟨r12, h13, he, hm⟩ := bd2_s hm
          cases hm
          exact flo_fr f (fkm_readMark _ _ he) (by unfold FKdm_readMark; decide)
      rcases ite_or hm with ⟨hc, hm⟩ | ⟨hc, hm⟩
      · rcases ite_or hm with ⟨hc, hm⟩ | ⟨hc, hm⟩
        · exact flo_tr f (er_lo 2 hm)
        · exact fin hm
      · exact fin hm
theorem lo_nx (k0 : PH → Option (Int32 × PH)) (k1 : Int32 → PH → Option (Int32 × PH)) (q0 : ∀ g r, k0 g = some r → Flo r.2 g) (q1 : ∀ x g r, k1 x g = some r → Flo r.2 g) : ∀ (n : Nat) (v1 : Int32) (hv : PH) (r : Int32 × PH), mm_readNexts_L26 k0 k1 n v1 hv = some r → Flo r.2 hv := by
  intro n
  induction n with
  | zero => intro v1 hv r hm; cases hm
  | succ n ih =>
    intro v1 hv r hm
    unfold mm_readNexts_L26 at hm
    obtain ⟨r3, -, hm⟩ := bd_s hm
    rcases ite_or hm with ⟨hc, hm⟩ | ⟨hc, hm⟩
    · exact q1 _ _ _ hm
    · rcases ite_or hm with ⟨hc, hm⟩ | ⟨hc, hm⟩
      · exact q0 _ _ hm
      · obtain ⟨r4, h5, he, hm⟩ := bd2_s hm
        have f := lo_next he
        rcases ite_or hm with ⟨hc, hm⟩ | ⟨hc, hm⟩
        · cases hm
          exact f
        · obtain ⟨x6, -, hm⟩ := lt_some hm
          exact flo_tr f (ih _ _ _ hm)
theorem lo_z (k0 : PH → Option (Int32 × PH)) (q0 : ∀ g r, k0 g = some r → Flo r.2 g) : ∀ (n : Nat) (v1 : Int32) (hv : PH) (r : Int32 × PH), 0 ≤ v1.toInt → v1.toInt ≤ 12 → mm_readNexts_L2 k0 n v1 hv = some r → Flo r.2 hv := by
  intro n
  induction n with
  | zero => intro v1 hv r _ _ hm; cases hm
  | succ n ih =>
    intro v1 hv r w1 w2 hm
    unfold mm_readNexts_L2 at hm
    rcases ite_or hm with ⟨hc, hm⟩ | ⟨hc, hm⟩
    · exact q0 _ _ hm
    · have w3 : v1.toInt < 12 := by
        rw [Int32.le_iff_toInt_le, show (12 : Int32).toInt = 12 from rfl] at hc
        omega
      have ad : (v1 + 1).toInt = v1.toInt + 1 := i_add (a := 0) (b := 1000) (c := 1) (d := 1) ⟨w1, by omega⟩ ⟨by decide, by decide⟩ (by decide)
      obtain ⟨k, hm⟩ := ck_s hm
      obtain ⟨a1, _⟩ := ixs k (by decide) (by decide) w1
      rw [show (12 : Int32).toInt = 12 from rfl] at a1
      obtain ⟨h1, e1, hm⟩ := lt_some hm
      have f : Flo h1 hv := by rw [e1]; exact up_lo (flo_r hv) (by decide) (fun l => by unfold LOW at l; omega)
      exact flo_tr f (ih _ _ _ (by omega) (by omega) hm)
/-- the reader leaves what is kept -/
theorem lo_text (p : Int32) {h : PH} {r : Int32 × PH} (hm : mm_readsText p h = some r) : Flo r.2 h := by
  unfold mm_readsText at hm
  rw [lt_e] at hm
  have f : Flo (up h 104 24 0) h := up_flo4 (flo_r h) (by decide)
  obtain ⟨h2, he, hm⟩ := bd_s hm
  replace f := flo_fr f (fkm_reads _ he) (by unfold FKdm_reads; decide)
  have z0 : (0 : Int32).toInt = 0 := rfl
  rcases ite_or hm with ⟨hc, hm⟩ | ⟨hc, hm⟩
  · obtain ⟨r3, h4, he, hm⟩ := bd2_s hm
    cases hm
    unfold mm_readSky at he
    exact flo_tr f (lo_sky _ _ (fun g r e => er_lo 3 e) (fun x g r e => ke_lo x e) _ _ _ _ (by decide) (by decide) he)
  · rcases ite_or hm with ⟨hc, hm⟩ | ⟨hc, hm⟩
    · obtain ⟨r3, h4, he, hm⟩ := bd2_s hm
      cases hm
      unfold mm_readOffice at he
      exact flo_tr f (lo_off _ _ (fun g r e => er_lo 3 e) (fun x g r e => ke_lo x e) _ _ _ _ (by decide) (by decide) he)
    · rcases ite_or hm with ⟨hc, hm⟩ | ⟨hc, hm⟩
      · obtain ⟨r3, h4, he, hm⟩ := bd2_s hm
        cases hm
        unfold mm_readNexts at he
        exact flo_tr f (lo_z _ (fun g r e => lo_nx _ _ (fun g r e => er_lo 3 e) (fun x g r e => ke_lo x e) _ _ _ _ e) _ _ _ _ (by decide) (by decide) he)
      · obtain ⟨r3, h4, he, hm⟩ := bd2_s hm
        cases hm
        unfold mm_readLaw at he
        exact flo_tr f (lo_law _ _ _ (fun g r e => er_lo 3 e) (fun g r e => er_lo 1 e) (fun x g r e => ke_lo x e) _ _ _ _ (by decide) (by decide) he)
