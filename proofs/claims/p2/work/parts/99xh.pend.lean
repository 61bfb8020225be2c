/-! WHAT WAITS in a condition: the model's stack -/
def FM (h g : PH) : Prop := (∀ b, b ≠ 104 → b ≠ 118 → b ≠ 119 → b ≠ 120 → g b = h b) ∧ ∀ j, j ≠ 12 → j ≠ 13 → j ≠ 14 → j ≠ 15 → j ≠ 25 → j ≠ 26 → j ≠ 28 → j ≠ 29 → j ≠ 30 → g 104 j = h 104 j
theorem fm_r (h : PH) : FM h h := ⟨fun _ _ _ _ _ => rfl, fun _ _ _ _ _ _ _ _ _ _ => rfl⟩
theorem fm_t {h g f : PH} (a : FM h g) (b : FM g f) : FM h f := ⟨fun x x1 x2 x3 x4 => by rw [b.1 x x1 x2 x3 x4, a.1 x x1 x2 x3 x4], fun j j1 j2 j3 j4 j5 j6 j7 j8 j9 => by rw [b.2 j j1 j2 j3 j4 j5 j6 j7 j8 j9, a.2 j j1 j2 j3 j4 j5 j6 j7 j8 j9]⟩
theorem fm_x {h g : PH} (a : FX h g) : FM h g := ⟨fun x x1 x2 x3 _ => a.1 x x1 x2 x3, fun j j1 j2 j3 j4 j5 _ _ j8 j9 => a.2 j j1 j2 j3 j4 j5 j8 j9⟩
theorem fm_up {h g : PH} (a : FM h g) {j : Nat} (hj : j = 26 ∨ j = 28) (v : Int32) : FM h (up g 104 j v) := ⟨fun x x1 x2 x3 x4 => by rw [up_cell x1]; exact a.1 x x1 x2 x3 x4, fun k k1 k2 k3 k4 k5 k6 k7 k8 k9 => by rw [up_oj (by omega)]; exact a.2 k k1 k2 k3 k4 k5 k6 k7 k8 k9⟩
theorem fm_120 {h g : PH} (a : FM h g) (j : Nat) (v : Int32) : FM h (up g 120 j v) := ⟨fun x x1 x2 x3 x4 => by rw [up_cell x4]; exact a.1 x x1 x2 x3 x4, fun k k1 k2 k3 k4 k5 k6 k7 k8 k9 => by rw [up_oc (by decide)]; exact a.2 k k1 k2 k3 k4 k5 k6 k7 k8 k9⟩
theorem mu_of {B : Nat → Nat} {L i : Nat} {h g : PH} (m : MU B L i h) (e1 : g 111 = h 111) (e2 : g 112 = h 112) (e : ∀ j, 11 ≤ j → j ≤ 15 → g 104 j = h 104 j) : MU B L i g := by
  obtain ⟨⟨t1, t2, t3, t4⟩, m2, m3, m4⟩ := m
  unfold MU TM
  rw [e1, e2, e 11 (by decide) (by decide), e 12 (by decide) (by decide), e 13 (by decide) (by decide), e 14 (by decide) (by decide), e 15 (by decide) (by decide)]
  exact ⟨⟨t1, t2, t3, t4⟩, m2, m3, m4⟩
theorem mc_of {C : List (Nat × Nat)} {h g : PH} (c : MC C h) (e1 : g 118 = h 118) (e2 : g 119 = h 119) (e : g 104 25 = h 104 25) : MC C g := by
  unfold MC at c ⊢
  rw [e1, e2, e]
  exact c
/-- the stack S, its top first -/
def MS (S : List Nat) (h : PH) : Prop := h 104 28 = nI S.length ∧ S.length ≤ 40 ∧ ∀ j x, S[j]? = some x → h 120 (S.length - 1 - j) = nI x
theorem ms_of {S : List Nat} {h g : PH} (m : MS S h) (e1 : g 120 = h 120) (e : g 104 28 = h 104 28) : MS S g := by
  unfold MS at m ⊢
  rw [e1, e]
  exact m
theorem ms_push {S : List Nat} {h : PH} (m : MS S h) (hl : S.length < 40) (x : Nat) : mm_waits (nI x) h = some (up (up h 120 S.length (nI x)) 104 28 (nI (S.length + 1))) ∧ MS (x :: S) (up (up h 120 S.length (nI x)) 104 28 (nI (S.length + 1))) := by
  obtain ⟨m1, m2, m3⟩ := m
  constructor
  · unfold mm_waits
    rw [m1, ck_nI hl (by decide), lt_e, show ix (nI S.length) = S.length from nI_clamp (by omega), up_oc (by decide), m1, lt_e, nI_1]
  · refine ⟨by rw [up_same, List.length_cons], by rw [List.length_cons]; omega, fun j y hj => ?_⟩
    rw [up_oc (by decide), List.length_cons]
    cases j with
    | zero =>
      have hj : some x = some y := hj
      cases hj
      rw [show S.length + 1 - 1 - 0 = S.length by omega, up_same]
    | succ j =>
      have hj : S[j]? = some y := hj
      obtain ⟨a, _⟩ := List.getElem?_eq_some_iff.mp hj
      rw [up_oj (by omega), show S.length + 1 - 1 - (j + 1) = S.length - 1 - j by omega]
      exact m3 j y hj
theorem ms_pop {S : List Nat} {h : PH} {x : Nat} (m : MS (x :: S) h) : h 104 28 - 1 = nI S.length ∧ h 120 S.length = nI x ∧ MS S (up h 104 28 (nI S.length)) := by
  obtain ⟨m1, m2, m3⟩ := m
  rw [List.length_cons] at m1 m2 m3
  refine ⟨by rw [m1, nI_pred], ?_, up_same, by omega, fun j y hj => ?_⟩
  · have := m3 0 x rfl
    rw [show S.length + 1 - 1 - 0 = S.length by omega] at this
    exact this
  · obtain ⟨a, _⟩ := List.getElem?_eq_some_iff.mp hj
    have := m3 (j + 1) y hj
    rw [up_oc (by decide), show S.length - 1 - j = S.length + 1 - 1 - (j + 1) by omega]
    exact this
/-- the top isn't x -/
def TN (S : List Nat) (x : Nat) : Prop := ∀ y S', S = y :: S' → y < 100 ∧ y ≠ x
theorem se_no {S : List Nat} {h : PH} (m : MS S h) (x : Nat) (hx : x < 100) (t : TN S x) (n : Nat) : mm_settles_L0 (nI x) (n + 1) h = some h := by
  rw [mm_settles_L0]
  cases S with
  | nil => rw [if_pos (by rw [m.1]; decide)]
  | cons y S =>
    obtain ⟨a, b⟩ := t y S rfl
    obtain ⟨p1, p2, p3⟩ := ms_pop m
    have l := m.2.1
    rw [List.length_cons] at l
    rw [if_neg (by rw [m.1, List.length_cons]; exact nI_nle (by omega) (by omega)), p1, ck_nI (show S.length < 40 by omega) (by decide), show ix (nI S.length) = S.length from nI_clamp (by omega), p2, if_neg (fun z => b ((nI_eq (by omega) (by omega)).mp z))]
/-- the model at token i with codes D, stack S, o open -/
def MZ (B : Nat → Nat) (L i : Nat) (D : List (Nat × Nat)) (S : List Nat) (o : Nat) (h : PH) : Prop := MU B L i h ∧ MC D h ∧ MS S h ∧ h 104 26 = nI o ∧ D.length + S.length ≤ i ∧ i ≤ 400
theorem se_go {B : Nat → Nat} {L i x : Nat} (hx : x < 100) {S : List Nat} (t : TN S x) : ∀ (k n : Nat) (D : List (Nat × Nat)) (o : Nat) (h : PH), k < n → (x = 9 → k ≤ o) → o < 100 → MZ B L i D (List.replicate k x ++ S) o h → ∃ g, mm_settles_L0 (nI x) n h = some g ∧ MZ B L i (D ++ List.replicate k (x, 0)) S (if x = 9 then o - k else o) g ∧ FM h g := by
  intro k
  induction k with
  | zero =>
    intro n D o h hn ho ho2 z
    cases n with
    | zero => omega
    | succ n =>
      have e : List.replicate 0 x ++ S = S := rfl
      rw [e] at z
      refine ⟨h, se_no z.2.2.1 x hx t n, ?_, fm_r h⟩
      rw [show D ++ List.replicate 0 (x, 0) = D from List.append_nil D, Nat.sub_zero, ite_self]
      exact z
  | succ k ih =>
    intro n D o h hn ho ho2 z
    cases n with
    | zero => omega
    | succ n =>
      have e : List.replicate (k + 1) x ++ S = x :: (List.replicate k x ++ S) := rfl
      rw [e] at z
      obtain ⟨z1, z2, z3, z4, z5, z6⟩ := z
      rw [List.length_cons] at z5
      generalize hT : List.replicate k x ++ S = T at z3 z5
      have l := z3.2.1
      rw [List.length_cons] at l
      obtain ⟨p1, p2, p3⟩ := ms_pop z3
      have c1 : MC D (up h 104 28 (nI T.length)) := mc_of z2 (up_cell (by decide)) (up_cell (by decide)) (up_oj (by decide))
      obtain ⟨b1, b2⟩ := mc_add c1 (by omega) x 0
      have len1 : (D ++ [(x, 0)]).length = D.length + 1 := by rw [List.length_append]; rfl
      have y1 : MU B L i (emO (up h 104 28 (nI T.length)) D.length (nI x) (nI 0)) := mu_em (mu_of z1 (up_cell (by decide)) (up_cell (by decide)) (fun j _ _ => up_oj (by omega))) _ _ _
      have y3 : MS T (emO (up h 104 28 (nI T.length)) D.length (nI x) (nI 0)) := ms_of p3 (emO_b 120 (by decide) (by decide) (by decide)) (emO_104 (by decide))
      have y4 : emO (up h 104 28 (nI T.length)) D.length (nI x) (nI 0) 104 26 = nI o := by rw [emO_104 (by decide), up_oj (by decide)]; exact z4
      have yf : FM h (emO (up h 104 28 (nI T.length)) D.length (nI x) (nI 0)) := fm_t (fm_up (fm_r h) (Or.inr rfl) _) (fm_x fx_em)
      rw [mm_settles_L0, if_neg (by rw [z3.1, List.length_cons]; exact nI_nle (by omega) (by omega)), p1, ck_nI (show T.length < 40 by omega) (by decide), show ix (nI T.length) = T.length from nI_clamp (by omega), p2, if_pos rfl, lt_e, show mm_emits (nI x) 0 (up h 104 28 (nI T.length)) = _ from b1, bd_e]
      generalize emO (up h 104 28 (nI T.length)) D.length (nI x) (nI 0) = g at b2 y1 y3 y4 yf ⊢
      have ap : D ++ [(x, 0)] ++ List.replicate k (x, 0) = D ++ List.replicate (k + 1) (x, 0) := by rw [List.append_assoc]; rfl
      by_cases c9 : x = 9
      · subst c9
        rw [if_pos (show nI 9 = (9 : Int32) from rfl), lt_e, y4, show nI o - 1 = nI (o - 1) by rw [show (1 : Int32) = nI 1 from rfl, nI_sub (by have := ho rfl; omega)]]
        have zz : MZ B L i (D ++ [(9, 0)]) (List.replicate k 9 ++ S) (o - 1) (up g 104 26 (nI (o - 1))) := by
          rw [hT]
          exact ⟨mu_of y1 (up_cell (by decide)) (up_cell (by decide)) (fun j _ _ => up_oj (by omega)), mc_of b2 (up_cell (by decide)) (up_cell (by decide)) (up_oj (by decide)), ms_of y3 (up_cell (by decide)) (up_oj (by decide)), up_same, by rw [len1]; omega, z6⟩
        obtain ⟨f, f1, f2, f3⟩ := ih n (D ++ [(9, 0)]) (o - 1) (up g 104 26 (nI (o - 1))) (by omega) (fun _ => by have := ho rfl; omega) (by omega) zz
        rw [ap, if_pos rfl, show o - 1 - k = o - (k + 1) by omega] at f2
        exact ⟨f, f1, by rw [if_pos rfl]; exact f2, fm_t (fm_up yf (Or.inl rfl) _) f3⟩
      · rw [if_neg (show ¬ nI x = (9 : Int32) from fun q => c9 ((nI_eq (b := 9) (by omega) (by decide)).mp q))]
        have zz : MZ B L i (D ++ [(x, 0)]) (List.replicate k x ++ S) o g := by
          rw [hT]
          exact ⟨y1, b2, y3, y4, by rw [len1]; omega, z6⟩
        obtain ⟨f, f1, f2, f3⟩ := ih n (D ++ [(x, 0)]) o g (by omega) (fun q => absurd q c9) ho2 zz
        rw [ap, if_neg c9] at f2
        exact ⟨f, f1, by rw [if_neg c9]; exact f2, fm_t yf f3⟩
theorem se_k {B : Nat → Nat} {L i x : Nat} (hx : x < 100) {S : List Nat} (t : TN S x) (k : Nat) (D : List (Nat × Nat)) (o : Nat) (h : PH) (hk : k < 1000) (ho : x = 9 → k ≤ o) (ho2 : o < 100) (z : MZ B L i D (List.replicate k x ++ S) o h) : ∃ g, mm_settles (nI x) h = some g ∧ MZ B L i (D ++ List.replicate k (x, 0)) S (if x = 9 then o - k else o) g ∧ FM h g :=
  se_go hx t k FU D o h (by unfold FU; omega) ho ho2 z
theorem mz_read {B : Nat → Nat} {L i : Nat} {D : List (Nat × Nat)} {S : List Nat} {o : Nat} {h : PH} (z : MZ B L i D S o h) (hi : i < 400) : ∃ g, mm_reads h = some g ∧ MZ B L (i + 1) D S o g ∧ FM h g := by
  obtain ⟨z1, z2, z3, z4, z5, z6⟩ := z
  obtain ⟨g, g1, g2, g3⟩ := mu_adv z1
  exact ⟨g, g1, ⟨g3, mc_4 z2 g2, ms_of z3 (g2.1 120 (by decide)) (g2.2 28 (by decide) (by decide) (by decide) (by decide)), by rw [g2.2 26 (by decide) (by decide) (by decide) (by decide)]; exact z4, by omega, by omega⟩, fm_x (fx_4 g2)⟩
/-- a token that waits: pushed, and the next one read -/
theorem mz_push {B : Nat → Nat} {L i : Nat} {D : List (Nat × Nat)} {S : List Nat} {o : Nat} {h : PH} (z : MZ B L i D S o h) (hl : S.length < 40) (hi : i < 400) (x : Nat) : ∃ g f, mm_waits (nI x) h = some g ∧ mm_reads g = some f ∧ MZ B L (i + 1) D (x :: S) o f ∧ FM h f := by
  obtain ⟨z1, z2, z3, z4, z5, z6⟩ := z
  obtain ⟨p1, p2⟩ := ms_push z3 hl x
  have m1 : MU B L i (up (up h 120 S.length (nI x)) 104 28 (nI (S.length + 1))) := mu_of z1 (by rw [up_cell (by decide), up_cell (by decide)]) (by rw [up_cell (by decide), up_cell (by decide)]) (fun j _ _ => by rw [up_oj (by omega), up_oc (by decide)])
  have m2 : MC D (up (up h 120 S.length (nI x)) 104 28 (nI (S.length + 1))) := mc_of z2 (by rw [up_cell (by decide), up_cell (by decide)]) (by rw [up_cell (by decide), up_cell (by decide)]) (by rw [up_oj (by decide), up_oc (by decide)])
  have m4 : up (up h 120 S.length (nI x)) 104 28 (nI (S.length + 1)) 104 26 = nI o := by rw [up_oj (by decide), up_oc (by decide)]; exact z4
  have mf : FM h (up (up h 120 S.length (nI x)) 104 28 (nI (S.length + 1))) := fm_up (fm_120 (fm_r h) _ _) (Or.inr rfl) _
  generalize up (up h 120 S.length (nI x)) 104 28 (nI (S.length + 1)) = g at p1 p2 m1 m2 m4 mf
  obtain ⟨f, g1, g2, g3⟩ := mu_adv m1
  refine ⟨g, f, p1, g1, ⟨g3, mc_4 m2 g2, ms_of p2 (g2.1 120 (by decide)) (g2.2 28 (by decide) (by decide) (by decide) (by decide)), by rw [g2.2 26 (by decide) (by decide) (by decide) (by decide)]; exact m4, ?_, by omega⟩, fm_t mf (fm_x (fx_4 g2))⟩
  rw [List.length_cons]
  omega
