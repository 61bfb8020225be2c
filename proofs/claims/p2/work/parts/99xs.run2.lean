/-! THE LAW RUNS alike: the model -/
def SKM (st : List Int32) (h : PH) : Prop := ∀ j x, st[j]? = some x → h 125 (st.length - 1 - j) = x
def FV (h g : PH) : Prop := ∀ b, b ≠ 125 → g b = h b
theorem fv_t {h g f : PH} (a : FV h g) (b : FV g f) : FV h f := fun x x1 => by rw [b x x1, a x x1]
theorem km_top {st : List Int32} {b : Int32} {h : PH} (s : SKM (b :: st) h) : h 125 st.length = b ∧ SKM st h := by
  constructor
  · have := s 0 b rfl
    rw [List.length_cons, show st.length + 1 - 1 - 0 = st.length by omega] at this
    exact this
  · intro j y hj
    have := s (j + 1) y hj
    obtain ⟨a, _⟩ := List.getElem?_eq_some_iff.mp hj
    rw [List.length_cons, show st.length + 1 - 1 - (j + 1) = st.length - 1 - j by omega] at this
    exact this
theorem km_push {st : List Int32} {h : PH} (s : SKM st h) (x : Int32) : SKM (x :: st) (up h 125 st.length x) := by
  intro j y hj
  rw [List.length_cons]
  cases j with
  | zero =>
    have hj : some x = some y := hj
    cases hj
    rw [show st.length + 1 - 1 - 0 = st.length by omega, up_same]
  | succ j =>
    have hj : st[j]? = some y := hj
    obtain ⟨a, _⟩ := List.getElem?_eq_some_iff.mp hj
    rw [up_oj (by omega), show st.length + 1 - 1 - (j + 1) = st.length - 1 - j by omega]
    exact s j y hj
theorem two_e (k : Nat) (hk : k = 2 ∨ k = 3 ∨ k = 4 ∨ k = 5 ∨ k = 6 ∨ k = 7 ∨ k = 8 ∨ k = 10 ∨ k = 11) (a b : Int32) (h : PH) (h5 : k = 5 → ¬ b = 0) : mm_twoOf (nI k) a b h = some (opm k a b) := by
  rcases hk with e | e | e | e | e | e | e | e | e <;> subst e
  · rfl
  · rfl
  · rfl
  · show dz b (some (a / b)) = some (a / b)
    rw [dz_nz (h5 rfl)]
  · show (if b ≤ a then some 0 else some 1) = some (if a < b then 1 else 0)
    by_cases c : a < b
    · rw [if_pos c, if_neg (Int32.not_le.mpr c)]
    · rw [if_neg c, if_pos (Int32.not_lt.mp c)]
  · show (if a = b then some 1 else some 0) = some (if a = b then 1 else 0)
    split <;> rfl
  · show (if a ≤ b then some 0 else some 1) = some (if b < a then 1 else 0)
    by_cases c : b < a
    · rw [if_pos c, if_neg (Int32.not_le.mpr c)]
    · rw [if_neg c, if_pos (Int32.not_lt.mp c)]
  · rfl
  · show (if a + b ≤ 0 then some 0 else some 1) = some (if 0 < a + b then 1 else 0)
    by_cases c : 0 < a + b
    · rw [if_pos c, if_neg (Int32.not_le.mpr c)]
    · rw [if_neg c, if_pos (Int32.not_lt.mp c)]
/-- one code of the model -/
theorem mst {k v p e n : Nat} {st st' : List Int32} {h : PH} (k12 : k < 12) (v1 : k = 1 → v < 12) (hp : p < e) (he : e ≤ 400) (hl : st.length < 400) (op : h 118 p = nI k) (ar : h 119 p = nI v) (s : SKM st h) (h5 : k = 5 → ∀ b r, st = b :: r → ¬ b = 0) (ev : s1M (fun q => h 124 q) (k, v) st = some st') : ∃ g, (∀ k0 : PH → Option (Int32 × PH), mm_runs_L12 0 (nI e) k0 (n + 1) (nI st.length) (nI p) h = mm_runs_L12 0 (nI e) k0 n (nI st'.length) (nI (p + 1)) g) ∧ SKM st' g ∧ FV h g := by
  have z0 : (400 : Int32) * 0 + nI e = nI e := by
    rw [show (400 : Int32) * 0 = nI 0 from rfl, nI_add, Nat.zero_add]
  have ixp : ix (nI p) = p := nI_clamp (by omega)
  have ckp : ∀ (q : Option (Int32 × PH)), ck (nI p) 1200 q = q := fun q => ck_nI (by omega) (by decide)
  have ixs : ix (nI st.length) = st.length := nI_clamp (by omega)
  have cks : ∀ (q : Option (Int32 × PH)), ck (nI st.length) 420 q = q := fun q => ck_nI (by omega) (by decide)
  by_cases k0 : k = 0
  · subst k0
    have ev : some (nI v :: st) = some st' := ev
    cases ev
    refine ⟨up h 125 st.length (nI v), fun K => ?_, km_push s _, fun b b1 => up_cell b1⟩
    rw [mm_runs_L12, z0, if_neg (nI_ge hp (by omega)), ckp, jn0_e, ixp, op, if_pos (show nI 0 = (0 : Int32) from rfl), ckp, jn1_e, if_pos (show nI 0 = (0 : Int32) from rfl), ckp, ar]
    try dsimp only
    rw [cks, lt_e, lt_e, ixs, nI_1, nI_1, List.length_cons]
  · have n0 : ¬ nI k = (0 : Int32) := fun z => k0 ((nI_eq (b := 0) (by omega) (by decide)).mp z)
    by_cases k1 : k = 1
    · subst k1
      have v12 := v1 rfl
      have ev : some (h 124 v :: st) = some st' := ev
      cases ev
      refine ⟨up h 125 st.length (h 124 v), fun K => ?_, km_push s _, fun b b1 => up_cell b1⟩
      rw [mm_runs_L12, z0, if_neg (nI_ge hp (by omega)), ckp, jn0_e, ixp, op, if_neg n0, ckp, if_pos (show nI 1 = (1 : Int32) from rfl), ckp, jn1_e, if_neg n0, ckp, ar, ck_nI v12 (by decide), show ix (nI v) = v from nI_clamp (by omega)]
      try dsimp only
      rw [cks, lt_e, lt_e, ixs, nI_1, nI_1, List.length_cons]
    · have n1 : ¬ nI k = (1 : Int32) := fun z => k1 ((nI_eq (b := 1) (by omega) (by decide)).mp z)
      unfold s1M at ev
      rw [if_neg k0, if_neg k1] at ev
      cases st with
      | nil => cases ev
      | cons b r =>
        obtain ⟨t1, t2⟩ := km_top s
        rw [List.length_cons] at hl
        have tp : nI (b :: r).length - 1 = nI r.length := by rw [List.length_cons, nI_pred]
        have ixr : ix (nI r.length) = r.length := nI_clamp (by omega)
        have ckr : ∀ (q : Option (Int32 × PH)), ck (nI r.length) 420 q = q := fun q => ck_nI (by omega) (by decide)
        by_cases k9 : k = 9
        · subst k9
          have ev : some ((1 - b) :: r) = some st' := ev
          cases ev
          refine ⟨up h 125 r.length (1 - b), fun K => ?_, km_push t2 _, fun b b1 => up_cell b1⟩
          rw [mm_runs_L12, z0, if_neg (nI_ge hp (by omega)), ckp, jn0_e, ixp, op, if_neg n0, ckp, if_neg n1, ckp, if_pos (show nI 9 = (9 : Int32) from rfl), tp, ckr, ckr, lt_e, ixr, t1, nI_1, List.length_cons, List.length_cons]
        · simp only [if_neg k9] at ev
          cases r with
          | nil => cases ev
          | cons a r =>
            have ev : some (opm k a b :: r) = some st' := ev
            cases ev
            obtain ⟨u1, u2⟩ := km_top t2
            rw [List.length_cons] at hl
            have tq : nI (a :: r).length - 1 = nI r.length := by rw [List.length_cons, nI_pred]
            have ixq : ix (nI r.length) = r.length := nI_clamp (by omega)
            have ckq : ∀ (q : Option (Int32 × PH)), ck (nI r.length) 420 q = q := fun q => ck_nI (by omega) (by decide)
            refine ⟨up h 125 r.length (opm k a b), fun K => ?_, km_push u2 _, fun b b1 => up_cell b1⟩
            rw [mm_runs_L12, z0, if_neg (nI_ge hp (by omega)), ckp, jn0_e, ixp, op, if_neg n0, ckp, if_neg n1, ckp, if_neg (show ¬ nI k = (9 : Int32) from fun z => k9 ((nI_eq (b := 9) (by omega) (by decide)).mp z)), lt_e, tp, ckp, tq, ckq, ckr, ixq, u1, ixr, t1, two_e k (by omega) a b h (fun z => h5 z b _ rfl), bd_e, ckq, lt_e, nI_1, List.length_cons, List.length_cons]
/-- the model's codes of a text -/
def CDm (C : List (Nat × Nat)) (p : Nat) (h : PH) : Prop := ∀ j k v, (xp C)[j]? = some (k, v) → h 118 (p + j) = nI k ∧ h 119 (p + j) = nI v
theorem cdm_c {k v : Nat} {C : List (Nat × Nat)} {p : Nat} {h : PH} (c : CDm ((k, v) :: C) p h) : (k = 5 ∧ (h 118 p = nI 0 ∧ h 119 p = nI v) ∧ (h 118 (p + 1) = nI 5 ∧ h 119 (p + 1) = nI 0) ∧ CDm C (p + 2) h) ∨ (k ≠ 5 ∧ (h 118 p = nI k ∧ h 119 p = nI v) ∧ CDm C (p + 1) h) := by
  unfold CDm at c
  rw [xp] at c
  by_cases k5 : k = 5
  · rw [if_pos k5] at c
    refine Or.inl ⟨k5, c 0 0 v rfl, c 1 5 0 rfl, fun j k' v' hj => ?_⟩
    rw [show p + 2 + j = p + (j + 2) by omega]
    exact c (j + 2) k' v' hj
  · rw [if_neg k5] at c
    refine Or.inr ⟨k5, c 0 k v rfl, fun j k' v' hj => ?_⟩
    rw [show p + 1 + j = p + (j + 1) by omega]
    exact c (j + 1) k' v' hj
theorem mrun {e : Nat} (he : e ≤ 400) : ∀ (C : List (Nat × Nat)) (p n : Nat) (h : PH) (st st' : List Int32), p + (xp C).length = e → (xp C).length < n → st.length ≤ p → (∀ c, c ∈ C → okC c) → CDm C p h → SKM st h → evM (fun q => h 124 q) (xp C) st = some st' → ∃ g, (∀ k0 : PH → Option (Int32 × PH), mm_runs_L12 0 (nI e) k0 n (nI st.length) (nI p) h = k0 g) ∧ SKM st' g ∧ FV h g := by
  have z0 : (400 : Int32) * 0 + nI e = nI e := by
    rw [show (400 : Int32) * 0 = nI 0 from rfl, nI_add, Nat.zero_add]
  have sl : ∀ (K : Nat → Int32) (c : Nat × Nat) (st st' : List Int32), s1M K c st = some st' → st'.length ≤ st.length + 1 := fun K c st st' q => by
    unfold s1M at q
    split at q
    · cases q; rw [List.length_cons]; omega
    · split at q
      · cases q; rw [List.length_cons]; omega
      · cases st with
        | nil => cases q
        | cons b r =>
          simp only at q
          split at q
          · cases q; rw [List.length_cons, List.length_cons]; omega
          · cases r with
            | nil => cases q
            | cons a r => cases q; simp only [List.length_cons]; omega
  intro C
  induction C with
  | nil =>
    intro p n h st st' hp hn hst ok cd s ev
    have hp : p + 0 = e := hp
    cases n with
    | zero => simp at hn
    | succ n =>
      have ev : some st = some st' := ev
      cases ev
      refine ⟨h, fun k0 => ?_, s, fun _ _ => rfl⟩
      rw [mm_runs_L12, z0, if_pos (nI_le (by omega) (by omega))]
  | cons c C ih =>
    intro p n h st st' hp hn hst ok cd s ev
    obtain ⟨k, v⟩ := c
    obtain ⟨o1, o2, o3, o4⟩ := ok (k, v) List.mem_cons_self
    have ok' : ∀ c, c ∈ C → okC c := fun c hc => ok c (List.mem_cons_of_mem _ hc)
    rw [xp] at hp hn ev
    rcases cdm_c cd with ⟨k5, q1, q2, q3⟩ | ⟨k5, q1, q3⟩
    · rw [if_pos k5] at hp hn ev
      simp only [List.length_cons] at hp hn
      rw [evM] at ev
      obtain ⟨s1, v1, ev⟩ := bd_s ev
      rw [evM] at ev
      obtain ⟨s2, v2, ev⟩ := bd_s ev
      cases n with
      | zero => omega
      | succ n =>
      cases n with
      | zero => omega
      | succ n =>
        have v0 : 0 < v := o4 k5
        have v9 : v < 10000 := o2
        have es1 : s1 = nI v :: st := by
          have : some (nI v :: st) = some s1 := v1
          cases this
          rfl
        obtain ⟨g, g1, g2, g3⟩ := mst (n := n + 1) (by decide) (fun z => by cases z) (show p < e by omega) he (by omega) q1.1 q1.2 s (fun z => by cases z) v1
        have f18 : g 118 = h 118 := g3 118 (by decide)
        have f19 : g 119 = h 119 := g3 119 (by decide)
        have f24 : g 124 = h 124 := g3 124 (by decide)
        have l1 := sl _ _ _ _ v1
        obtain ⟨f, f1, f2, f3⟩ := mst (k := 5) (v := 0) (n := n) (st := s1) (by decide) (fun z => by cases z) (show p + 1 < e by omega) he (by omega) (by rw [f18]; exact q2.1) (by rw [f19]; exact q2.2) g2 (fun _ b r eb => by
          rw [es1] at eb
          cases eb
          exact nI_ne0 v0 (by omega)) (by rw [f24]; exact v2)
        have l2 := sl _ _ _ _ v2
        have l3 : s2.length ≤ s1.length := by
          rw [es1] at v2
          unfold s1M at v2
          rw [if_neg (by show ¬ (5 : Nat) = 0; decide), if_neg (by show ¬ (5 : Nat) = 1; decide)] at v2
          simp only [show ¬ (5 : Nat) = 9 by decide, if_false] at v2
          cases st with
          | nil => cases v2
          | cons a r => cases v2; rw [es1]; simp only [List.length_cons]; omega
        have u18 : f 118 = h 118 := by rw [f3 118 (by decide), f18]
        have u19 : f 119 = h 119 := by rw [f3 119 (by decide), f19]
        have u24 : f 124 = h 124 := by rw [f3 124 (by decide), f24]
        obtain ⟨w, w1, w2, w3⟩ := ih (p + 2) n f s2 st' (by omega) (by omega) (by omega) ok' (fun j k' v' hj => by rw [u18, u19]; exact q3 j k' v' hj) f2 (by rw [u24]; exact ev)
        exact ⟨w, fun k0 => by rw [g1, f1, w1], w2, fv_t (fv_t g3 f3) w3⟩
    · rw [if_neg k5] at hp hn ev
      simp only [List.length_cons] at hp hn
      rw [evM] at ev
      obtain ⟨s1, v1, ev⟩ := bd_s ev
      cases n with
      | zero => omega
      | succ n =>
        obtain ⟨g, g1, g2, g3⟩ := mst (n := n) o1 o3 (show p < e by omega) he (by omega) q1.1 q1.2 s (fun z => absurd z k5) v1
        have f18 : g 118 = h 118 := g3 118 (by decide)
        have f19 : g 119 = h 119 := g3 119 (by decide)
        have f24 : g 124 = h 124 := g3 124 (by decide)
        have l1 := sl _ _ _ _ v1
        obtain ⟨w, w1, w2, w3⟩ := ih (p + 1) n g s1 st' (by omega) (by omega) (by omega) ok' (fun j k' v' hj => by rw [f18, f19]; exact q3 j k' v' hj) g2 (by rw [f24]; exact ev)
        exact ⟨w, fun k0 => by rw [g1, w1], w2, fv_t g3 w3⟩
/-- a run of the model: one number -/
theorem mrun_1 {C : List (Nat × Nat)} {p : Nat} {h : PH} {x : Int32} (hp : p + (xp C).length ≤ 400) (ok : ∀ c, c ∈ C → okC c) (cd : CDm C p h) (ev : evM (fun q => h 124 q) (xp C) [] = some [x]) : ∃ g, mm_runs 0 (nI p) (nI (p + (xp C).length)) h = some (x, g) ∧ FV h g := by
  obtain ⟨g, g1, g2, g3⟩ := mrun hp C p FU h [] [x] rfl (by unfold FU; omega) (Nat.zero_le _) ok cd (fun j y hj => by cases hj) ev
  have e0 : g 125 0 = x := g2 0 x rfl
  refine ⟨g, ?_, g3⟩
  have q := g1 (fun (h11 : PH) => ck 0 420 <| some (h11 125 (ix 0), h11))
  unfold mm_runs
  rw [lt_e, show (400 : Int32) * 0 + nI p = nI p by rw [show (400 : Int32) * 0 = nI 0 from rfl, nI_add, Nat.zero_add]]
  have q2 : nI ([] : List Int32).length = (0 : Int32) := rfl
  rw [q2] at q
  rw [q, show ix (0 : Int32) = 0 from rfl, e0]
  rfl
