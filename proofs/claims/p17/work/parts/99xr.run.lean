section
/-! THE LAW RUNS alike: a code, a list of them -/
def SKC (st : List Int32) (h : PH) : Prop := h 34 4 = nI st.length ∧ st.length ≤ 64 ∧ ∀ j x, st[j]? = some x → h 36 (st.length - 1 - j) = x
def FW (h g : PH) : Prop := ∀ b, b ≠ 34 → b ≠ 36 → g b = h b
theorem fw_t {h g f : PH} (a : FW h g) (b : FW g f) : FW h f := fun x x1 x2 => by rw [b x x1 x2, a x x1 x2]
theorem sk_top {st : List Int32} {b : Int32} {h : PH} (s : SKC (b :: st) h) : h 34 4 - 1 = nI st.length ∧ h 36 st.length = b ∧ st.length < 64 := by
  obtain ⟨s1, s2, s3⟩ := s
  rw [List.length_cons] at s1 s2 s3
  refine ⟨by rw [s1, nI_pred], ?_, by omega⟩
  have := s3 0 b rfl
  rw [show st.length + 1 - 1 - 0 = st.length by omega] at this
  exact this
theorem sk_push {st : List Int32} {h : PH} (s : SKC st h) (hl : st.length < 64) (x : Int32) : SKC (x :: st) (up (up h 36 st.length x) 34 4 (nI (st.length + 1))) := by
  obtain ⟨s1, s2, s3⟩ := s
  refine ⟨by rw [up_same, List.length_cons], by rw [List.length_cons]; omega, fun j y hj => ?_⟩
  rw [up_oc (by decide), List.length_cons]
  cases j with
  | zero =>
    have hj : some x = some y := hj
    cases hj
    rw [show st.length + 1 - 1 - 0 = st.length by omega, up_same]
  | succ j =>
    have hj : st[j]? = some y := hj
    obtain ⟨a, _⟩ := List.getElem?_eq_some_iff.mp hj
    rw [up_oj (by omega), show st.length + 1 - 1 - (j + 1) = st.length - 1 - j by omega]
    exact s3 j y hj
/-- the top is another -/
theorem sk_set {st : List Int32} {b : Int32} {h : PH} (s : SKC (b :: st) h) (x : Int32) : SKC (x :: st) (up h 36 st.length x) := by
  obtain ⟨s1, s2, s3⟩ := s
  rw [List.length_cons] at s1 s2 s3
  refine ⟨by rw [up_oc (by decide), List.length_cons]; exact s1, by rw [List.length_cons]; exact s2, fun j y hj => ?_⟩
  rw [List.length_cons]
  cases j with
  | zero =>
    have hj : some x = some y := hj
    cases hj
    rw [show st.length + 1 - 1 - 0 = st.length by omega, up_same]
  | succ j =>
    have hj : st[j]? = some y := hj
    obtain ⟨a, _⟩ := List.getElem?_eq_some_iff.mp hj
    rw [up_oj (by omega)]
    exact s3 (j + 1) y hj
theorem sk_drop {st : List Int32} {b : Int32} {h : PH} (s : SKC (b :: st) h) : SKC st (up h 34 4 (nI st.length)) := by
  obtain ⟨s1, s2, s3⟩ := s
  rw [List.length_cons] at s1 s2 s3
  refine ⟨up_same, by omega, fun j y hj => ?_⟩
  obtain ⟨a, _⟩ := List.getElem?_eq_some_iff.mp hj
  have := s3 (j + 1) y hj
  rw [up_oc (by decide), show st.length - 1 - j = st.length + 1 - 1 - (j + 1) by omega]
  exact this
theorem jd_e (k : Nat) (hk : k = 2 ∨ k = 3 ∨ k = 4 ∨ k = 6 ∨ k = 7 ∨ k = 8 ∨ k = 10 ∨ k = 11) (a b : Int32) (h : PH) : mW_joined (nI k) a b h = some (opj k a b) := by
  rcases hk with e | e | e | e | e | e | e | e <;> subst e
  · rfl
  · rfl
  · rfl
  · show (if b ≤ a then some 0 else some 1) = some (if a < b then 1 else 0)
    by_cases c : a < b
    · rw [if_pos c, if_neg (Int32.not_le.mpr c)]
    · rw [if_neg c, if_pos (Int32.not_lt.mp c)]
  · show (if a = b then some 1 else some 0) = some (if a = b then 1 else 0)
    split <;> rfl
  · show (if a ≤ b then some 0 else some 1) = some (if b < a then 1 else 0)
    by_cases c : b < a
    · rw [if_pos c, if_neg (Int32.not_le.mpr c)]
    · rw [if_neg c, if_pos (Int32.not_lt.mp c)]
  · rfl
  · rfl
/-- one code of the class -/
theorem wstt {k v : Nat} (ok : okC (k, v)) {st st' : List Int32} {h : PH} (s : SKC st h) (e : s1C (fun q => h 35 q) (k, v) st = some st') : ∃ g, mW_step (nI k) (nI v) h = some g ∧ SKC st' g ∧ FW h g := by
  obtain ⟨o1, o2, o3, o4⟩ := ok
  have o1 : k < 12 := o1
  have o2 : v < 10000 := o2
  have o3 : k = 1 → v < 12 := o3
  have o4 : k = 5 → 0 < v := o4
  have push : ∀ x : Int32, st.length < 64 → SKC (x :: st) (up (up h 36 st.length x) 34 4 (nI (st.length + 1))) ∧ FW h (up (up h 36 st.length x) 34 4 (nI (st.length + 1))) := fun x hl => ⟨sk_push s hl x, fun b b1 b2 => by rw [up_cell b1, up_cell b2]⟩
  by_cases k0 : k = 0
  · subst k0
    have e : (if st.length < 64 then some (nI v :: st) else none) = some st' := e
    by_cases hl : st.length < 64
    · rw [if_pos hl] at e
      cases e
      refine ⟨_, ?_, (push (nI v) hl).1, (push (nI v) hl).2⟩
      unfold mW_step
      rw [jn0_e, if_pos (show nI 0 = (0 : Int32) from rfl), s.1, if_neg (show ¬ (64 : Int32) ≤ nI st.length from nI_ge (b := 64) hl (by decide)), jn1_e, if_neg (by decide)]
      try dsimp only
      rw [jn1_e, if_pos rfl]
      try dsimp only
      rw [ck_nI hl (by decide), lt_e, show ix (nI st.length) = st.length from nI_clamp (by omega), up_oc (by decide), s.1, lt_e, nI_1]
    · rw [if_neg hl] at e
      cases e
  · by_cases k1 : k = 1
    · subst k1
      have e : (if st.length < 64 then some (h 35 v :: st) else none) = some st' := e
      have v12 := o3 rfl
      by_cases hl : st.length < 64
      · rw [if_pos hl] at e
        cases e
        refine ⟨_, ?_, (push (h 35 v) hl).1, (push (h 35 v) hl).2⟩
        unfold mW_step
        rw [jn0_e, if_neg (by decide), if_pos (show nI 1 = (1 : Int32) from rfl), s.1, if_neg (show ¬ (64 : Int32) ≤ nI st.length from nI_ge (b := 64) hl (by decide)), jn1_e, if_pos (show nI 1 = (1 : Int32) from rfl), if_neg (nI_pos (by omega)), if_neg (show ¬ (12 : Int32) ≤ nI v from nI_ge (b := 12) v12 (by decide))]
        try dsimp only
        rw [jn1_e, if_neg no10]
        try dsimp only
        rw [ck_nI v12 (by decide), show ix (nI v) = v from nI_clamp (by omega)]
        try dsimp only
        rw [ck_nI hl (by decide), lt_e, show ix (nI st.length) = st.length from nI_clamp (by omega), up_oc (by decide), s.1, lt_e, nI_1]
      · rw [if_neg hl] at e
        cases e
    · have n0 : ¬ nI k = (0 : Int32) := fun z => k0 ((nI_eq (b := 0) (by omega) (by decide)).mp z)
      have n1 : ¬ nI k = (1 : Int32) := fun z => k1 ((nI_eq (b := 1) (by omega) (by decide)).mp z)
      unfold s1C at e
      rw [if_neg k0, if_neg k1] at e
      unfold mW_step
      rw [jn0_e, if_neg n0, if_neg n1]
      cases st with
      | nil => cases e
      | cons b r =>
        obtain ⟨t1, t2, t3⟩ := sk_top s
        have ixt : ix (nI r.length) = r.length := nI_clamp (by omega)
        have ckt : ∀ (q : Option PH), ck (nI r.length) 64 q = q := fun q => ck_nI t3 (by decide)
        have pos : ¬ h 34 4 ≤ 0 := by rw [s.1, List.length_cons]; exact nI_nle (by omega) (by omega)
        by_cases k5 : k = 5
        · subst k5
          have v0 := o4 rfl
          have e : some (b / nI v :: r) = some st' := e
          cases e
          refine ⟨_, ?_, sk_set s (b / nI v), fun x _ x2 => up_cell x2⟩
          rw [if_pos (show nI 5 = (5 : Int32) from rfl), if_neg pos, if_neg (nI_ne0 v0 (by omega)), t1, ckt, dz_nz (nI_ne0 v0 (by omega)), ckt, lt_e, ixt, t2]
        · rw [if_neg (show ¬ nI k = (5 : Int32) from fun z => k5 ((nI_eq (b := 5) (by omega) (by decide)).mp z))]
          by_cases k9 : k = 9
          · subst k9
            have e : some ((if b = 0 then 1 else 0) :: r) = some st' := e
            cases e
            refine ⟨_, ?_, sk_set s (if b = 0 then 1 else 0), fun x _ x2 => up_cell x2⟩
            rw [if_pos (show nI 9 = (9 : Int32) from rfl), if_neg pos, t1, ckt, jn1_e, ixt, t2]
            by_cases z : b = 0
            · rw [if_pos z, if_pos z]
              try dsimp only
              rw [ckt, lt_e]
            · rw [if_neg z, if_neg z]
              try dsimp only
              rw [ckt, lt_e]
          · rw [if_neg (show ¬ nI k = (9 : Int32) from fun z => k9 ((nI_eq (b := 9) (by omega) (by decide)).mp z))]
            simp only [if_neg k5, if_neg k9] at e
            cases r with
            | nil => cases e
            | cons a r =>
              have e : some (opj k a b :: r) = some st' := e
              cases e
              have d1 := sk_drop s
              obtain ⟨u1, u2, u3⟩ := sk_top d1
              have d2 : up h 34 4 (nI (a :: r).length) 34 4 = nI (a :: r).length := up_same
              have d3 : up h 34 4 (nI (a :: r).length) 36 (a :: r).length = b := by rw [up_oc (by decide)]; exact t2
              have gt1 : ¬ h 34 4 ≤ 1 := by rw [s.1, List.length_cons, List.length_cons]; exact nI_ge (a := 1) (by omega) (by have := t3; rw [List.length_cons] at this; omega)
              refine ⟨_, ?_, sk_set d1 (opj k a b), fun x x1 x2 => by rw [up_cell x2, up_cell x1]⟩
              rw [if_neg gt1, lt_e, t1, u1, ck_nI u3 (by decide), d2, ckt, show ix (nI r.length) = r.length from nI_clamp (by omega), u2, ixt, d3, jd_e k (by omega), bd_e, ck_nI u3 (by decide), lt_e]
/-- the class's codes of a text, in cell 9 -/
def CDc (C : List (Nat × Nat)) (p : Nat) (h : PH) : Prop := ∀ j k v, C[j]? = some (k, v) → h 9 (2 * (p + j)) = nI k ∧ h 9 (2 * (p + j) + 1) = nI v
theorem at_8 {h : PH} {m p : Nat} (c1 : h 8 1 = 2) (c3 : h 8 3 = nI m) (hm : m ≤ 400) (hp : p < m) : mR_at 8 (nI p) 0 h = some (h 9 (2 * p)) ∧ mR_at 8 (nI p) 1 h = some (h 9 (2 * p + 1)) := by
  unfold mR_at
  constructor
  · rw [if_neg (nI_pos (by omega)), c3, if_neg (nI_ge hp (by omega)), c1, if_neg (by decide), if_pos (by decide), show nI p * (2 : Int32) = nI (p * 2) from nI_mul p 2, show ln (8 + 1) = 800 from rfl, Nat.mul_comm p 2, show nI (2 * p) + (0 : Int32) = nI (2 * p) from nI_add _ 0, ck_nI (by omega) (by decide), show ix (nI (2 * p)) = 2 * p from nI_clamp (by omega)]
  · rw [if_neg (nI_pos (by omega)), c3, if_neg (nI_ge hp (by omega)), c1, if_neg (by decide), if_pos (by decide), show nI p * (2 : Int32) = nI (p * 2) from nI_mul p 2, show ln (8 + 1) = 800 from rfl, Nat.mul_comm p 2, nI_1, ck_nI (by omega) (by decide), show ix (nI (2 * p + 1)) = 2 * p + 1 from nI_clamp (by omega)]
theorem wrun {m : Nat} (hm : m ≤ 400) : ∀ (C : List (Nat × Nat)) (p n : Nat) (h : PH) (st st' : List Int32), h 8 1 = 2 → h 8 3 = nI m → p + C.length ≤ m → C.length < n → (∀ c, c ∈ C → okC c) → CDc C p h → SKC st h → evC (fun q => h 35 q) C st = some st' → ∃ g, (∀ k0 : PH → Option (Int32 × PH), mW_run_L7 (nI (p + C.length)) k0 n (nI p) h = k0 g) ∧ SKC st' g ∧ FW h g := by
  intro C
  induction C with
  | nil =>
    intro p n h st st' c1 c3 hp hn ok cd s e
    cases n with
    | zero => simp at hn
    | succ n =>
      rw [evC] at e
      cases e
      refine ⟨h, fun k0 => ?_, s, fun _ _ _ => rfl⟩
      rw [mW_run_L7, if_pos (nI_le (by simp) (by simp at hp; omega))]
  | cons c C ih =>
    intro p n h st st' c1 c3 hp hn ok cd s e
    obtain ⟨k, v⟩ := c
    rw [List.length_cons] at hp hn
    cases n with
    | zero => omega
    | succ n =>
      rw [evC] at e
      obtain ⟨st1, e1, e2⟩ := bd_s e
      obtain ⟨g, g1, g2, g3⟩ := wstt (ok (k, v) List.mem_cons_self) s e1
      obtain ⟨a1, a2⟩ := at_8 c1 c3 hm (show p < m by omega)
      have d1 : h 9 (2 * p) = nI k := (cd 0 k v rfl).1
      have d2 : h 9 (2 * p + 1) = nI v := (cd 0 k v rfl).2
      have f8 : g 8 = h 8 := g3 8 (by decide) (by decide)
      have f9 : g 9 = h 9 := g3 9 (by decide) (by decide)
      have f35 : g 35 = h 35 := g3 35 (by decide) (by decide)
      obtain ⟨f, f1, f2, f3⟩ := ih (p + 1) n g st1 st' (by rw [f8]; exact c1) (by rw [f8]; exact c3) (by omega) (by omega) (fun c hc => ok c (List.mem_cons_of_mem _ hc)) (fun j k' v' hj => by
        rw [f9, show p + 1 + j = p + (j + 1) by omega]
        exact cd (j + 1) k' v' hj) g2 (by rw [f35]; exact e2)
      refine ⟨f, fun k0 => ?_, f2, fw_t g3 f3⟩
      rw [mW_run_L7, if_neg (nI_ge (by rw [List.length_cons]; omega) (by rw [List.length_cons]; omega)), a1, bd_e, a2, bd_e, d1, d2, g1, bd_e, nI_1, List.length_cons, show p + (C.length + 1) = p + 1 + C.length by omega, f1]
/-- a run of the class: one number -/
theorem wrun_1 {m : Nat} (hm : m ≤ 400) {C : List (Nat × Nat)} {p : Nat} {h : PH} {x : Int32} (c1 : h 8 1 = 2) (c3 : h 8 3 = nI m) (hp : p + C.length ≤ m) (ok : ∀ c, c ∈ C → okC c) (cd : CDc C p h) (e : evC (fun q => h 35 q) C [] = some [x]) : ∃ g, mW_run (nI p) (nI (p + C.length)) h = some (x, g) ∧ FW h g := by
  have s0 : SKC [] (up h 34 4 0) := ⟨up_same, by decide, fun j y hj => by cases hj⟩
  have f0 : FW h (up h 34 4 0) := fun b b1 _ => up_cell b1
  obtain ⟨g, g1, g2, g3⟩ := wrun hm C p FU (up h 34 4 0) [] [x] (by rw [up_oc (by decide)]; exact c1) (by rw [up_oc (by decide)]; exact c3) hp (by unfold FU; omega) ok (fun j k v hj => by rw [up_oc (by decide), up_oc (by decide)]; exact cd j k v hj) s0 (by rw [f0 35 (by decide) (by decide)]; exact e)
  refine ⟨g, ?_, fw_t f0 g3⟩
  unfold mW_run
  rw [lt_e, g1]
  have e4 : g 34 4 = nI 1 := g2.1
  have e36 : g 36 0 = x := g2.2.2 0 x rfl
  rw [e4, if_neg (by decide), show ix (0 : Int32) = 0 from rfl, e36]
  rfl
end
section
/-! THE LAW RUNS alike: the model -/
def SKM (st : List Int32) (h : PH) : Prop := ∀ j x, st[j]? = some x → h 125 (st.length - 1 - j) = x
def FV (h g : PH) : Prop := ∀ b, b ≠ 125 → g b = h b
theorem fv_t {h g f : PH} (a : FV h g) (b : FV g f) : FV h f := fun x x1 => by rw [b x x1, a x x1]
theorem km_top {st : List Int32} {b : Int32} {h : PH} (s : SKM (b :: st) h) : h 125 st.length = b ∧ SKM st h := by
  constructor
  · have := s 0 b rfl
    rw [List.length_cons, show st.length + 1 - 1 - 0 = st.length by omega] at this
    exact this
  · intro j y hj
    have := s (j + 1) y hj
    obtain ⟨a, _⟩ := List.getElem?_eq_some_iff.mp hj
    rw [List.length_cons, show st.length + 1 - 1 - (j + 1) = st.length - 1 - j by omega] at this
    exact this
theorem km_push {st : List Int32} {h : PH} (s : SKM st h) (x : Int32) : SKM (x :: st) (up h 125 st.length x) := by
  intro j y hj
  rw [List.length_cons]
  cases j with
  | zero =>
    have hj : some x = some y := hj
    cases hj
    rw [show st.length + 1 - 1 - 0 = st.length by omega, up_same]
  | succ j =>
    have hj : st[j]? = some y := hj
    obtain ⟨a, _⟩ := List.getElem?_eq_some_iff.mp hj
    rw [up_oj (by omega), show st.length + 1 - 1 - (j + 1) = st.length - 1 - j by omega]
    exact s j y hj
theorem two_e (k : Nat) (hk : k = 2 ∨ k = 3 ∨ k = 4 ∨ k = 5 ∨ k = 6 ∨ k = 7 ∨ k = 8 ∨ k = 10 ∨ k = 11) (a b : Int32) (h : PH) (h5 : k = 5 → ¬ b = 0) : mm_twoOf (nI k) a b h = some (opm k a b) := by
  rcases hk with e | e | e | e | e | e | e | e | e <;> subst e
  · rfl
  · rfl
  · rfl
  · show dz b (some (a / b)) = some (a / b)
    rw [dz_nz (h5 rfl)]
  · show (if b ≤ a then some 0 else some 1) = some (if a < b then 1 else 0)
    by_cases c : a < b
    · rw [if_pos c, if_neg (Int32.not_le.mpr c)]
    · rw [if_neg c, if_pos (Int32.not_lt.mp c)]
  · show (if a = b then some 1 else some 0) = some (if a = b then 1 else 0)
    split <;> rfl
  · show (if a ≤ b then some 0 else some 1) = some (if b < a then 1 else 0)
    by_cases c : b < a
    · rw [if_pos c, if_neg (Int32.not_le.mpr c)]
    · rw [if_neg c, if_pos (Int32.not_lt.mp c)]
  · rfl
  · show (if a + b ≤ 0 then some 0 else some 1) = some (if 0 < a + b then 1 else 0)
    by_cases c : 0 < a + b
    · rw [if_pos c, if_neg (Int32.not_le.mpr c)]
    · rw [if_neg c, if_pos (Int32.not_lt.mp c)]
/-- one code of the model -/
theorem mst {k v p e n : Nat} {st st' : List Int32} {h : PH} (k12 : k < 12) (v1 : k = 1 → v < 12) (hp : p < e) (he : e ≤ 400) (hl : st.length < 400) (op : h 118 p = nI k) (ar : h 119 p = nI v) (s : SKM st h) (h5 : k = 5 → ∀ b r, st = b :: r → ¬ b = 0) (ev : s1M (fun q => h 124 q) (k, v) st = some st') : ∃ g, (∀ k0 : PH → Option (Int32 × PH), mm_runs_L12 0 (nI e) k0 (n + 1) (nI st.length) (nI p) h = mm_runs_L12 0 (nI e) k0 n (nI st'.length) (nI (p + 1)) g) ∧ SKM st' g ∧ FV h g := by
  have z0 : (400 : Int32) * 0 + nI e = nI e := by
    rw [show (400 : Int32) * 0 = nI 0 from rfl, nI_add, Nat.zero_add]
  have ixp : ix (nI p) = p := nI_clamp (by omega)
  have ckp : ∀ (q : Option (Int32 × PH)), ck (nI p) 1200 q = q := fun q => ck_nI (by omega) (by decide)
  have ixs : ix (nI st.length) = st.length := nI_clamp (by omega)
  have cks : ∀ (q : Option (Int32 × PH)), ck (nI st.length) 420 q = q := fun q => ck_nI (by omega) (by decide)
  by_cases k0 : k = 0
  · subst k0
    have ev : some (nI v :: st) = some st' := ev
    cases ev
    refine ⟨up h 125 st.length (nI v), fun K => ?_, km_push s _, fun b b1 => up_cell b1⟩
    rw [mm_runs_L12, z0, if_neg (nI_ge hp (by omega)), ckp, jn0_e, ixp, op, if_pos (show nI 0 = (0 : Int32) from rfl), ckp, jn1_e, if_pos (show nI 0 = (0 : Int32) from rfl), ckp, ar]
    try dsimp only
    rw [cks, lt_e, lt_e, ixs, nI_1, nI_1, List.length_cons]
  · have n0 : ¬ nI k = (0 : Int32) := fun z => k0 ((nI_eq (b := 0) (by omega) (by decide)).mp z)
    by_cases k1 : k = 1
    · subst k1
      have v12 := v1 rfl
      have ev : some (h 124 v :: st) = some st' := ev
      cases ev
      refine ⟨up h 125 st.length (h 124 v), fun K => ?_, km_push s _, fun b b1 => up_cell b1⟩
      rw [mm_runs_L12, z0, if_neg (nI_ge hp (by omega)), ckp, jn0_e, ixp, op, if_neg n0, ckp, if_pos (show nI 1 = (1 : Int32) from rfl), ckp, jn1_e, if_neg n0, ckp, ar, ck_nI v12 (by decide), show ix (nI v) = v from nI_clamp (by omega)]
      try dsimp only
      rw [cks, lt_e, lt_e, ixs, nI_1, nI_1, List.length_cons]
    · have n1 : ¬ nI k = (1 : Int32) := fun z => k1 ((nI_eq (b := 1) (by omega) (by decide)).mp z)
      unfold s1M at ev
      rw [if_neg k0, if_neg k1] at ev
      cases st with
      | nil => cases ev
      | cons b r =>
        obtain ⟨t1, t2⟩ := km_top s
        rw [List.length_cons] at hl
        have tp : nI (b :: r).length - 1 = nI r.length := by rw [List.length_cons, nI_pred]
        have ixr : ix (nI r.length) = r.length := nI_clamp (by omega)
        have ckr : ∀ (q : Option (Int32 × PH)), ck (nI r.length) 420 q = q := fun q => ck_nI (by omega) (by decide)
        by_cases k9 : k = 9
        · subst k9
          have ev : some ((1 - b) :: r) = some st' := ev
          cases ev
          refine ⟨up h 125 r.length (1 - b), fun K => ?_, km_push t2 _, fun b b1 => up_cell b1⟩
          rw [mm_runs_L12, z0, if_neg (nI_ge hp (by omega)), ckp, jn0_e, ixp, op, if_neg n0, ckp, if_neg n1, ckp, if_pos (show nI 9 = (9 : Int32) from rfl), tp, ckr, ckr, lt_e, ixr, t1, nI_1, List.length_cons, List.length_cons]
        · simp only [if_neg k9] at ev
          cases r with
          | nil => cases ev
          | cons a r =>
            have ev : some (opm k a b :: r) = some st' := ev
            cases ev
            obtain ⟨u1, u2⟩ := km_top t2
            rw [List.length_cons] at hl
            have tq : nI (a :: r).length - 1 = nI r.length := by rw [List.length_cons, nI_pred]
            have ixq : ix (nI r.length) = r.length := nI_clamp (by omega)
            have ckq : ∀ (q : Option (Int32 × PH)), ck (nI r.length) 420 q = q := fun q => ck_nI (by omega) (by decide)
            refine ⟨up h 125 r.length (opm k a b), fun K => ?_, km_push u2 _, fun b b1 => up_cell b1⟩
            rw [mm_runs_L12, z0, if_neg (nI_ge hp (by omega)), ckp, jn0_e, ixp, op, if_neg n0, ckp, if_neg n1, ckp, if_neg (show ¬ nI k = (9 : Int32) from fun z => k9 ((nI_eq (b := 9) (by omega) (by decide)).mp z)), lt_e, tp, ckp, tq, ckq, ckr, ixq, u1, ixr, t1, two_e k (by omega) a b h (fun z => h5 z b _ rfl), bd_e, ckq, lt_e, nI_1, List.length_cons, List.length_cons]
/-- the model's codes of a text -/
def CDm (C : List (Nat × Nat)) (p : Nat) (h : PH) : Prop := ∀ j k v, (xp C)[j]? = some (k, v) → h 118 (p + j) = nI k ∧ h 119 (p + j) = nI v
theorem cdm_c {k v : Nat} {C : List (Nat × Nat)} {p : Nat} {h : PH} (c : CDm ((k, v) :: C) p h) : (k = 5 ∧ (h 118 p = nI 0 ∧ h 119 p = nI v) ∧ (h 118 (p + 1) = nI 5 ∧ h 119 (p + 1) = nI 0) ∧ CDm C (p + 2) h) ∨ (k ≠ 5 ∧ (h 118 p = nI k ∧ h 119 p = nI v) ∧ CDm C (p + 1) h) := by
  unfold CDm at c
  rw [xp] at c
  by_cases k5 : k = 5
  · rw [if_pos k5] at c
    refine Or.inl ⟨k5, c 0 0 v rfl, c 1 5 0 rfl, fun j k' v' hj => ?_⟩
    rw [show p + 2 + j = p + (j + 2) by omega]
    exact c (j + 2) k' v' hj
  · rw [if_neg k5] at c
    refine Or.inr ⟨k5, c 0 k v rfl, fun j k' v' hj => ?_⟩
    rw [show p + 1 + j = p + (j + 1) by omega]
    exact c (j + 1) k' v' hj
theorem mrun {e : Nat} (he : e ≤ 400) : ∀ (C : List (Nat × Nat)) (p n : Nat) (h : PH) (st st' : List Int32), p + (xp C).length = e → (xp C).length < n → st.length ≤ p → (∀ c, c ∈ C → okC c) → CDm C p h → SKM st h → evM (fun q => h 124 q) (xp C) st = some st' → ∃ g, (∀ k0 : PH → Option (Int32 × PH), mm_runs_L12 0 (nI e) k0 n (nI st.length) (nI p) h = k0 g) ∧ SKM st' g ∧ FV h g := by
  have z0 : (400 : Int32) * 0 + nI e = nI e := by
    rw [show (400 : Int32) * 0 = nI 0 from rfl, nI_add, Nat.zero_add]
  have sl : ∀ (K : Nat → Int32) (c : Nat × Nat) (st st' : List Int32), s1M K c st = some st' → st'.length ≤ st.length + 1 := fun K c st st' q => by
    unfold s1M at q
    split at q
    · cases q; rw [List.length_cons]; omega
    · split at q
      · cases q; rw [List.length_cons]; omega
      · cases st with
        | nil => cases q
        | cons b r =>
          simp only at q
          split at q
          · cases q; rw [List.length_cons, List.length_cons]; omega
          · cases r with
            | nil => cases q
            | cons a r => cases q; simp only [List.length_cons]; omega
  intro C
  induction C with
  | nil =>
    intro p n h st st' hp hn hst ok cd s ev
    have hp : p + 0 = e := hp
    cases n with
    | zero => simp at hn
    | succ n =>
      have ev : some st = some st' := ev
      cases ev
      refine ⟨h, fun k0 => ?_, s, fun _ _ => rfl⟩
      rw [mm_runs_L12, z0, if_pos (nI_le (by omega) (by omega))]
  | cons c C ih =>
    intro p n h st st' hp hn hst ok cd s ev
    obtain ⟨k, v⟩ := c
    obtain ⟨o1, o2, o3, o4⟩ := ok (k, v) List.mem_cons_self
    have ok' : ∀ c, c ∈ C → okC c := fun c hc => ok c (List.mem_cons_of_mem _ hc)
    rw [xp] at hp hn ev
    rcases cdm_c cd with ⟨k5, q1, q2, q3⟩ | ⟨k5, q1, q3⟩
    · rw [if_pos k5] at hp hn ev
      simp only [List.length_cons] at hp hn
      rw [evM] at ev
      obtain ⟨s1, v1, ev⟩ := bd_s ev
      rw [evM] at ev
      obtain ⟨s2, v2, ev⟩ := bd_s ev
      cases n with
      | zero => omega
      | succ n =>
      cases n with
      | zero => omega
      | succ n =>
        have v0 : 0 < v := o4 k5
        have v9 : v < 10000 := o2
        have es1 : s1 = nI v :: st := by
          have : some (nI v :: st) = some s1 := v1
          cases this
          rfl
        obtain ⟨g, g1, g2, g3⟩ := mst (n := n + 1) (by decide) (fun z => by cases z) (show p < e by omega) he (by omega) q1.1 q1.2 s (fun z => by cases z) v1
        have f18 : g 118 = h 118 := g3 118 (by decide)
        have f19 : g 119 = h 119 := g3 119 (by decide)
        have f24 : g 124 = h 124 := g3 124 (by decide)
        have l1 := sl _ _ _ _ v1
        obtain ⟨f, f1, f2, f3⟩ := mst (k := 5) (v := 0) (n := n) (st := s1) (by decide) (fun z => by cases z) (show p + 1 < e by omega) he (by omega) (by rw [f18]; exact q2.1) (by rw [f19]; exact q2.2) g2 (fun _ b r eb => by
          rw [es1] at eb
          cases eb
          exact nI_ne0 v0 (by omega)) (by rw [f24]; exact v2)
        have l2 := sl _ _ _ _ v2
        have l3 : s2.length ≤ s1.length := by
          rw [es1] at v2
          unfold s1M at v2
          rw [if_neg (by show ¬ (5 : Nat) = 0; decide), if_neg (by show ¬ (5 : Nat) = 1; decide)] at v2
          simp only [show ¬ (5 : Nat) = 9 by decide, if_false] at v2
          cases st with
          | nil => cases v2
          | cons a r => cases v2; rw [es1]; simp only [List.length_cons]; omega
        have u18 : f 118 = h 118 := by rw [f3 118 (by decide), f18]
        have u19 : f 119 = h 119 := by rw [f3 119 (by decide), f19]
        have u24 : f 124 = h 124 := by rw [f3 124 (by decide), f24]
        obtain ⟨w, w1, w2, w3⟩ := ih (p + 2) n f s2 st' (by omega) (by omega) (by omega) ok' (fun j k' v' hj => by rw [u18, u19]; exact q3 j k' v' hj) f2 (by rw [u24]; exact ev)
        exact ⟨w, fun k0 => by rw [g1, f1, w1], w2, fv_t (fv_t g3 f3) w3⟩
    · rw [if_neg k5] at hp hn ev
      simp only [List.length_cons] at hp hn
      rw [evM] at ev
      obtain ⟨s1, v1, ev⟩ := bd_s ev
      cases n with
      | zero => omega
      | succ n =>
        obtain ⟨g, g1, g2, g3⟩ := mst (n := n) o1 o3 (show p < e by omega) he (by omega) q1.1 q1.2 s (fun z => absurd z k5) v1
        have f18 : g 118 = h 118 := g3 118 (by decide)
        have f19 : g 119 = h 119 := g3 119 (by decide)
        have f24 : g 124 = h 124 := g3 124 (by decide)
        have l1 := sl _ _ _ _ v1
        obtain ⟨w, w1, w2, w3⟩ := ih (p + 1) n g s1 st' (by omega) (by omega) (by omega) ok' (fun j k' v' hj => by rw [f18, f19]; exact q3 j k' v' hj) g2 (by rw [f24]; exact ev)
        exact ⟨w, fun k0 => by rw [g1, w1], w2, fv_t g3 w3⟩
/-- a run of the model: one number -/
theorem mrun_1 {C : List (Nat × Nat)} {p : Nat} {h : PH} {x : Int32} (hp : p + (xp C).length ≤ 400) (ok : ∀ c, c ∈ C → okC c) (cd : CDm C p h) (ev : evM (fun q => h 124 q) (xp C) [] = some [x]) : ∃ g, mm_runs 0 (nI p) (nI (p + (xp C).length)) h = some (x, g) ∧ FV h g := by
  obtain ⟨g, g1, g2, g3⟩ := mrun hp C p FU h [] [x] rfl (by unfold FU; omega) (Nat.zero_le _) ok cd (fun j y hj => by cases hj) ev
  have e0 : g 125 0 = x := g2 0 x rfl
  refine ⟨g, ?_, g3⟩
  have q := g1 (fun (h11 : PH) => ck 0 420 <| some (h11 125 (ix 0), h11))
  unfold mm_runs
  rw [lt_e, show (400 : Int32) * 0 + nI p = nI p by rw [show (400 : Int32) * 0 = nI 0 from rfl, nI_add, Nat.zero_add]]
  have q2 : nI ([] : List Int32).length = (0 : Int32) := rfl
  rw [q2] at q
  rw [q, show ix (0 : Int32) = 0 from rfl, e0]
  rfl
end
section
/-! THE LAW TELLS alike -/
abbrev LNS : Type := List (Nat × List (Nat × Nat) × List (Nat × Nat))
def LWc (Ls : LNS) (h : PH) : Prop := h 6 1 = 5 ∧ h 6 3 = nI Ls.length ∧ h 8 1 = 2 ∧ h 8 3 = nI (cdo Ls).length ∧ CDc (cdo Ls) 0 h ∧ ∀ r w A W, Ls[r]? = some (w, A, W) → h 7 (5 * r) = nI w ∧ h 7 (5 * r + 1) = nI (cdo (Ls.take r)).length ∧ h 7 (5 * r + 2) = nI (cdo (Ls.take r) ++ A).length ∧ h 7 (5 * r + 3) = nI (cdo (Ls.take r) ++ A ++ W).length
def LWm (Ls : LNS) (h : PH) : Prop := h 113 0 = nI Ls.length ∧ CDm (cdo Ls) 0 h ∧ ∀ r w A W, Ls[r]? = some (w, A, W) → h 114 r = nI w ∧ h 115 r = nI (xp (cdo (Ls.take r))).length ∧ h 116 r = nI (xp (cdo (Ls.take r) ++ A)).length ∧ h 117 r = nI (xp (cdo (Ls.take r) ++ A ++ W)).length
/-- the law that was told, on both sides -/
def LW (Ls : LNS) (hc hm : PH) : Prop := Ls.length ≤ 16 ∧ (xp (cdo Ls)).length ≤ 400 ∧ LQ Ls ∧ LWc Ls hc ∧ LWm Ls hm
theorem lwc_of {Ls : LNS} {h g : PH} (l : LWc Ls h) (f : ∀ b, 6 ≤ b → b ≤ 9 → g b = h b) : LWc Ls g := by
  unfold LWc CDc at l ⊢
  rw [f 6 (by decide) (by decide), f 7 (by decide) (by decide), f 8 (by decide) (by decide), f 9 (by decide) (by decide)]
  exact l
theorem lwm_of {Ls : LNS} {h g : PH} (l : LWm Ls h) (f : ∀ b, 113 ≤ b → b ≤ 119 → g b = h b) : LWm Ls g := by
  unfold LWm CDm at l ⊢
  rw [f 113 (by decide) (by decide), f 114 (by decide) (by decide), f 115 (by decide) (by decide), f 116 (by decide) (by decide), f 117 (by decide) (by decide), f 118 (by decide) (by decide), f 119 (by decide) (by decide)]
  exact l
theorem cdo_at {Ls : LNS} {r w : Nat} {A W : List (Nat × Nat)} (h : Ls[r]? = some (w, A, W)) : ∃ R, cdo Ls = cdo (Ls.take r) ++ (A ++ (W ++ R)) := by
  obtain ⟨hr, e⟩ := List.getElem?_eq_some_iff.mp h
  have d : Ls = Ls.take r ++ (w, A, W) :: Ls.drop (r + 1) := by
    rw [← e, ← List.drop_eq_getElem_cons hr, List.take_append_drop]
  refine ⟨cdo (Ls.drop (r + 1)), ?_⟩
  have : cdo (Ls.take r ++ (w, A, W) :: Ls.drop (r + 1)) = cdo (Ls.take r) ++ (A ++ (W ++ cdo (Ls.drop (r + 1)))) := by
    unfold cdo
    rw [List.flatMap_append, List.flatMap_cons]
    simp only [List.append_assoc]
  rw [← d] at this
  exact this
theorem cdc_sub {P A R : List (Nat × Nat)} {h : PH} (c : CDc (P ++ (A ++ R)) 0 h) : CDc A P.length h := fun j k v hj => by
  obtain ⟨a, _⟩ := List.getElem?_eq_some_iff.mp hj
  have e : (P ++ (A ++ R))[P.length + j]? = some (k, v) := by
    rw [List.getElem?_append_right (by omega), Nat.add_sub_cancel_left, List.getElem?_append_left a]
    exact hj
  have := c (P.length + j) k v e
  rw [Nat.zero_add] at this
  exact this
theorem cdm_sub {P A R : List (Nat × Nat)} {h : PH} (c : CDm (P ++ (A ++ R)) 0 h) : CDm A (xp P).length h := fun j k v hj => by
  obtain ⟨a, _⟩ := List.getElem?_eq_some_iff.mp hj
  have e : (xp (P ++ (A ++ R)))[(xp P).length + j]? = some (k, v) := by
    rw [xp_app, xp_app, List.getElem?_append_right (by omega), Nat.add_sub_cancel_left, List.getElem?_append_left a]
    exact hj
  have := c ((xp P).length + j) k v e
  rw [Nat.zero_add] at this
  exact this
/-- what the law may ask of a house -/
def KV (h : PH) (i w v : Nat) : Int32 := if v = 0 then h 2 (11 * i + w) else if v = 1 then sm4 h i else if v = 2 then h 2 (11 * i + 4) else if v = 3 then h 2 (11 * i + 5) else if v = 4 then h 2 (11 * i + 6) else if v = 5 then h 2 (11 * i + 8) else if v = 6 then h 2 (11 * i + 7) else if v = 7 then h 2 (11 * i + 9) else if v = 8 then h 2 (11 * i + 10) else if v = 9 then h 1 2 else if v = 10 then h 1 3 else h 1 6
theorem tb35 {A : Nat → Prop} {H : Nat} {hc hm : PH} (t : TW A H hc hm) (c j : Nat) (v : Int32) (hc2 : 2 < c) : TW A H (up hc c j v) hm := tb_of t (up_cell (by omega)) (up_cell (by omega)) rfl rfl rfl rfl
theorem up35 {h : PH} {j : Nat} {v : Int32} {i : Nat} : sm4 (up h 35 j v) i = sm4 h i := by
  unfold sm4
  rw [up_oc (by decide), up_oc (by decide), up_oc (by decide), up_oc (by decide)]
theorem ga_at {H : Nat} {hc hm : PH} (t : TW AA H hc hm) {i w : Nat} (hi : i < H) (hw : w < 4) : ∃ g, mW_gather 1 (nI i) (nI w) hc = some g ∧ (∀ v, v < 12 → g 35 v = KV hc i w v) ∧ ∀ b, b ≠ 35 → g b = hc b := by
  have ckk : ∀ (k : Int32) (n : Nat) (q : Option PH), k = nI n → n < 12 → ck k 12 q = q := fun k n q e h => by rw [e, ck_nI h (by decide)]
  have x : ∀ k, k < 12 → ix (nI k) = k := fun k hk => nI_clamp (by omega)
  unfold mW_gather
  rw [rdB t hi (show w < 11 by omega), bd_e, ckk 0 0 _ rfl (by decide), lt_e, show ix (0 : Int32) = 0 from rfl]
  have t1 := tb35 t 35 0 (hc 2 (11 * i + w)) (by decide)
  rw [suB t1 hi, bd_e, ckk 1 1 _ rfl (by decide), lt_e, show ix (1 : Int32) = 1 from rfl, up35]
  have t2 := tb35 t1 35 1 (sm4 hc i) (by decide)
  rw [show mB_read 1 (nI i) 4 _ = _ from rdB t2 hi (c := 4) (by decide), bd_e, ckk 2 2 _ rfl (by decide), lt_e, show ix (2 : Int32) = 2 from rfl, up_oc (show (2 : Nat) ≠ 35 by decide), up_oc (show (2 : Nat) ≠ 35 by decide)]
  have t3 := tb35 t2 35 2 (hc 2 (11 * i + 4)) (by decide)
  rw [show mB_read 1 (nI i) 5 _ = _ from rdB t3 hi (c := 5) (by decide), bd_e, ckk 3 3 _ rfl (by decide), lt_e, show ix (3 : Int32) = 3 from rfl, up_oc (show (2 : Nat) ≠ 35 by decide), up_oc (show (2 : Nat) ≠ 35 by decide), up_oc (show (2 : Nat) ≠ 35 by decide)]
  have t4 := tb35 t3 35 3 (hc 2 (11 * i + 5)) (by decide)
  rw [show mB_read 1 (nI i) 6 _ = _ from rdB t4 hi (c := 6) (by decide), bd_e, ckk 4 4 _ rfl (by decide), lt_e, show ix (4 : Int32) = 4 from rfl, up_oc (show (2 : Nat) ≠ 35 by decide), up_oc (show (2 : Nat) ≠ 35 by decide), up_oc (show (2 : Nat) ≠ 35 by decide), up_oc (show (2 : Nat) ≠ 35 by decide)]
  have t5 := tb35 t4 35 4 (hc 2 (11 * i + 6)) (by decide)
  rw [show mB_read 1 (nI i) 8 _ = _ from rdB t5 hi (c := 8) (by decide), bd_e, ckk 5 5 _ rfl (by decide), lt_e, show ix (5 : Int32) = 5 from rfl, up_oc (show (2 : Nat) ≠ 35 by decide), up_oc (show (2 : Nat) ≠ 35 by decide), up_oc (show (2 : Nat) ≠ 35 by decide), up_oc (show (2 : Nat) ≠ 35 by decide), up_oc (show (2 : Nat) ≠ 35 by decide)]
  have t6 := tb35 t5 35 5 (hc 2 (11 * i + 8)) (by decide)
  rw [show mB_read 1 (nI i) 7 _ = _ from rdB t6 hi (c := 7) (by decide), bd_e, ckk 6 6 _ rfl (by decide), lt_e, show ix (6 : Int32) = 6 from rfl, up_oc (show (2 : Nat) ≠ 35 by decide), up_oc (show (2 : Nat) ≠ 35 by decide), up_oc (show (2 : Nat) ≠ 35 by decide), up_oc (show (2 : Nat) ≠ 35 by decide), up_oc (show (2 : Nat) ≠ 35 by decide), up_oc (show (2 : Nat) ≠ 35 by decide)]
  have t7 := tb35 t6 35 6 (hc 2 (11 * i + 7)) (by decide)
  rw [show mB_read 1 (nI i) 9 _ = _ from rdB t7 hi (c := 9) (by decide), bd_e, ckk 7 7 _ rfl (by decide), lt_e, show ix (7 : Int32) = 7 from rfl, up_oc (show (2 : Nat) ≠ 35 by decide), up_oc (show (2 : Nat) ≠ 35 by decide), up_oc (show (2 : Nat) ≠ 35 by decide), up_oc (show (2 : Nat) ≠ 35 by decide), up_oc (show (2 : Nat) ≠ 35 by decide), up_oc (show (2 : Nat) ≠ 35 by decide), up_oc (show (2 : Nat) ≠ 35 by decide)]
  have t8 := tb35 t7 35 7 (hc 2 (11 * i + 9)) (by decide)
  rw [show mB_read 1 (nI i) 10 _ = _ from rdB t8 hi (c := 10) (by decide), bd_e, ckk 8 8 _ rfl (by decide), lt_e, show ix (8 : Int32) = 8 from rfl, up_oc (show (2 : Nat) ≠ 35 by decide), up_oc (show (2 : Nat) ≠ 35 by decide), up_oc (show (2 : Nat) ≠ 35 by decide), up_oc (show (2 : Nat) ≠ 35 by decide), up_oc (show (2 : Nat) ≠ 35 by decide), up_oc (show (2 : Nat) ≠ 35 by decide), up_oc (show (2 : Nat) ≠ 35 by decide), up_oc (show (2 : Nat) ≠ 35 by decide)]
  rw [ckk 9 9 _ rfl (by decide), lt_e, ckk 10 10 _ rfl (by decide), lt_e, ckk 11 11 _ rfl (by decide), lt_e, show ix (9 : Int32) = 9 from rfl, show ix (10 : Int32) = 10 from rfl, show ix (11 : Int32) = 11 from rfl]
  refine ⟨_, rfl, fun v hv => ?_, fun b hb => ?_⟩
  · have h12 : v = 0 ∨ v = 1 ∨ v = 2 ∨ v = 3 ∨ v = 4 ∨ v = 5 ∨ v = 6 ∨ v = 7 ∨ v = 8 ∨ v = 9 ∨ v = 10 ∨ v = 11 := by omega
    rcases h12 with e | e | e | e | e | e | e | e | e | e | e | e <;> subst e <;> simp [up_at, KV]
  · rw [up_cell hb, up_cell hb, up_cell hb, up_cell hb, up_cell hb, up_cell hb, up_cell hb, up_cell hb, up_cell hb, up_cell hb, up_cell hb, up_cell hb]
theorem tb124 {A : Nat → Prop} {H : Nat} {hc hm : PH} (t : TW A H hc hm) (c j : Nat) (v : Int32) (h4 : c ≠ 104 ∧ c ≠ 105 ∧ c ≠ 108 ∧ c ≠ 109) : TW A H hc (up hm c j v) := tb_of t rfl rfl (up_oc (fun z => h4.1 z.symm)) (up_cell (fun z => h4.2.1 z.symm)) (up_cell (fun z => h4.2.2.1 z.symm)) (up_cell (fun z => h4.2.2.2 z.symm))
theorem as_at {H : Nat} {hc hm : PH} (t : TW AA H hc hm) {i w : Nat} (hi : i < H) (hw : w < 4) : ∃ g, mm_asks (nI i) (hc 2 (11 * i + w)) hm = some g ∧ (∀ v, v < 12 → g 124 v = KV hc i w v) ∧ ∀ b, b ≠ 124 → g b = hm b := by
  have h12 := t.1
  have ckk : ∀ (k : Int32) (n : Nat) (q : Option PH), k = nI n → n < 12 → ck k 12 q = q := fun k n q e h => by rw [e, ck_nI h (by decide)]
  have cki : ∀ (q : Option PH), ck (nI i) 12 q = q := fun q => ck_nI (by omega) (by decide)
  have ixi : ix (nI i) = i := nI_clamp (by omega)
  have ckc : ∀ (n : Nat) (q : Option PH), n + i < 115 → ck (nI (n + i)) 115 q = q := fun n q h => ck_nI h (by decide)
  have ixc : ∀ n : Nat, n < 104 → ix (nI (n + i)) = n + i := fun n h => nI_clamp (by omega)
  have ck5 : ∀ (k : Int32) (n : Nat) (q : Option PH), k = nI n → n < 115 → ck k 115 q = q := fun k n q e h => by rw [e, ck_nI h (by decide)]
  unfold mm_asks
  rw [ckk 0 0 _ rfl (by decide), lt_e, show ix (0 : Int32) = 0 from rfl]
  have t1 := tb124 t 124 0 (hc 2 (11 * i + w)) (by decide)
  rw [suM t1 hi, bd_e, ckk 1 1 _ rfl (by decide), lt_e, show ix (1 : Int32) = 1 from rfl, cki, ckk 2 2 _ rfl (by decide), lt_e, cki, ckk 3 3 _ rfl (by decide), lt_e, show (55 : Int32) + nI i = nI (55 + i) from nI_add 55 i, show (67 : Int32) + nI i = nI (67 + i) from nI_add 67 i, show (79 : Int32) + nI i = nI (79 + i) from nI_add 79 i, show (91 : Int32) + nI i = nI (91 + i) from nI_add 91 i, show (103 : Int32) + nI i = nI (103 + i) from nI_add 103 i, ckc 55 _ (by omega), ckk 4 4 _ rfl (by decide), lt_e, ckc 67 _ (by omega), ckk 5 5 _ rfl (by decide), lt_e, ckc 79 _ (by omega), ckk 6 6 _ rfl (by decide), lt_e, ckc 91 _ (by omega), ckk 7 7 _ rfl (by decide), lt_e, ckc 103 _ (by omega), ckk 8 8 _ rfl (by decide), lt_e, ck5 3 3 _ rfl (by decide), ckk 9 9 _ rfl (by decide), lt_e, ck5 4 4 _ rfl (by decide), ckk 10 10 _ rfl (by decide), lt_e, ck5 0 0 _ rfl (by decide), ckk 11 11 _ rfl (by decide), lt_e]
  rw [ixi, ixc 55 (by decide), ixc 67 (by decide), ixc 79 (by decide), ixc 91 (by decide), ixc 103 (by decide), show ix (2 : Int32) = 2 from rfl, show ix (3 : Int32) = 3 from rfl, show ix (4 : Int32) = 4 from rfl, show ix (5 : Int32) = 5 from rfl, show ix (6 : Int32) = 6 from rfl, show ix (7 : Int32) = 7 from rfl, show ix (8 : Int32) = 8 from rfl, show ix (9 : Int32) = 9 from rfl, show ix (10 : Int32) = 10 from rfl, show ix (11 : Int32) = 11 from rfl]
  obtain ⟨m4, m5, m6, m7, m8, m9, m10'⟩ := colM t hi
  have m10 := m10' trivial
  have f2 := t.2.2.2.1 2 (by decide) (by decide)
  have f3 := t.2.2.2.1 3 (by decide) (by decide)
  have f6 := t.2.2.2.1 6 (by decide) (by decide)
  have f2 : hc 1 2 = hm 105 3 := f2
  have f3 : hc 1 3 = hm 105 4 := f3
  have f6 : hc 1 6 = hm 105 0 := f6
  refine ⟨_, rfl, fun v hv => ?_, fun b hb => ?_⟩
  · have h12 : v = 0 ∨ v = 1 ∨ v = 2 ∨ v = 3 ∨ v = 4 ∨ v = 5 ∨ v = 6 ∨ v = 7 ∨ v = 8 ∨ v = 9 ∨ v = 10 ∨ v = 11 := by omega
    rcases h12 with e | e | e | e | e | e | e | e | e | e | e | e <;> subst e <;> simp [up_at, KV, m4, m5, m6, m7, m8, m9, m10, f2, f3, f6]
  · rw [up_cell hb, up_cell hb, up_cell hb, up_cell hb, up_cell hb, up_cell hb, up_cell hb, up_cell hb, up_cell hb, up_cell hb, up_cell hb, up_cell hb]
theorem he_e (y : Int32) (m : Nat) (hm : m = 99 ∨ m = 1000) (h g : PH) : mW_held y (nI m) h = some (imax 0 (imin (nI m) y)) ∧ mm_held y 0 (nI m) g = some (imax 0 (imin (nI m) y)) := by
  refine ⟨rfl, ?_⟩
  have mt : (nI m).toInt = (m : Int) := nI_toInt (by omega)
  have z : (0 : Int32).toInt = 0 := rfl
  unfold mm_held imax imin
  by_cases c1 : (0 : Int32) ≤ y
  · rw [if_pos c1]
    rw [Int32.le_iff_toInt_le, z] at c1
    by_cases c2 : y ≤ nI m
    · rw [if_pos c2]
      rw [Int32.le_iff_toInt_le, mt] at c2
      have e : (if y < nI m then y else nI m) = y := by
        by_cases c3 : y < nI m
        · rw [if_pos c3]
        · rw [if_neg c3]
          rw [Int32.lt_iff_toInt_lt, mt] at c3
          exact Int32.toInt_inj.mp (by rw [mt]; omega)
      rw [e]
      by_cases c4 : (0 : Int32) < y
      · rw [if_pos c4]
      · rw [if_neg c4]
        rw [Int32.lt_iff_toInt_lt, z] at c4
        have : y = 0 := Int32.toInt_inj.mp (by rw [z]; omega)
        rw [this]
    · rw [if_neg c2]
      rw [Int32.le_iff_toInt_le, mt] at c2
      have c3 : ¬ y < nI m := by rw [Int32.lt_iff_toInt_lt, mt]; omega
      rw [if_neg c3, if_pos (by rw [Int32.lt_iff_toInt_lt, mt, z]; omega)]
  · rw [if_neg c1]
    rw [Int32.le_iff_toInt_le, z] at c1
    have c3 : y < nI m := by rw [Int32.lt_iff_toInt_lt, mt]; omega
    rw [if_pos c3, if_neg (by rw [Int32.lt_iff_toInt_lt, z]; omega)]
theorem at_6 {h : PH} {m r c : Nat} (c1 : h 6 1 = 5) (c3 : h 6 3 = nI m) (hm : m ≤ 16) (hr : r < m) (hc : c < 5) : mR_at 6 (nI r) (nI c) h = some (h 7 (5 * r + c)) := by
  unfold mR_at
  rw [if_neg (nI_pos (by omega)), c3, if_neg (nI_ge hr (by omega)), if_neg (nI_pos (by omega)), c1, if_pos (show nI c < (5 : Int32) from nI_lt (b := 5) hc (by decide)), show nI r * (5 : Int32) = nI (r * 5) from nI_mul r 5, nI_add, show ln (6 + 1) = 80 from rfl, ck_nI (by omega) (by decide), show ix (nI (r * 5 + c)) = r * 5 + c from nI_clamp (by omega), Nat.mul_comm r 5]
def F3c (h g : PH) : Prop := ∀ b, b ≠ 34 → b ≠ 35 → b ≠ 36 → g b = h b
def F2m (h g : PH) : Prop := ∀ b, b ≠ 124 → b ≠ 125 → g b = h b
/-- a part of a line, run on both sides -/
theorem rn_2 {Ls : LNS} {hc hm gc gm : PH} (l : LW Ls hc hm) (fc : F3c hc gc) (fm : F2m hm gm) {K : Nat → Int32} (kc : ∀ v, v < 12 → gc 35 v = K v) (km : ∀ v, v < 12 → gm 124 v = K v) {P A R : List (Nat × Nat)} (e : cdo Ls = P ++ (A ++ R)) {T : Int32 → Prop} {n : Nat} (n64 : n ≤ 64) (q : Qv T n A) : ∃ x gc' gm', T x ∧ mW_run (nI P.length) (nI (P.length + A.length)) gc = some (x, gc') ∧ mm_runs 0 (nI (xp P).length) (nI ((xp P).length + (xp A).length)) gm = some (x, gm') ∧ F3c hc gc' ∧ gc' 35 = gc 35 ∧ F2m hm gm' ∧ gm' 124 = gm 124 := by
  obtain ⟨l1, l2, l3, ⟨a1, a2, a3, a4, a5, a6⟩, ⟨b1, b2, b3⟩⟩ := l
  obtain ⟨ok, f, f1, f2⟩ := q
  have le := xp_le (cdo Ls)
  have kk : ∀ C : List (Nat × Nat), (∀ c, c ∈ C → okC c) → ∀ K' : Nat → Int32, (∀ v, v < 12 → K' v = K v) → ∀ st, evC K' C st = evC K C st := fun C hC K' hK => by
    induction C with
    | nil => intro st; rfl
    | cons c C ih =>
      intro st
      have o := hC c List.mem_cons_self
      have e1 : s1C K' c st = s1C K c st := by
        unfold s1C
        by_cases c1 : c.1 = 1
        · rw [if_neg (show ¬ c.1 = 0 by omega), if_pos c1, if_neg (show ¬ c.1 = 0 by omega), if_pos c1, hK _ (o.2.2.1 c1)]
        · rw [if_neg c1, if_neg c1]
      rw [evC, evC, e1]
      cases s1C K c st with
      | none => rfl
      | some x => rw [bd_e, bd_e]; exact ih (fun c hc => hC c (List.mem_cons_of_mem _ hc)) x
  have km' : ∀ C : List (Nat × Nat), (∀ c, c ∈ C → okC c) → ∀ K' : Nat → Int32, (∀ v, v < 12 → K' v = K v) → ∀ st, evM K' (xp C) st = evM K (xp C) st := fun C hC K' hK => by
    have s1 : ∀ (k v : Nat) (st : List Int32), (k = 1 → v < 12) → s1M K' (k, v) st = s1M K (k, v) st := fun k v st hv => by
      unfold s1M
      by_cases c1 : k = 1
      · have c1' : (k, v).1 = 1 := c1
        rw [if_neg (by omega), if_pos c1', if_neg (by omega), if_pos c1', hK _ (hv c1)]
      · have c1' : ¬ (k, v).1 = 1 := c1
        rw [if_neg c1', if_neg c1']
    induction C with
    | nil => intro st; rfl
    | cons c C ih =>
      intro st
      obtain ⟨k, v⟩ := c
      have o := hC (k, v) List.mem_cons_self
      have ih' := ih (fun c hc => hC c (List.mem_cons_of_mem _ hc))
      rw [xp]
      split
      · rw [evM, evM, s1 0 v st (fun z => by cases z)]
        cases s1M K (0, v) st with
        | none => rfl
        | some x =>
          rw [bd_e, bd_e, evM, evM, s1 5 0 x (fun z => by cases z)]
          cases s1M K (5, 0) x with
          | none => rfl
          | some y => rw [bd_e, bd_e]; exact ih' y
      · rw [evM, evM, s1 k v st o.2.2.1]
        cases s1M K (k, v) st with
        | none => rfl
        | some x => rw [bd_e, bd_e]; exact ih' x
  have fe := f2 K [] (by simp; omega)
  have g8 : gc 8 = hc 8 := fc 8 (by decide) (by decide) (by decide)
  have g9 : gc 9 = hc 9 := fc 9 (by decide) (by decide) (by decide)
  have len : P.length + A.length ≤ (cdo Ls).length := by rw [e, List.length_append, List.length_append]; omega
  have lenx : (xp P).length + (xp A).length ≤ (xp (cdo Ls)).length := by rw [e, xp_app, xp_app, List.length_append, List.length_append]; omega
  rw [e] at a5 b2
  obtain ⟨gc', u1, u2⟩ := wrun_1 (m := (cdo Ls).length) (by omega) (C := A) (p := P.length) (h := gc) (x := f K) (by rw [g8]; exact a3) (by rw [g8]; exact a4) len ok (fun j k v hj => by rw [g9]; exact cdc_sub a5 j k v hj) (by rw [kk A ok _ kc]; exact fe.1)
  obtain ⟨gm', w1, w2⟩ := mrun_1 (C := A) (p := (xp P).length) (h := gm) (x := f K) (by omega) ok (fun j k v hj => by rw [fm 118 (by decide) (by decide), fm 119 (by decide) (by decide)]; exact cdm_sub b2 j k v hj) (by rw [km' A ok _ km]; exact fe.2)
  exact ⟨f K, gc', gm', f1 K, u1, w1, fun b b1 b2 b3 => by rw [u2 b b1 b3, fc b b1 b2 b3], u2 35 (by decide) (by decide), fun b b1 b2 => by rw [w2 b b2, fm b b1 b2], w2 124 (by decide)⟩
end
section
/-! THE LAW TELLS alike: line after line -/
theorem xl_eq (D W : List (Nat × Nat)) : (xp (D ++ W)).length = (xp D).length + (xp W).length := by rw [xp_app, List.length_append]
theorem lo_loop {Ls : LNS} {H : Nat} {hc hm : PH} (l : LW Ls hc hm) (t : TW AA H hc hm) {i w word : Nat} (hi : i < H) (hw : w < 4) (hwd : word < 3) (p5 : Int32) : ∀ (n nM r : Nat) (fl : Int32) (gc gm : PH), 17 < n + r → 17 < nM + r → r ≤ Ls.length → (fl = 0 ∨ (fl = 1 ∧ ∀ v, v < 12 → gc 35 v = KV hc i w v)) → F3c hc gc → F2m hm gm → (∀ v, v < 12 → gm 124 v = KV hc i w v) →
    (∃ q wd A W gc' gm', Ls[q]? = some (wd, A, W) ∧ (∀ k0 k1, mW_tells_L22 1 (nI i) (nI w) (nI word) p5 k0 k1 n fl (nI r) gc = k0 (nI q) gc') ∧ mm_lineOf_L2 (nI word) nM (nI r) gm = some (nI q, gm') ∧ (∀ v, v < 12 → gc' 35 v = KV hc i w v) ∧ (∀ v, v < 12 → gm' 124 v = KV hc i w v) ∧ F3c hc gc' ∧ F2m hm gm') ∨
    (∃ gc' gm', (∀ k0 k1, mW_tells_L22 1 (nI i) (nI w) (nI word) p5 k0 k1 n fl (nI r) gc = k1 gc') ∧ mm_lineOf_L2 (nI word) nM (nI r) gm = some (-1, gm') ∧ F3c hc gc' ∧ F2m hm gm') := by
  intro n
  have l16 := l.1
  have l400 := l.2.1
  have le4 := xp_le (cdo Ls)
  induction n with
  | zero => intro nM r fl gc gm h1 h2 h3; omega
  | succ n ih =>
    intro nM r fl gc gm h1 h2 h3 hf fc fm km
    cases nM with
    | zero => omega
    | succ nM =>
    have lc := lwc_of l.2.2.2.1 (g := gc) (fun b b1 b2 => fc b (by omega) (by omega) (by omega))
    have lm := lwm_of l.2.2.2.2 (g := gm) (fun b b1 b2 => fm b (by omega) (by omega))
    have ck0 : ∀ (q : Option (Int32 × PH)), ck 0 2 q = q := fun q => ck_nI (i := 0) (by decide) (by decide)
    have ml : ∀ K : Prop, True := fun _ => trivial
    by_cases c : r = Ls.length
    · refine Or.inr ⟨gc, gm, fun k0 k1 => ?_, ?_, fc, fm⟩
      · rw [mW_tells_L22, lc.2.1, if_pos (nI_le (by omega) (by omega))]
      · rw [mm_lineOf_L2, ck0, show ix (0 : Int32) = 0 from rfl, lm.1, if_pos (nI_le (by omega) (by omega))]
    · have hr : r < Ls.length := by omega
      obtain ⟨⟨wd, A, W⟩, hl⟩ : ∃ x, Ls[r]? = some x := ⟨Ls[r], List.getElem?_eq_getElem hr⟩
      obtain ⟨c0, c1, c2, c3⟩ := lc.2.2.2.2.2 r wd A W hl
      obtain ⟨m0, m1, m2, m3⟩ := lm.2.2 r wd A W hl
      obtain ⟨R, eR⟩ := cdo_at hl
      have lq := l.2.2.1 (wd, A, W) (List.mem_of_getElem? hl)
      have wd3 : wd < 3 := lq.1
      have ckr : ∀ (q : Option (Int32 × PH)), ck (nI r) 48 q = q := fun q => ck_nI (by omega) (by decide)
      have ixr : ix (nI r) = r := nI_clamp (by omega)
      have at0 : mR_at 6 (nI r) 0 gc = some (nI wd) := by
        have := at_6 (c := 0) lc.1 lc.2.1 l16 hr (by decide)
        rw [Nat.add_zero, c0] at this
        exact this
      have lenP : (cdo (Ls.take r) ++ A ++ W).length ≤ (cdo Ls).length := by rw [eR]; simp only [List.length_append]; omega
      have lenX : (xp (cdo (Ls.take r) ++ A ++ W)).length ≤ (xp (cdo Ls)).length := by rw [eR, xl_eq, xl_eq, xl_eq, xl_eq, xl_eq]; omega
      by_cases ew : wd = word
      · -- a line of this word
        have ga : ∃ g, (∀ K : Int32 → PH → Option (Int32 × PH), (if fl = 0 then bd (mW_gather 1 (nI i) (nI w) gc) fun h9 => K 1 h9 else K fl gc) = K 1 g) ∧ (∀ v, v < 12 → g 35 v = KV hc i w v) ∧ F3c hc g := by
          rcases hf with e | ⟨e, kc⟩
          · have tg : TW AA H gc hm := tb_of t (fc 1 (by decide) (by decide) (by decide)) (fc 2 (by decide) (by decide) (by decide)) rfl rfl rfl rfl
            obtain ⟨g, g1, g2, g3⟩ := ga_at tg hi hw
            refine ⟨g, fun K => by rw [if_pos e, g1, bd_e], fun v hv => ?_, fun b b1 b2 b3 => by rw [g3 b b2, fc b b1 b2 b3]⟩
            rw [g2 v hv]
            unfold KV sm4
            rw [fc 1 (by decide) (by decide) (by decide), fc 2 (by decide) (by decide) (by decide)]
          · exact ⟨gc, fun K => by rw [e, if_neg (by decide)], kc, fc⟩
        obtain ⟨g, g1, kc, fg⟩ := ga
        have lg := lwc_of l.2.2.2.1 (g := g) (fun b b1 b2 => fg b (by omega) (by omega) (by omega))
        have at2 : mR_at 6 (nI r) 2 g = some (nI (cdo (Ls.take r) ++ A).length) := by
          have := at_6 (c := 2) lg.1 lg.2.1 l16 hr (by decide)
          rw [(lg.2.2.2.2.2 r wd A W hl).2.2.1] at this
          exact this
        have at3 : mR_at 6 (nI r) 3 g = some (nI (cdo (Ls.take r) ++ A ++ W).length) := by
          have := at_6 (c := 3) lg.1 lg.2.1 l16 hr (by decide)
          rw [(lg.2.2.2.2.2 r wd A W hl).2.2.2] at this
          exact this
        have cls : ∀ k0 k1, mW_tells_L22 1 (nI i) (nI w) (nI word) p5 k0 k1 (n + 1) fl (nI r) gc = bd2 (mW_applies (nI r) g) fun r7 h8 => if r7 = 0 then mW_tells_L22 1 (nI i) (nI w) (nI word) p5 k0 k1 n 1 (nI (r + 1)) h8 else k0 (nI r) h8 := fun k0 k1 => by
          rw [mW_tells_L22, lc.2.1, if_neg (nI_ge hr (by omega)), at0, bd_e, if_pos (by rw [ew]), jn2_e, nI_1]
          exact g1 (fun (x5 : Int32) (h6 : PH) => bd2 (mW_applies (nI r) h6) fun r7 h8 => if r7 = 0 then mW_tells_L22 1 (nI i) (nI w) (nI word) p5 k0 k1 n x5 (nI (r + 1)) h8 else k0 (nI r) h8)
        have mdl : mm_lineOf_L2 (nI word) (nM + 1) (nI r) gm = if nI (xp (cdo (Ls.take r) ++ A)).length = nI (xp (cdo (Ls.take r) ++ A ++ W)).length then some (nI r, gm) else bd2 (mm_runs 0 (nI (xp (cdo (Ls.take r) ++ A)).length) (nI (xp (cdo (Ls.take r) ++ A ++ W)).length) gm) fun r1 h2 => if r1 = 0 then mm_lineOf_L2 (nI word) nM (nI (r + 1)) h2 else some (nI r, h2) := by
          rw [mm_lineOf_L2, ck0, show ix (0 : Int32) = 0 from rfl, lm.1, if_neg (nI_ge hr (by omega)), ckr, ixr, m0, if_pos (by rw [ew]), ckr, ckr, m2, m3, ckr, ckr, nI_1]
        by_cases w0 : W = []
        · subst w0
          rw [List.append_nil] at at3 mdl
          refine Or.inl ⟨r, wd, A, [], g, gm, hl, fun k0 k1 => ?_, ?_, kc, km, fg, fm⟩
          · rw [cls]
            unfold mW_applies
            rw [at2, bd_e, at3, bd_e, if_pos (nI_le (Nat.le_refl _) (by simp only [List.append_nil] at lenP; omega)), bd2_e, if_neg no10]
          · rw [mdl, if_pos rfl]
        · have qW : Qv P01 22 W := by
            rcases lq.2.2 with z | z
            · exact absurd z w0
            · exact z.2
          have wl : 0 < W.length := by
            cases W with
            | nil => exact absurd rfl w0
            | cons a b => rw [List.length_cons]; omega
          have xwl := xp_le W
          have lp : (cdo (Ls.take r) ++ A ++ W).length = (cdo (Ls.take r) ++ A).length + W.length := List.length_append
          have lpx : (xp (cdo (Ls.take r) ++ A ++ W)).length = (xp (cdo (Ls.take r) ++ A)).length + (xp W).length := xl_eq _ _
          obtain ⟨x, gc', gm', px, u1, u2, u3, u4, u5, u6⟩ := rn_2 l fg fm kc km (P := cdo (Ls.take r) ++ A) (A := W) (R := R) (by rw [eR]; simp only [List.append_assoc]) (by decide) qW
          have ap : mW_applies (nI r) g = some (if x = 0 then 0 else 1, gc') := by
            unfold mW_applies
            rw [at2, bd_e, at3, bd_e, if_neg (nI_ge (by omega) (by omega)), lp, u1, bd2_e]
            split <;> rfl
          rw [if_neg (fun z => by have := (nI_eq (by omega) (by omega)).mp z; omega), lpx, u2, bd2_e] at mdl
          have kc' : ∀ v, v < 12 → gc' 35 v = KV hc i w v := fun v hv => by rw [u4]; exact kc v hv
          have km' : ∀ v, v < 12 → gm' 124 v = KV hc i w v := fun v hv => by rw [u6]; exact km v hv
          by_cases x0 : x = 0
          · rw [if_pos x0] at mdl
            have cls' : ∀ k0 k1, mW_tells_L22 1 (nI i) (nI w) (nI word) p5 k0 k1 (n + 1) fl (nI r) gc = mW_tells_L22 1 (nI i) (nI w) (nI word) p5 k0 k1 n 1 (nI (r + 1)) gc' := fun k0 k1 => by
              rw [cls, ap, bd2_e, if_pos x0, if_pos rfl]
            rcases ih nM (r + 1) 1 gc' gm' (by omega) (by omega) (by omega) (Or.inr ⟨rfl, kc'⟩) u3 u5 km' with ⟨q, wd', A', W', gc2, gm2, a1, a2, a3, a4, a5, a6, a7⟩ | ⟨gc2, gm2, a1, a2, a3, a4⟩
            · exact Or.inl ⟨q, wd', A', W', gc2, gm2, a1, fun k0 k1 => by rw [cls', a2], by rw [mdl, a3], a4, a5, a6, a7⟩
            · exact Or.inr ⟨gc2, gm2, fun k0 k1 => by rw [cls', a1], by rw [mdl, a2], a3, a4⟩
          · rw [if_neg x0] at mdl
            exact Or.inl ⟨r, wd, A, W, gc', gm', hl, fun k0 k1 => by rw [cls, ap, bd2_e, if_neg x0, if_neg no10], mdl, kc', km', u3, u5⟩
      · have nw : ¬ nI wd = nI word := fun z => ew ((nI_eq (by omega) (by omega)).mp z)
        rcases ih nM (r + 1) fl gc gm (by omega) (by omega) (by omega) hf fc fm km with ⟨q, wd', A', W', gc2, gm2, a1, a2, a3, a4, a5, a6, a7⟩ | ⟨gc2, gm2, a1, a2, a3, a4⟩
        · refine Or.inl ⟨q, wd', A', W', gc2, gm2, a1, fun k0 k1 => ?_, ?_, a4, a5, a6, a7⟩
          · rw [mW_tells_L22, lc.2.1, if_neg (nI_ge hr (by omega)), at0, bd_e, if_neg nw, nI_1, a2]
          · rw [mm_lineOf_L2, ck0, show ix (0 : Int32) = 0 from rfl, lm.1, if_neg (nI_ge hr (by omega)), ckr, ixr, m0, if_neg nw, nI_1, a3]
        · refine Or.inr ⟨gc2, gm2, fun k0 k1 => ?_, ?_, a3, a4⟩
          · rw [mW_tells_L22, lc.2.1, if_neg (nI_ge hr (by omega)), at0, bd_e, if_neg nw, nI_1, a1]
          · rw [mm_lineOf_L2, ck0, show ix (0 : Int32) = 0 from rfl, lm.1, if_neg (nI_ge hr (by omega)), ckr, ixr, m0, if_neg nw, nI_1, a2]
def mst2 (word : Nat) : Nat := if word = 1 then 1000 else 99
def cus (h : PH) (i word : Nat) : Int32 := if word = 0 then 4 + (2 * h 2 (11 * i + 7)) else if word = 1 then 300 - (30 * h 2 (11 * i + 6)) else h 1 2 - h 2 (11 * i + 6)
theorem r_held (m : Nat) (hm : m = 99 ∨ m = 1000) (y : Int32) : R 0 (m : Int) (imax 0 (imin (nI m) y)) := by
  have mt : (nI m).toInt = (m : Int) := nI_toInt (by omega)
  have z : (0 : Int32).toInt = 0 := rfl
  unfold imax imin R
  split
  · rename_i c
    rw [Int32.lt_iff_toInt_lt, mt] at c
    split
    · rename_i d
      rw [Int32.lt_iff_toInt_lt, z] at d
      omega
    · rw [z]; omega
  · split
    · rw [mt]; omega
    · rw [z]; omega
/-- what the law tells of a house's wall, by one word -/
theorem te_sim {Ls : LNS} {H : Nat} {hc hm : PH} (l : LW Ls hc hm) (t : TW AA H hc hm) {i w word : Nat} (hi : i < H) (hw : w < 4) (hwd : word < 3) : ∃ v gc gm, R 0 (mst2 word : Int) v ∧ mW_tells 1 (nI i) (nI w) (nI word) hc = some (v, gc) ∧ (bd (mm_asks (nI i) (hc 2 (11 * i + w)) hm) fun h2 => mm_lawTells (nI word) (cus hc i word) (nI (mst2 word)) h2) = some (v, gm) ∧ F3c hc gc ∧ F2m hm gm := by
  have m99 : mst2 word = 99 ∨ mst2 word = 1000 := by unfold mst2; split <;> omega
  have l16 := l.1
  have le4 := xp_le (cdo Ls)
  have l400 := l.2.1
  obtain ⟨ha, s1, s2, s3⟩ := as_at t hi hw
  rw [s1, bd_e]
  have fa : F2m hm ha := fun b b1 _ => s3 b b1
  have tl : mW_tells 1 (nI i) (nI w) (nI word) hc = mW_tells_L22 1 (nI i) (nI w) (nI word) (nI (mst2 word)) (fun (x10 : Int32) (h11 : PH) => bd (mR_at 6 x10 1 h11) fun r12 => bd (mR_at 6 x10 2 h11) fun r13 => bd2 (mW_run r12 r13 h11) fun r14 h15 => bd (mW_held r14 (nI (mst2 word)) h15) fun r16 => some (r16, h15)) (fun (h17 : PH) => bd (mW_customary 1 (nI i) (nI word) h17) fun r18 => bd (mW_held r18 (nI (mst2 word)) h17) fun r19 => some (r19, h17)) FU 0 (nI 0) hc := by
    unfold mW_tells
    rw [jn1_e, nI_0]
    have : word = 0 ∨ word = 1 ∨ word = 2 := by omega
    rcases this with e | e | e <;> subst e
    · rw [if_neg (by decide)]
      rfl
    · rw [if_pos (show nI 1 = (1 : Int32) from rfl)]
      rfl
    · rw [if_neg (by decide)]
      rfl
  rw [tl]
  unfold mm_lawTells mm_lineOf
  rw [← nI_0]
  rcases lo_loop l t hi hw hwd (nI (mst2 word)) FU FU 0 (nI 0) hc ha (by unfold FU; omega) (by unfold FU; omega) (Nat.zero_le _) (Or.inl nI_0) (fun _ _ _ _ => rfl) fa s2 with ⟨q, wd, A, W, gc, gm, a1, a2, a3, a4, a5, a6, a7⟩ | ⟨gc, gm, a1, a2, a3, a4⟩
  · obtain ⟨hq, _⟩ := List.getElem?_eq_some_iff.mp a1
    have lc := lwc_of l.2.2.2.1 (g := gc) (fun b b1 b2 => a6 b (by omega) (by omega) (by omega))
    have lm := lwm_of l.2.2.2.2 (g := gm) (fun b b1 b2 => a7 b (by omega) (by omega))
    obtain ⟨R, eR⟩ := cdo_at a1
    have lq := l.2.2.1 (wd, A, W) (List.mem_of_getElem? a1)
    have at1 : mR_at 6 (nI q) 1 gc = some (nI (cdo (Ls.take q)).length) := by
      have := at_6 (c := 1) lc.1 lc.2.1 l16 hq (by decide)
      rw [(lc.2.2.2.2.2 q wd A W a1).2.1] at this
      exact this
    have at2 : mR_at 6 (nI q) 2 gc = some (nI (cdo (Ls.take q) ++ A).length) := by
      have := at_6 (c := 2) lc.1 lc.2.1 l16 hq (by decide)
      rw [(lc.2.2.2.2.2 q wd A W a1).2.2.1] at this
      exact this
    obtain ⟨m0, m1, m2, m3⟩ := lm.2.2 q wd A W a1
    have ckq : ∀ (z : Option (Int32 × PH)), ck (nI q) 48 z = z := fun z => ck_nI (by omega) (by decide)
    have ixq : ix (nI q) = q := nI_clamp (by omega)
    obtain ⟨x, gc', gm', px, u1, u2, u3, u4, u5, u6⟩ := rn_2 l a6 a7 a4 a5 (P := cdo (Ls.take q)) (A := A) (R := W ++ R) eR (by decide) lq.2.1
    obtain ⟨e1, e2⟩ := he_e x (mst2 word) m99 gc' gm'
    refine ⟨imax 0 (imin (nI (mst2 word)) x), gc', gm', r_held _ m99 x, ?_, ?_, u3, u5⟩
    · rw [a2, at1, bd_e, at2, bd_e, List.length_append, u1, bd2_e, e1, bd_e]
    · rw [a3, bd2_e, jn2_e, if_neg (nI_nm1 (by omega)), ckq, ckq, ixq, m1, m2, xl_eq, nI_0, u2, bd2_e]
      try dsimp only
      rw [e2, bd_e]
  · have tg : TW AA H gc hm := tb_of t (a3 1 (by decide) (by decide) (by decide)) (a3 2 (by decide) (by decide) (by decide)) rfl rfl rfl rfl
    have g1 := a3 1 (by decide) (by decide) (by decide)
    have g2 := a3 2 (by decide) (by decide) (by decide)
    have cu : mW_customary 1 (nI i) (nI word) gc = some (cus hc i word) := by
      unfold mW_customary cus
      have : word = 0 ∨ word = 1 ∨ word = 2 := by omega
      rcases this with e | e | e <;> subst e
      · rw [if_pos (show nI 0 = (0 : Int32) from rfl), show mB_read 1 (nI i) 7 gc = _ from rdB tg hi (c := 7) (by decide), bd_e, g2]
        rfl
      · rw [if_neg (by decide), if_pos (show nI 1 = (1 : Int32) from rfl), show mB_read 1 (nI i) 6 gc = _ from rdB tg hi (c := 6) (by decide), bd_e, g2]
        rfl
      · rw [if_neg (by decide), if_neg (by decide), show mB_read 1 (nI i) 6 gc = _ from rdB tg hi (c := 6) (by decide), bd_e, g2, g1]
        rfl
    obtain ⟨e1, e2⟩ := he_e (cus hc i word) (mst2 word) m99 gc gm
    refine ⟨imax 0 (imin (nI (mst2 word)) (cus hc i word)), gc, gm, r_held _ m99 _, ?_, ?_, a3, a4⟩
    · rw [a1, cu, bd_e, e1, bd_e]
    · rw [a2, bd2_e, jn2_e, if_pos rfl]
      try dsimp only
      rw [nI_0, e2, bd_e]
/-- rent, rats, rain of a house -/
theorem te_rent {Ls : LNS} {H : Nat} {hc hm : PH} (l : LW Ls hc hm) (t : TW AA H hc hm) {i w : Nat} (hi : i < H) (hw : w < 4) (th : mm_thickest (nI i) hm = some (nI w)) : ∃ v gc gm, R 0 99 v ∧ mW_tells 1 (nI i) (nI w) 0 hc = some (v, gc) ∧ mm_rentOf (nI i) hm = some (v, gm) ∧ F3c hc gc ∧ F2m hm gm := by
  have h12 := t.1
  obtain ⟨v, gc, gm, r1, r2, r3, r4, r5⟩ := te_sim l t hi hw (word := 0) (by decide)
  refine ⟨v, gc, gm, r1, r2, ?_, r4, r5⟩
  obtain ⟨ha, s1, s2, s3⟩ := as_at t hi hw
  rw [s1, bd_e] at r3
  unfold mm_rentOf
  rw [th, bd_e, wlM t hi hw, bd_e, s1, bd_e, show (79 : Int32) + nI i = nI (79 + i) from nI_add 79 i, ck_nI (by omega) (by decide), show ix (nI (79 + i)) = 79 + i from nI_clamp (by omega), s3 105 (by decide), (colM t hi).2.2.2.1]
  rw [show mm_lawTells 0 (4 + 2 * hc 2 (11 * i + 7)) 99 ha = _ from r3, bd2_e]
theorem te_gnaw {Ls : LNS} {H : Nat} {hc hm : PH} (l : LW Ls hc hm) (t : TW AA H hc hm) {i w : Nat} (hi : i < H) (hw : w < 4) : ∃ v gc gm, R 0 1000 v ∧ mW_tells 1 (nI i) (nI w) 1 hc = some (v, gc) ∧ mm_gnawsOf (nI i) (nI w) hm = some (v, gm) ∧ F3c hc gc ∧ F2m hm gm := by
  have h12 := t.1
  obtain ⟨v, gc, gm, r1, r2, r3, r4, r5⟩ := te_sim l t hi hw (word := 1) (by decide)
  refine ⟨v, gc, gm, r1, r2, ?_, r4, r5⟩
  obtain ⟨ha, s1, s2, s3⟩ := as_at t hi hw
  rw [s1, bd_e] at r3
  unfold mm_gnawsOf
  rw [wlM t hi hw, bd_e, s1, bd_e, show (55 : Int32) + nI i = nI (55 + i) from nI_add 55 i, ck_nI (by omega) (by decide), show ix (nI (55 + i)) = 55 + i from nI_clamp (by omega), s3 105 (by decide), (colM t hi).2.2.1]
  rw [show mm_lawTells 1 (300 - 30 * hc 2 (11 * i + 6)) 1000 ha = _ from r3, bd2_e]
theorem te_melt {Ls : LNS} {H : Nat} {hc hm : PH} (l : LW Ls hc hm) (t : TW AA H hc hm) {i w : Nat} (hi : i < H) (hw : w < 4) : ∃ v gc gm, R 0 99 v ∧ mW_tells 1 (nI i) (nI w) 2 hc = some (v, gc) ∧ mm_meltsOf (nI i) (nI w) hm = some (v, gm) ∧ F3c hc gc ∧ F2m hm gm := by
  have h12 := t.1
  obtain ⟨v, gc, gm, r1, r2, r3, r4, r5⟩ := te_sim l t hi hw (word := 2) (by decide)
  refine ⟨v, gc, gm, r1, r2, ?_, r4, r5⟩
  obtain ⟨ha, s1, s2, s3⟩ := as_at t hi hw
  have f2 : hc 1 2 = hm 105 3 := t.2.2.2.1 2 (by decide) (by decide)
  rw [s1, bd_e] at r3
  unfold mm_meltsOf
  rw [wlM t hi hw, bd_e, s1, bd_e, show ck 3 115 _ = _ from ck_nI (i := 3) (by decide) (by decide), show (55 : Int32) + nI i = nI (55 + i) from nI_add 55 i, ck_nI (by omega) (by decide), show ix (nI (55 + i)) = 55 + i from nI_clamp (by omega), show ix (3 : Int32) = 3 from rfl, s3 105 (by decide), (colM t hi).2.2.1, ← f2]
  rw [show mm_lawTells 2 (hc 1 2 - hc 2 (11 * i + 6)) 99 ha = _ from r3, bd2_e]
end
section
/-! WHAT HAPPENS in the town, on both sides: the book, lodgers, weddings, razing -/
theorem tb_2 {A : Nat → Prop} {H : Nat} {hc hm : PH} (t : TW A H hc hm) (v : Int32) : TW A H hc (up hm 105 2 v) := by
  obtain ⟨t1, t2, t3, t4, t5, t6⟩ := t
  refine ⟨t1, t2, by rw [up_oc (by decide)]; exact t3, fun f f1 f2 => ?_, fun i c hi hc' ha => ?_, t6⟩
  · rw [up_oj (sf_r f f2 f1).2.1]; exact t4 f f1 f2
  · obtain ⟨r1, r2, r3⟩ := mi_r i (by omega) c hc'
    by_cases e : mc c = 105
    · rw [e, up_oj (by have := r2 e; omega), ← e]; exact t5 i c hi hc' ha
    · rw [up_oc e]; exact t5 i c hi hc' ha
/-- the book -/
abbrev BKT := Nat × (Nat → Int32)
def BKr (B : BKT) (hc hm : PH) : Prop := ∃ n, n ≤ 150 ∧ hc 16 0 = 150 ∧ hc 16 1 = 4 ∧ hc 16 3 = nI n ∧ hm 105 2 = nI n ∧ (∀ j, j < 4 * n → hc 17 j = hm 110 j) ∧ B.1 ≤ n ∧ ∀ j, j < 4 * B.1 → hc 17 j = B.2 j
theorem bk_of {B : BKT} {hc hm gc gm : PH} (b : BKr B hc hm) (c6 : gc 16 = hc 16) (c7 : gc 17 = hc 17) (m2 : gm 105 2 = hm 105 2) (m10 : gm 110 = hm 110) : BKr B gc gm := by
  obtain ⟨n, n1, n2, n3, n4, n5, n6, n7⟩ := b
  exact ⟨n, n1, by rw [c6]; exact n2, by rw [c6]; exact n3, by rw [c6]; exact n4, by rw [m2]; exact n5, fun j hj => by rw [c7, m10]; exact n6 j hj, n7.1, fun j hj => by rw [c7]; exact n7.2 j hj⟩
theorem ad_16 {n : Nat} {h : PH} (c0 : h 16 0 = 150) (c1 : h 16 1 = 4) (c3 : h 16 3 = nI n) (hn : n < 150) (a b d e : Int32) : mR_add 16 a b d e 0 h = some (1, up (up (up (up (up h 17 (4 * n) a) 17 (4 * n + 1) b) 17 (4 * n + 2) d) 17 (4 * n + 3) e) 16 3 (nI (n + 1))) := by
  have k : ∀ j x, ∀ q : PH, up q 17 j x 16 1 = q 16 1 := fun j x q => up_oc (by decide)
  have k3 : ∀ j x, ∀ q : PH, up q 17 j x 16 3 = q 16 3 := fun j x q => up_oc (by decide)
  have xi : ∀ j, j < 5 → ix (nI (4 * n + j)) = 4 * n + j := fun j hj => nI_clamp (by omega)
  unfold mR_add
  rw [c3, c0, if_pos (show nI n < (150 : Int32) from nI_lt (b := 150) hn (by decide)), lt_e, c1, show nI n * (4 : Int32) = nI (n * 4) from nI_mul n 4, Nat.mul_comm n 4, show ln (16 + 1) = 600 from rfl, ck_nI (by omega) (by decide), lt_e, show ix (nI (4 * n)) = 4 * n from nI_clamp (by omega), jn1_e, k, c1, if_neg (by decide), nI_1, ck_nI (by omega) (by decide), lt_e, xi 1 (by decide)]
  dsimp only
  rw [jn1_e, k, k, c1, if_neg (by decide), show nI (4 * n) + (2 : Int32) = nI (4 * n + 2) from nI_add _ 2, ck_nI (by omega) (by decide), lt_e, xi 2 (by decide)]
  dsimp only
  rw [jn1_e, k, k, k, c1, if_neg (by decide), show nI (4 * n) + (3 : Int32) = nI (4 * n + 3) from nI_add _ 3, ck_nI (by omega) (by decide), lt_e, xi 3 (by decide)]
  dsimp only
  rw [jn1_e, k, k, k, k, c1, if_pos (by decide)]
  dsimp only
  rw [lt_e, k3, k3, k3, k3, c3, nI_1]
/-- frames: class and model, what a deed may change -/
def DC (h g : PH) : Prop := ∀ b, b ≠ 1 → b ≠ 2 → b ≠ 16 → b ≠ 17 → b ≠ 34 → b ≠ 35 → b ≠ 36 → g b = h b
def DM (h g : PH) : Prop := ∀ b, b ≠ 105 → b ≠ 110 → b ≠ 124 → b ≠ 125 → g b = h b
theorem dc_t {h g f : PH} (a : DC h g) (b : DC g f) : DC h f := fun x x1 x2 x3 x4 x5 x6 x7 => by rw [b x x1 x2 x3 x4 x5 x6 x7, a x x1 x2 x3 x4 x5 x6 x7]
theorem dm_t {h g f : PH} (a : DM h g) (b : DM g f) : DM h f := fun x x1 x2 x3 x4 => by rw [b x x1 x2 x3 x4, a x x1 x2 x3 x4]
theorem dc_r (h : PH) : DC h h := fun _ _ _ _ _ _ _ _ => rfl
theorem dm_r (h : PH) : DM h h := fun _ _ _ _ _ => rfl
/-- a line of the book -/
theorem nt_sim {B : BKT} {hc hm : PH} (q6 : hc 1 6 = hm 105 0) (b : BKr B hc hm) (real : hc 68 3 = 1) (th : hm 104 5 = 0) (p1 p2 p3 : Int32) : ∃ gc gm, mS_note 68 p1 p2 p3 hc = some gc ∧ mm_notes p1 p2 p3 hm = some gm ∧ BKr B gc gm ∧ (∀ x, x ≠ 16 → x ≠ 17 → gc x = hc x) ∧ (∀ x, x ≠ 105 → x ≠ 110 → gm x = hm x) ∧ ∀ j, j ≠ 2 → gm 105 j = hm 105 j := by
  obtain ⟨n, n1, n2, n3, n4, n5, n6, n7⟩ := b
  have c2 : ∀ (q : Option PH), ck 2 115 q = q := fun q => ck_nI (i := 2) (by decide) (by decide)
  have c0 : ∀ (q : Option PH), ck 0 115 q = q := fun q => ck_nI (i := 0) (by decide) (by decide)
  unfold mS_note mm_notes
  rw [real, if_neg no10, show sT 68 = 1 from rfl, th, if_pos rfl, c2, show ix (2 : Int32) = 2 from rfl, n5]
  by_cases c : n = 150
  · refine ⟨hc, hm, ?_, ?_, ⟨n, n1, n2, n3, n4, n5, n6, n7⟩, fun _ _ _ => rfl, fun _ _ _ => rfl, fun _ _ => rfl⟩
    · unfold mR_add
      rw [n4, n2, if_neg (by rw [c]; decide), bd2_e]
    · rw [if_pos (by rw [c]; rfl)]
  · have hn : n < 150 := by omega
    have xi : ∀ j, j < 5 → ix (nI (4 * n + j)) = 4 * n + j := fun j hj => nI_clamp (by omega)
    have k5 : ∀ j x, ∀ q : PH, up q 110 j x 105 2 = q 105 2 := fun j x q => up_oc (by decide)
    rw [ad_16 n2 n3 n4 hn, bd2_e, if_neg (show ¬ nI n = (150 : Int32) from fun z => c ((nI_eq (b := 150) (by omega) (by decide)).mp z)), c2, lt_e, show (4 : Int32) * nI n = nI (4 * n) from nI_mul 4 n, c0, ck_nI (by omega) (by decide), lt_e, show ix (nI (4 * n)) = 4 * n from nI_clamp (by omega), show nI (4 * n) + (1 : Int32) = nI (4 * n + 1) from nI_add _ 1, ck_nI (by omega) (by decide), lt_e, show nI (4 * n) + (2 : Int32) = nI (4 * n + 2) from nI_add _ 2, ck_nI (by omega) (by decide), lt_e, show nI (4 * n) + (3 : Int32) = nI (4 * n + 3) from nI_add _ 3, ck_nI (by omega) (by decide), lt_e, c2, c2, lt_e, xi 1 (by decide), xi 2 (by decide), xi 3 (by decide), k5, k5, k5, k5, n5, nI_1, show ix (0 : Int32) = 0 from rfl]
    refine ⟨_, _, rfl, rfl, ⟨n + 1, by omega, ?_, ?_, up_same, up_same, fun j hj => ?_, by have := n7.1; omega, fun j hj => ?_⟩, fun x x1 x2 => ?_, fun x x1 x2 => ?_, fun j hj => ?_⟩
    · rw [up_oj (by decide), up_oc (by decide), up_oc (by decide), up_oc (by decide), up_oc (by decide)]; exact n2
    · rw [up_oj (by decide), up_oc (by decide), up_oc (by decide), up_oc (by decide), up_oc (by decide)]; exact n3
    · rw [up_oc (show (17 : Nat) ≠ 16 by decide), up_oc (show (110 : Nat) ≠ 105 by decide)]
      by_cases j3 : j = 4 * n + 3
      · rw [j3, up_same, up_same]
      · rw [up_oj j3, up_oj j3]
        by_cases j2 : j = 4 * n + 2
        · rw [j2, up_same, up_same]
        · rw [up_oj j2, up_oj j2]
          by_cases j1 : j = 4 * n + 1
          · rw [j1, up_same, up_same]
          · rw [up_oj j1, up_oj j1]
            by_cases j0 : j = 4 * n
            · rw [j0, up_same, up_same]; exact q6
            · rw [up_oj j0, up_oj j0]
              exact n6 j (by omega)
    · have := n7.1
      rw [up_oc (by decide), up_oj (by omega), up_oj (by omega), up_oj (by omega), up_oj (by omega)]
      exact n7.2 j hj
    · rw [up_cell x1, up_cell x2, up_cell x2, up_cell x2, up_cell x2]
    · rw [up_cell x1, up_cell x2, up_cell x2, up_cell x2, up_cell x2]
    · rw [up_oj hj, up_oc (by decide), up_oc (by decide), up_oc (by decide), up_oc (by decide)]
/-- lodgers: none below nothing, not too many in all -/
def lsm (h : PH) : Nat → Int
  | 0 => 0
  | i + 1 => lsm h i + (h 2 (11 * i + 7)).toInt
def LD (H b : Nat) (h : PH) : Prop := (∀ i, i < H → 0 ≤ (h 2 (11 * i + 7)).toInt) ∧ lsm h H ≤ (b : Int) ∧ b < 1000000
theorem lsm_of {h g : PH} : ∀ n, (∀ i, i < n → g 2 (11 * i + 7) = h 2 (11 * i + 7)) → lsm g n = lsm h n := by
  intro n
  induction n with
  | zero => intro _; rfl
  | succ n ih => intro e; rw [lsm, lsm, ih (fun i hi => e i (by omega)), e n (by omega)]
theorem lsm_up {h : PH} {i : Nat} {v : Int32} : ∀ n, i < n → lsm (up h 2 (11 * i + 7) v) n = lsm h n - (h 2 (11 * i + 7)).toInt + v.toInt := by
  intro n
  induction n with
  | zero => intro e; omega
  | succ n ih =>
    intro e
    rw [lsm, lsm]
    by_cases c : i = n
    · subst c
      rw [up_same, lsm_of i (fun k hk => up_oj (by omega))]
      omega
    · rw [ih (by omega), up_oj (by omega)]
      omega
theorem lsm_ge {h : PH} : ∀ n, (∀ i, i < n → 0 ≤ (h 2 (11 * i + 7)).toInt) → 0 ≤ lsm h n ∧ ∀ i, i < n → (h 2 (11 * i + 7)).toInt ≤ lsm h n := by
  intro n
  induction n with
  | zero => intro _; exact ⟨Int.le_refl _, fun i hi => by omega⟩
  | succ n ih =>
    intro e
    obtain ⟨a, b⟩ := ih (fun i hi => e i (by omega))
    have c := e n (by omega)
    rw [lsm]
    refine ⟨by omega, fun i hi => ?_⟩
    by_cases d : i = n
    · rw [d]; omega
    · have := b i (by omega); omega
theorem ld_of {H b : Nat} {h g : PH} (l : LD H b h) (e : ∀ i, i < H → g 2 (11 * i + 7) = h 2 (11 * i + 7)) : LD H b g := ⟨fun i hi => by rw [e i hi]; exact l.1 i hi, by rw [lsm_of H e]; exact l.2.1, l.2.2⟩
/-- all of the town that a deed may meet -/
def RTT (A : Nat → Prop) (H b : Nat) (Ls : LNS) (B : BKT) (hc hm : PH) : Prop := TW A H hc hm ∧ LW Ls hc hm ∧ BKr B hc hm ∧ (∀ k, k < 12 → mO_nextTo 5 (nI k) hc = some (hm 123 k)) ∧ hc 68 3 = 1 ∧ hm 104 5 = 0 ∧ LD H b hc
theorem nx_fr {h g : PH} (e14 : g 14 = h 14) (e15 : g 15 = h 15) (p : Int32) : mO_nextTo 5 p g = mO_nextTo 5 p h := by
  have at14 : ∀ r c, mR_at 14 r c g = mR_at 14 r c h := fun r c => by
    unfold mR_at
    rw [e14, show g (14 + 1) = h (14 + 1) from e15]
  have go : ∀ (n : Nat) (v2 v3 : Int32), mO_nextTo_L4 5 p g n v2 v3 = mO_nextTo_L4 5 p h n v2 v3 := by
    intro n
    induction n with
    | zero => intro v2 v3; rfl
    | succ n ih =>
      intro v2 v3
      rw [mO_nextTo_L4, mO_nextTo_L4, show g (5 + 9) = h (5 + 9) from e14, show mR_at (5 + 9) v3 0 g = mR_at (5 + 9) v3 0 h from at14 v3 0, show mR_at (5 + 9) v3 1 g = mR_at (5 + 9) v3 1 h from at14 v3 1]
      simp only [ih]
  exact go FU 0 0
theorem rt_of {B : BKT} {A : Nat → Prop} {H b : Nat} {Ls : LNS} {hc hm gc gm : PH} (r : RTT A H b Ls B hc hm) (t : TW A H gc gm) (bk : BKr B gc gm) (ld : LD H b gc) (dc : DC hc gc) (dm : DM hm gm) : RTT A H b Ls B gc gm := by
  obtain ⟨r1, r2, r3, r4, r5, r6, r7⟩ := r
  refine ⟨t, ⟨r2.1, r2.2.1, r2.2.2.1, lwc_of r2.2.2.2.1 (fun b b1 b2 => dc b (by omega) (by omega) (by omega) (by omega) (by omega) (by omega) (by omega)), lwm_of r2.2.2.2.2 (fun b b1 b2 => dm b (by omega) (by omega) (by omega) (by omega))⟩, bk, fun k hk => ?_, ?_, ?_, ld⟩
  · rw [nx_fr (dc 14 (by decide) (by decide) (by decide) (by decide) (by decide) (by decide) (by decide)) (dc 15 (by decide) (by decide) (by decide) (by decide) (by decide) (by decide) (by decide)), dm 123 (by decide) (by decide) (by decide) (by decide)]
    exact r4 k hk
  · rw [dc 68 (by decide) (by decide) (by decide) (by decide) (by decide) (by decide) (by decide)]; exact r5
  · rw [dm 104 (by decide) (by decide) (by decide) (by decide)]; exact r6
theorem tb_m2 {A : Nat → Prop} {H : Nat} {hc hm gm : PH} (t : TW A H hc hm) (e : ∀ x, x ≠ 105 → x ≠ 110 → gm x = hm x) (e5 : ∀ j, j ≠ 2 → gm 105 j = hm 105 j) : TW A H hc gm := by
  obtain ⟨t1, t2, t3, t4, t5, t6⟩ := t
  refine ⟨t1, t2, by rw [e 104 (by decide) (by decide)]; exact t3, fun f f1 f2 => by rw [e5 _ (sf_r f f2 f1).2.1]; exact t4 f f1 f2, fun i c hi hc' ha => ?_, t6⟩
  obtain ⟨r1, r2, r3⟩ := mi_r i (by omega) c hc'
  rw [t5 i c hi hc' ha]
  rcases r3 with z | z | z
  · rw [z, e5 _ (by have := r2 z; omega)]
  · rw [z, e 108 (by decide) (by decide)]
  · rw [z, e 109 (by decide) (by decide)]
def qI (q : Option Nat) : Int32 := match q with
  | none => -1
  | some k => nI k
/-- lodgers go from house i to house q, or away -/
theorem mv_sim {B : BKT} {A : Nat → Prop} {H b : Nat} {Ls : LNS} {hc hm : PH} (r : RTT A H b Ls B hc hm) {i : Nat} (hi : i < H) (q : Option Nat) (hq : ∀ k, q = some k → k < H ∧ k ≠ i) : ∃ gc gm, mS_moveLodgers 68 (nI i) (qI q) hc = some gc ∧ mm_lodgersGo (nI i) (qI q) hm = some gm ∧ RTT A H b Ls B gc gm ∧ DC hc gc ∧ DM hm gm ∧ gc 1 = hc 1 ∧ (∀ j, j ≠ 7 → ∀ k, k < H → j < 11 → gc 2 (11 * k + j) = hc 2 (11 * k + j)) ∧ ∀ j, 91 ≤ j → gm 105 j = hm 105 j := by
  obtain ⟨t, lw, bk, nx, re, th, ld⟩ := r
  have rr : RTT A H b Ls B hc hm := ⟨t, lw, bk, nx, re, th, ld⟩
  have h12 := t.1
  have q6 : hc 1 6 = hm 105 0 := t.2.2.2.1 6 (by decide) (by decide)
  have i79 : (79 : Int32) + nI i = nI (79 + i) := nI_add 79 i
  have ix79 : ix (nI (79 + i)) = 79 + i := nI_clamp (by omega)
  have ck79 : ∀ (z : Option PH), ck (nI (79 + i)) 115 z = z := fun z => ck_nI (by omega) (by decide)
  have z0 : (0 : Int32).toInt = 0 := rfl
  obtain ⟨lg1, lg2⟩ := lsm_ge H ld.1
  -- the class's move
  have key : ∃ h7, (∀ K : PH → Option PH, (bd (mB_read 1 (nI i) 7 hc) fun r1 => bd (mB_write 1 (nI i) 7 0 hc) fun h2 => if qI q = (-1) then K h2 else bd (mB_read 1 (qI q) 7 h2) fun r6 => bd (mB_write 1 (qI q) 7 (r6 + r1) h2) fun h7 => K h7) = K h7) ∧ (∀ x, x ≠ 2 → h7 x = hc x) ∧ (∀ j, j ≠ 7 → ∀ k, k < H → j < 11 → h7 2 (11 * k + j) = hc 2 (11 * k + j)) ∧ LD H b h7 ∧ ∀ gx, TW A H hc gx → ∃ gm, (ck (nI (79 + i)) 115 <| lt (gx 105 (ix (nI (79 + i)))) fun x2 => ck (nI (79 + i)) 115 <| lt (up gx 105 (ix (nI (79 + i))) 0) fun h3 => if qI q = (-1) then some h3 else ck (79 + qI q) 115 <| ck (79 + qI q) 115 <| lt (up h3 105 (ix (79 + qI q)) ((h3 105 (ix (79 + qI q))) + x2)) fun h4 => some h4) = some gm ∧ TW A H h7 gm ∧ (∀ x, x ≠ 105 → gm x = gx x) ∧ gm 105 2 = gx 105 2 ∧ ∀ j, 91 ≤ j → gm 105 j = gx 105 j := by
    cases q with
    | none =>
      refine ⟨up hc 2 (11 * i + 7) 0, fun K => ?_, fun x hx => up_cell hx, fun j hj k hk hj2 => up_oj (by omega), ⟨fun k hk => ?_, ?_, ld.2.2⟩, fun gx tx => ⟨up gx 105 (79 + i) 0, ?_, tb_wr tx hi (c := 7) (by decide) 0 (fun z => by omega), fun x hx => up_cell hx, up_oj (by omega), fun j hj => up_oj (by omega)⟩⟩
      · rw [show mB_read 1 (nI i) 7 hc = _ from rdB t hi (c := 7) (by decide), bd_e, show mB_write 1 (nI i) 7 0 hc = _ from wrB t hi (c := 7) (by decide) 0, bd_e, if_pos (show qI none = -1 from rfl)]
      · by_cases c : k = i
        · rw [c, up_same]; decide
        · rw [up_oj (by omega)]; exact ld.1 k hk
      · rw [lsm_up H hi, z0]
        have := ld.1 i hi
        have := ld.2.1
        omega
      · rw [ck79, lt_e, ck79, lt_e, ix79, if_pos (show qI none = -1 from rfl)]
    | some k =>
      obtain ⟨k1, k2⟩ := hq k rfl
      have nk : ¬ qI (some k) = -1 := nI_nm1 (show k < 2 ^ 31 by omega)
      have k79 : (79 : Int32) + qI (some k) = nI (79 + k) := nI_add 79 k
      have ixk : ix (nI (79 + k)) = 79 + k := nI_clamp (by omega)
      have ckk : ∀ (z : Option PH), ck (nI (79 + k)) 115 z = z := fun z => ck_nI (by omega) (by decide)
      have t1 : TW A H (up hc 2 (11 * i + 7) 0) (up hm 105 (79 + i) 0) := tb_wr t hi (c := 7) (by decide) 0 (fun z => by omega)
      have hk7 : up hc 2 (11 * i + 7) 0 2 (11 * k + 7) = hc 2 (11 * k + 7) := up_oj (by omega)
      have sm : (hc 2 (11 * k + 7) + hc 2 (11 * i + 7)).toInt = (hc 2 (11 * k + 7)).toInt + (hc 2 (11 * i + 7)).toInt := by
        have a := lg2 k k1
        have b' := lg2 i hi
        have c := ld.2.1
        have d := ld.2.2
        exact i_add (a := 0) (b := 1000000) (c := 0) (d := 1000000) ⟨ld.1 k k1, by omega⟩ ⟨ld.1 i hi, by omega⟩ (by decide)
      refine ⟨up (up hc 2 (11 * i + 7) 0) 2 (11 * k + 7) (hc 2 (11 * k + 7) + hc 2 (11 * i + 7)), fun K => ?_, fun x hx => by rw [up_cell hx, up_cell hx], fun j hj k' hk' hj2 => by rw [up_oj (by omega), up_oj (by omega)], ⟨fun k' hk' => ?_, ?_, ld.2.2⟩, fun gx tx => ⟨up (up gx 105 (79 + i) 0) 105 (79 + k) (hc 2 (11 * k + 7) + hc 2 (11 * i + 7)), ?_, ?_, fun x hx => by rw [up_cell hx, up_cell hx], by rw [up_oj (by omega), up_oj (by omega)], fun j hj => by rw [up_oj (by omega), up_oj (by omega)]⟩⟩
      · rw [show mB_read 1 (nI i) 7 hc = _ from rdB t hi (c := 7) (by decide), bd_e, show mB_write 1 (nI i) 7 0 hc = _ from wrB t hi (c := 7) (by decide) 0, bd_e, if_neg nk, show mB_read 1 (qI (some k)) 7 (up hc 2 (11 * i + 7) 0) = _ from rdB t1 k1 (c := 7) (by decide), bd_e, hk7, show mB_write 1 (qI (some k)) 7 _ (up hc 2 (11 * i + 7) 0) = _ from wrB t1 k1 (c := 7) (by decide) _, bd_e]
      · by_cases c : k' = k
        · rw [c, up_same, sm]
          have := ld.1 k k1
          have := ld.1 i hi
          omega
        · rw [up_oj (by omega)]
          by_cases c2 : k' = i
          · rw [c2, up_same]; decide
          · rw [up_oj (by omega)]; exact ld.1 k' hk'
      · rw [lsm_up H k1, lsm_up H hi, hk7, sm, z0]
        have := ld.2.1
        omega
      · have e1 : gx 105 (79 + i) = hc 2 (11 * i + 7) := (colM tx hi).2.2.2.1
        have e2 : gx 105 (79 + k) = hc 2 (11 * k + 7) := (colM tx k1).2.2.2.1
        rw [ck79, lt_e, ck79, lt_e, ix79, if_neg nk, k79, ckk, ckk, lt_e, ixk, up_oj (by omega), e1, e2]
      · exact tb_wr (tb_wr tx hi (c := 7) (by decide) 0 (fun z => by omega)) k1 (c := 7) (by decide) _ (fun z => by omega)
  obtain ⟨h7, k1, k2, k3, k4, k5⟩ := key
  have bk7 : BKr B h7 hm := bk_of bk (k2 16 (by decide)) (k2 17 (by decide)) rfl rfl
  obtain ⟨gc, gx, a1, a2, a3, a4, a5, a6⟩ := nt_sim (hc := h7) (hm := hm) (by rw [k2 1 (by decide)]; exact q6) bk7 (by rw [k2 68 (by decide)]; exact re) th 4 (nI i) (qI q)
  obtain ⟨gm, m1, m2, m3, m4, m5⟩ := k5 gx (tb_m2 t a5 a6)
  have dc : DC hc gc := fun x x1 x2 x3 x4 _ _ _ => by rw [a4 x x3 x4, k2 x x2]
  have dm : DM hm gm := fun x x1 x2 _ _ => by rw [m3 x x1, a5 x x1 x2]
  have tg : TW A H gc gm := tb_of m2 (a4 1 (by decide) (by decide)) (a4 2 (by decide) (by decide)) rfl rfl rfl rfl
  refine ⟨gc, gm, ?_, ?_, rt_of rr tg (bk_of a3 rfl rfl m4 (m3 110 (by decide))) (ld_of k4 (fun j _ => by rw [a4 2 (by decide) (by decide)])) dc dm, dc, dm, by rw [a4 1 (by decide) (by decide), k2 1 (by decide)], fun j hj k hk hj2 => by rw [a4 2 (by decide) (by decide)]; exact k3 j hj k hk hj2, fun j hj => by rw [m5 j hj, a6 j (by omega)]⟩
  · unfold mS_moveLodgers
    rw [show sT 68 = 1 from rfl]
    simp only [jn1_e]
    rw [k1 (fun h4 => bd (mS_note 68 4 (nI i) (qI q) h4) fun h5 => some h5), a1, bd_e]
  · unfold mm_lodgersGo
    rw [a2, bd_e, i79]
    exact m1
/-- where they go: the first that is next and stands -/
def isP (hc : PH) (m : Int32) (k : Nat) : Prop := ((m >>> (nI k &&& 31)) &&& 1) = 1 ∧ ¬ upI hc k = 0
def fst (hc : PH) (m : Int32) (H : Nat) (q : Option Nat) : Prop := (q = none ∧ ∀ k, k < H → ¬ isP hc m k) ∨ ∃ k, q = some k ∧ k < H ∧ isP hc m k ∧ ∀ j, j < k → ¬ isP hc m j
theorem fst_u {hc : PH} {m : Int32} {H : Nat} {p q : Option Nat} (a : fst hc m H p) (b : fst hc m H q) : p = q := by
  rcases a with ⟨a1, a2⟩ | ⟨k, a1, a2, a3, a4⟩ <;> rcases b with ⟨b1, b2⟩ | ⟨j, b1, b2, b3, b4⟩
  · rw [a1, b1]
  · exact absurd b3 (a2 j b2)
  · exact absurd a3 (b2 k a2)
  · rw [a1, b1]
    rcases Nat.lt_trichotomy k j with g | g | g
    · exact absurd a3 (b4 k g)
    · rw [g]
    · exact absurd b3 (a4 j g)
theorem rf_c {A : Nat → Prop} {H : Nat} {hc hm : PH} (t : TW A H hc hm) (m : Int32) : ∀ (n k : Nat), H < n + k → k ≤ H → (∀ j, j < k → ¬ isP hc m j) → ∃ q, mS_refuge_L11 68 m hc n (nI k) = some (qI q) ∧ fst hc m H q := by
  intro n
  have h12 := t.1
  induction n with
  | zero => intro k h1 h2; omega
  | succ n ih =>
    intro k h1 h2 h3
    rw [mS_refuge_L11, show sT 68 = 1 from rfl, t.2.1]
    by_cases c : k = H
    · rw [if_pos (nI_le (by omega) (by omega))]
      exact ⟨none, rfl, Or.inl ⟨rfl, fun j hj => h3 j (by omega)⟩⟩
    · have hk : k < H := by omega
      have next : ¬ isP hc m k → ∃ q, mS_refuge_L11 68 m hc n (nI k + 1) = some (qI q) ∧ fst hc m H q := fun np => by
        rw [nI_1]
        exact ih (k + 1) (by omega) (by omega) (fun j hj => by
          by_cases e : j = k
          · rw [e]; exact np
          · exact h3 j (by omega))
      rw [if_neg (nI_ge hk (by omega))]
      by_cases b : ((m >>> (nI k &&& 31)) &&& 1) = 1
      · rw [if_pos b, isBB t hk, bd_e]
        by_cases u : upI hc k = 0
        · rw [if_pos u]
          exact next (fun z => z.2 u)
        · rw [if_neg u]
          exact ⟨some k, rfl, Or.inr ⟨k, rfl, hk, ⟨b, u⟩, h3⟩⟩
      · rw [if_neg b]
        exact next (fun z => b z.1)
theorem rf_m {A : Nat → Prop} {H : Nat} {hc hm : PH} (t : TW A H hc hm) {i : Nat} (hi : i < H) (k0 : Int32 → Option PH) : ∀ (k n : Nat) (acc : Option Nat), k ≤ H → k < n → (acc = none ∧ (∀ j, k ≤ j → j < H → ¬ isP hc (hm 123 i) j) ∨ ∃ q, acc = some q ∧ k ≤ q ∧ q < H ∧ isP hc (hm 123 i) q ∧ ∀ j, k ≤ j → j < q → ¬ isP hc (hm 123 i) j) → ∃ q, mm_areOut_L30 (nI i) hm k0 n (qI acc) (nI k - 1) = k0 (qI q) ∧ fst hc (hm 123 i) H q := by
  have h12 := t.1
  intro k
  induction k with
  | zero =>
    intro n acc h1 h2 h3
    cases n with
    | zero => omega
    | succ n =>
      rw [mm_areOut_L30, if_pos (show nI 0 - 1 < (0 : Int32) by decide)]
      refine ⟨acc, rfl, ?_⟩
      rcases h3 with ⟨a, b⟩ | ⟨q, a, b, c, d, e⟩
      · exact Or.inl ⟨a, fun j hj => b j (Nat.zero_le _) hj⟩
      · exact Or.inr ⟨q, a, c, d, fun j hj => e j (Nat.zero_le _) hj⟩
  | succ k ih =>
    intro n acc h1 h2 h3
    cases n with
    | zero => omega
    | succ n =>
      have hk : k < H := by omega
      rw [nI_pred, mm_areOut_L30, if_neg (nI_pos (by omega)), ck_nI (show i < 24 by omega) (by decide), show ix (nI i) = i from nI_clamp (by omega)]
      have sub1 : nI k + (-1) = nI k - 1 := by rw [Int32.sub_eq_add_neg]
      rw [sub1]
      unfold mm_has
      have skip : ¬ isP hc (hm 123 i) k → ∃ q, mm_areOut_L30 (nI i) hm k0 n (qI acc) (nI k - 1) = k0 (qI q) ∧ fst hc (hm 123 i) H q := fun np => by
        refine ih n acc (by omega) (by omega) ?_
        rcases h3 with ⟨a, b⟩ | ⟨q, a, b, c, d, e⟩
        · refine Or.inl ⟨a, fun j j1 j2 => ?_⟩
          by_cases z : j = k
          · rw [z]; exact np
          · exact b j (by omega) j2
        · refine Or.inr ⟨q, a, by omega, c, d, fun j j1 j2 => ?_⟩
          by_cases z : j = k
          · rw [z]; exact np
          · exact e j (by omega) j2
      by_cases b : ((hm 123 i >>> (nI k &&& 31)) &&& 1) = 1
      · rw [if_pos b, bd_e, if_neg no10, isM t hk, bd_e]
        by_cases u : upI hc k = 0
        · rw [if_pos u]
          exact skip (fun z => z.2 u)
        · rw [if_neg u]
          exact ih n (some k) (by omega) (by omega) (Or.inr ⟨k, rfl, Nat.le_refl _, hk, ⟨b, u⟩, fun j j1 j2 => by omega⟩)
      · rw [if_neg b, bd_e, if_pos rfl]
        exact skip (fun z => b z.1)
/-- who has no wall goes next door -/
theorem lv_sim {B : BKT} {A : Nat → Prop} {H b : Nat} {Ls : LNS} {hc hm : PH} (r : RTT A H b Ls B hc hm) {i : Nat} (hi : i < H) : ∃ gc gm, mS_leaveIfFallen 68 (nI i) hc = some gc ∧ mm_areOut (nI i) hm = some gm ∧ RTT A H b Ls B gc gm ∧ DC hc gc ∧ DM hm gm ∧ gc 1 = hc 1 ∧ (∀ j, j ≠ 7 → ∀ k, k < H → j < 11 → gc 2 (11 * k + j) = hc 2 (11 * k + j)) ∧ ∀ j, 91 ≤ j → gm 105 j = hm 105 j := by
  have t := r.1
  have h12 := t.1
  have ld := r.2.2.2.2.2.2
  have idle : ∃ gc gm, some hc = some gc ∧ some hm = some gm ∧ RTT A H b Ls B gc gm ∧ DC hc gc ∧ DM hm gm ∧ gc 1 = hc 1 ∧ (∀ j, j ≠ 7 → ∀ k, k < H → j < 11 → gc 2 (11 * k + j) = hc 2 (11 * k + j)) ∧ ∀ j, 91 ≤ j → gm 105 j = hm 105 j := ⟨hc, hm, rfl, rfl, r, dc_r hc, dm_r hm, rfl, fun _ _ _ _ _ => rfl, fun _ _ => rfl⟩
  unfold mS_leaveIfFallen mm_areOut
  rw [show sT 68 = 1 from rfl, isBB t hi, bd_e, isM t hi, bd_e]
  by_cases u : upI hc i = 0
  · rw [if_pos u, if_pos u, show mB_read 1 (nI i) 7 hc = _ from rdB t hi (c := 7) (by decide), bd_e, show (79 : Int32) + nI i = nI (79 + i) from nI_add 79 i, ck_nI (show 79 + i < 115 by omega) (by decide), show ix (nI (79 + i)) = 79 + i from nI_clamp (by omega), (colM t hi).2.2.2.1]
    have l0 := ld.1 i hi
    have z0 : (0 : Int32).toInt = 0 := rfl
    by_cases p : hc 2 (11 * i + 7) = 0
    · rw [if_neg (by rw [p]; decide), if_pos p]
      exact idle
    · have pos : (0 : Int32) < hc 2 (11 * i + 7) := by
        rw [Int32.lt_iff_toInt_lt, z0]
        have : (hc 2 (11 * i + 7)).toInt ≠ 0 := fun z => p (Int32.toInt_inj.mp (by rw [z, z0]))
        omega
      rw [if_pos pos, if_neg p, lt_e, t.2.2.1]
      unfold mS_refuge
      rw [r.2.2.2.1 i (by omega), bd_e]
      obtain ⟨q, q1, q2⟩ := rf_c t (hm 123 i) FU 0 (by unfold FU; omega) (Nat.zero_le _) (fun j hj => by omega)
      obtain ⟨q', p1, p2⟩ := rf_m t hi (fun (x5 : Int32) => bd (mm_lodgersGo (nI i) x5 hm) fun h6 => some h6) H FU none (Nat.le_refl _) (by unfold FU; omega) (Or.inl ⟨rfl, fun j j1 j2 => by omega⟩)
      have qe := fst_u p2 q2
      rw [nI_0] at q1
      rw [q1, bd_e, show mm_areOut_L30 (nI i) hm _ FU (-1) (nI H - 1) = _ from p1, qe]
      have hq : ∀ k, q = some k → k < H ∧ k ≠ i := fun k ek => by
        rcases q2 with ⟨a, _⟩ | ⟨k', a, b', c, _⟩
        · rw [a] at ek; cases ek
        · rw [a] at ek
          cases ek
          exact ⟨b', fun z => c.2 (by rw [z]; exact u)⟩
      obtain ⟨gc, gm, m1, m2, m3, m4, m5, m6, m7⟩ := mv_sim r hi q hq
      rw [m1, bd_e, m2, bd_e]
      exact ⟨gc, gm, rfl, rfl, m3, m4, m5, m6, m7⟩
  · rw [if_neg u, if_neg u]
    exact idle
end
