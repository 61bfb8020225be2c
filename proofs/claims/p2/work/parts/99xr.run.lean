/-! THE LAW RUNS alike: a code, a list of them -/
def SKC (st : List Int32) (h : PH) : Prop := h 34 4 = nI st.length ∧ st.length ≤ 64 ∧ ∀ j x, st[j]? = some x → h 36 (st.length - 1 - j) = x
def FW (h g : PH) : Prop := ∀ b, b ≠ 34 → b ≠ 36 → g b = h b
theorem fw_t {h g f : PH} (a : FW h g) (b : FW g f) : FW h f := fun x x1 x2 => by rw [b x x1 x2, a x x1 x2]
theorem sk_top {st : List Int32} {b : Int32} {h : PH} (s : SKC (b :: st) h) : h 34 4 - 1 = nI st.length ∧ h 36 st.length = b ∧ st.length < 64 := by
  obtain ⟨s1, s2, s3⟩ := s
  rw [List.length_cons] at s1 s2 s3
  refine ⟨by rw [s1, nI_pred], ?_, by omega⟩
  have := s3 0 b rfl
  rw [show st.length + 1 - 1 - 0 = st.length by omega] at this
  exact this
theorem sk_push {st : List Int32} {h : PH} (s : SKC st h) (hl : st.length < 64) (x : Int32) : SKC (x :: st) (up (up h 36 st.length x) 34 4 (nI (st.length + 1))) := by
  obtain ⟨s1, s2, s3⟩ := s
  refine ⟨by rw [up_same, List.length_cons], by rw [List.length_cons]; omega, fun j y hj => ?_⟩
  rw [up_oc (by decide), List.length_cons]
  cases j with
  | zero =>
    have hj : some x = some y := hj
    cases hj
    rw [show st.length + 1 - 1 - 0 = st.length by omega, up_same]
  | succ j =>
    have hj : st[j]? = some y := hj
    obtain ⟨a, _⟩ := List.getElem?_eq_some_iff.mp hj
    rw [up_oj (by omega), show st.length + 1 - 1 - (j + 1) = st.length - 1 - j by omega]
    exact s3 j y hj
/-- the top is another -/
theorem sk_set {st : List Int32} {b : Int32} {h : PH} (s : SKC (b :: st) h) (x : Int32) : SKC (x :: st) (up h 36 st.length x) := by
  obtain ⟨s1, s2, s3⟩ := s
  rw [List.length_cons] at s1 s2 s3
  refine ⟨by rw [up_oc (by decide), List.length_cons]; exact s1, by rw [List.length_cons]; exact s2, fun j y hj => ?_⟩
  rw [List.length_cons]
  cases j with
  | zero =>
    have hj : some x = some y := hj
    cases hj
    rw [show st.length + 1 - 1 - 0 = st.length by omega, up_same]
  | succ j =>
    have hj : st[j]? = some y := hj
    obtain ⟨a, _⟩ := List.getElem?_eq_some_iff.mp hj
    rw [up_oj (by omega)]
    exact s3 (j + 1) y hj
theorem sk_drop {st : List Int32} {b : Int32} {h : PH} (s : SKC (b :: st) h) : SKC st (up h 34 4 (nI st.length)) := by
  obtain ⟨s1, s2, s3⟩ := s
  rw [List.length_cons] at s1 s2 s3
  refine ⟨up_same, by omega, fun j y hj => ?_⟩
  obtain ⟨a, _⟩ := List.getElem?_eq_some_iff.mp hj
  have := s3 (j + 1) y hj
  rw [up_oc (by decide), show st.length - 1 - j = st.length + 1 - 1 - (j + 1) by omega]
  exact this
theorem jd_e (k : Nat) (hk : k = 2 ∨ k = 3 ∨ k = 4 ∨ k = 6 ∨ k = 7 ∨ k = 8 ∨ k = 10 ∨ k = 11) (a b : Int32) (h : PH) : mW_joined (nI k) a b h = some (opj k a b) := by
  rcases hk with e | e | e | e | e | e | e | e <;> subst e
  · rfl
  · rfl
  · rfl
  · show (if b ≤ a then some 0 else some 1) = some (if a < b then 1 else 0)
    by_cases c : a < b
    · rw [if_pos c, if_neg (Int32.not_le.mpr c)]
    · rw [if_neg c, if_pos (Int32.not_lt.mp c)]
  · show (if a = b then some 1 else some 0) = some (if a = b then 1 else 0)
    split <;> rfl
  · show (if a ≤ b then some 0 else some 1) = some (if b < a then 1 else 0)
    by_cases c : b < a
    · rw [if_pos c, if_neg (Int32.not_le.mpr c)]
    · rw [if_neg c, if_pos (Int32.not_lt.mp c)]
  · rfl
  · rfl
/-- one code of the class -/
theorem wstt {k v : Nat} (ok : okC (k, v)) {st st' : List Int32} {h : PH} (s : SKC st h) (e : s1C (fun q => h 35 q) (k, v) st = some st') : ∃ g, mW_step (nI k) (nI v) h = some g ∧ SKC st' g ∧ FW h g := by
  obtain ⟨o1, o2, o3, o4⟩ := ok
  have o1 : k < 12 := o1
  have o2 : v < 10000 := o2
  have o3 : k = 1 → v < 12 := o3
  have o4 : k = 5 → 0 < v := o4
  have push : ∀ x : Int32, st.length < 64 → SKC (x :: st) (up (up h 36 st.length x) 34 4 (nI (st.length + 1))) ∧ FW h (up (up h 36 st.length x) 34 4 (nI (st.length + 1))) := fun x hl => ⟨sk_push s hl x, fun b b1 b2 => by rw [up_cell b1, up_cell b2]⟩
  by_cases k0 : k = 0
  · subst k0
    have e : (if st.length < 64 then some (nI v :: st) else none) = some st' := e
    by_cases hl : st.length < 64
    · rw [if_pos hl] at e
      cases e
      refine ⟨_, ?_, (push (nI v) hl).1, (push (nI v) hl).2⟩
      unfold mW_step
      rw [jn0_e, if_pos (show nI 0 = (0 : Int32) from rfl), s.1, if_neg (show ¬ (64 : Int32) ≤ nI st.length from nI_ge (b := 64) hl (by decide)), jn1_e, if_neg (by decide)]
      try dsimp only
      rw [jn1_e, if_pos rfl]
      try dsimp only
      rw [ck_nI hl (by decide), lt_e, show ix (nI st.length) = st.length from nI_clamp (by omega), up_oc (by decide), s.1, lt_e, nI_1]
    · rw [if_neg hl] at e
      cases e
  · by_cases k1 : k = 1
    · subst k1
      have e : (if st.length < 64 then some (h 35 v :: st) else none) = some st' := e
      have v12 := o3 rfl
      by_cases hl : st.length < 64
      · rw [if_pos hl] at e
        cases e
        refine ⟨_, ?_, (push (h 35 v) hl).1, (push (h 35 v) hl).2⟩
        unfold mW_step
        rw [jn0_e, if_neg (by decide), if_pos (show nI 1 = (1 : Int32) from rfl), s.1, if_neg (show ¬ (64 : Int32) ≤ nI st.length from nI_ge (b := 64) hl (by decide)), jn1_e, if_pos (show nI 1 = (1 : Int32) from rfl), if_neg (nI_pos (by omega)), if_neg (show ¬ (12 : Int32) ≤ nI v from nI_ge (b := 12) v12 (by decide))]
        try dsimp only
        rw [jn1_e, if_neg no10]
        try dsimp only
        rw [ck_nI v12 (by decide), show ix (nI v) = v from nI_clamp (by omega)]
        try dsimp only
        rw [ck_nI hl (by decide), lt_e, show ix (nI st.length) = st.length from nI_clamp (by omega), up_oc (by decide), s.1, lt_e, nI_1]
      · rw [if_neg hl] at e
        cases e
    · have n0 : ¬ nI k = (0 : Int32) := fun z => k0 ((nI_eq (b := 0) (by omega) (by decide)).mp z)
      have n1 : ¬ nI k = (1 : Int32) := fun z => k1 ((nI_eq (b := 1) (by omega) (by decide)).mp z)
      unfold s1C at e
      rw [if_neg k0, if_neg k1] at e
      unfold mW_step
      rw [jn0_e, if_neg n0, if_neg n1]
      cases st with
      | nil => cases e
      | cons b r =>
        obtain ⟨t1, t2, t3⟩ := sk_top s
        have ixt : ix (nI r.length) = r.length := nI_clamp (by omega)
        have ckt : ∀ (q : Option PH), ck (nI r.length) 64 q = q := fun q => ck_nI t3 (by decide)
        have pos : ¬ h 34 4 ≤ 0 := by rw [s.1, List.length_cons]; exact nI_nle (by omega) (by omega)
        by_cases k5 : k = 5
        · subst k5
          have v0 := o4 rfl
          have e : some (b / nI v :: r) = some st' := e
          cases e
          refine ⟨_, ?_, sk_set s (b / nI v), fun x _ x2 => up_cell x2⟩
          rw [if_pos (show nI 5 = (5 : Int32) from rfl), if_neg pos, if_neg (nI_ne0 v0 (by omega)), t1, ckt, dz_nz (nI_ne0 v0 (by omega)), ckt, lt_e, ixt, t2]
        · rw [if_neg (show ¬ nI k = (5 : Int32) from fun z => k5 ((nI_eq (b := 5) (by omega) (by decide)).mp z))]
          by_cases k9 : k = 9
          · subst k9
            have e : some ((if b = 0 then 1 else 0) :: r) = some st' := e
            cases e
            refine ⟨_, ?_, sk_set s (if b = 0 then 1 else 0), fun x _ x2 => up_cell x2⟩
            rw [if_pos (show nI 9 = (9 : Int32) from rfl), if_neg pos, t1, ckt, jn1_e, ixt, t2]
            by_cases z : b = 0
            · rw [if_pos z, if_pos z]
              try dsimp only
              rw [ckt, lt_e]
            · rw [if_neg z, if_neg z]
              try dsimp only
              rw [ckt, lt_e]
          · rw [if_neg (show ¬ nI k = (9 : Int32) from fun z => k9 ((nI_eq (b := 9) (by omega) (by decide)).mp z))]
            simp only [if_neg k5, if_neg k9] at e
            cases r with
            | nil => cases e
            | cons a r =>
              have e : some (opj k a b :: r) = some st' := e
              cases e
              have d1 := sk_drop s
              obtain ⟨u1, u2, u3⟩ := sk_top d1
              have d2 : up h 34 4 (nI (a :: r).length) 34 4 = nI (a :: r).length := up_same
              have d3 : up h 34 4 (nI (a :: r).length) 36 (a :: r).length = b := by rw [up_oc (by decide)]; exact t2
              have gt1 : ¬ h 34 4 ≤ 1 := by rw [s.1, List.length_cons, List.length_cons]; exact nI_ge (a := 1) (by omega) (by have := t3; rw [List.length_cons] at this; omega)
              refine ⟨_, ?_, sk_set d1 (opj k a b), fun x x1 x2 => by rw [up_cell x2, up_cell x1]⟩
              rw [if_neg gt1, lt_e, t1, u1, ck_nI u3 (by decide), d2, ckt, show ix (nI r.length) = r.length from nI_clamp (by omega), u2, ixt, d3, jd_e k (by omega), bd_e, ck_nI u3 (by decide), lt_e]
/-- the class's codes of a text, in cell 9 -/
def CDc (C : List (Nat × Nat)) (p : Nat) (h : PH) : Prop := ∀ j k v, C[j]? = some (k, v) → h 9 (2 * (p + j)) = nI k ∧ h 9 (2 * (p + j) + 1) = nI v
theorem at_8 {h : PH} {m p : Nat} (c1 : h 8 1 = 2) (c3 : h 8 3 = nI m) (hm : m ≤ 400) (hp : p < m) : mR_at 8 (nI p) 0 h = some (h 9 (2 * p)) ∧ mR_at 8 (nI p) 1 h = some (h 9 (2 * p + 1)) := by
  unfold mR_at
  constructor
  · rw [if_neg (nI_pos (by omega)), c3, if_neg (nI_ge hp (by omega)), c1, if_neg (by decide), if_pos (by decide), show nI p * (2 : Int32) = nI (p * 2) from nI_mul p 2, show ln (8 + 1) = 800 from rfl, Nat.mul_comm p 2, show nI (2 * p) + (0 : Int32) = nI (2 * p) from nI_add _ 0, ck_nI (by omega) (by decide), show ix (nI (2 * p)) = 2 * p from nI_clamp (by omega)]
  · rw [if_neg (nI_pos (by omega)), c3, if_neg (nI_ge hp (by omega)), c1, if_neg (by decide), if_pos (by decide), show nI p * (2 : Int32) = nI (p * 2) from nI_mul p 2, show ln (8 + 1) = 800 from rfl, Nat.mul_comm p 2, nI_1, ck_nI (by omega) (by decide), show ix (nI (2 * p + 1)) = 2 * p + 1 from nI_clamp (by omega)]
theorem wrun {m : Nat} (hm : m ≤ 400) : ∀ (C : List (Nat × Nat)) (p n : Nat) (h : PH) (st st' : List Int32), h 8 1 = 2 → h 8 3 = nI m → p + C.length ≤ m → C.length < n → (∀ c, c ∈ C → okC c) → CDc C p h → SKC st h → evC (fun q => h 35 q) C st = some st' → ∃ g, (∀ k0 : PH → Option (Int32 × PH), mW_run_L7 (nI (p + C.length)) k0 n (nI p) h = k0 g) ∧ SKC st' g ∧ FW h g := by
  intro C
  induction C with
  | nil =>
    intro p n h st st' c1 c3 hp hn ok cd s e
    cases n with
    | zero => simp at hn
    | succ n =>
      rw [evC] at e
      cases e
      refine ⟨h, fun k0 => ?_, s, fun _ _ _ => rfl⟩
      rw [mW_run_L7, if_pos (nI_le (by simp) (by simp at hp; omega))]
  | cons c C ih =>
    intro p n h st st' c1 c3 hp hn ok cd s e
    obtain ⟨k, v⟩ := c
    rw [List.length_cons] at hp hn
    cases n with
    | zero => omega
    | succ n =>
      rw [evC] at e
      obtain ⟨st1, e1, e2⟩ := bd_s e
      obtain ⟨g, g1, g2, g3⟩ := wstt (ok (k, v) List.mem_cons_self) s e1
      obtain ⟨a1, a2⟩ := at_8 c1 c3 hm (show p < m by omega)
      have d1 : h 9 (2 * p) = nI k := (cd 0 k v rfl).1
      have d2 : h 9 (2 * p + 1) = nI v := (cd 0 k v rfl).2
      have f8 : g 8 = h 8 := g3 8 (by decide) (by decide)
      have f9 : g 9 = h 9 := g3 9 (by decide) (by decide)
      have f35 : g 35 = h 35 := g3 35 (by decide) (by decide)
      obtain ⟨f, f1, f2, f3⟩ := ih (p + 1) n g st1 st' (by rw [f8]; exact c1) (by rw [f8]; exact c3) (by omega) (by omega) (fun c hc => ok c (List.mem_cons_of_mem _ hc)) (fun j k' v' hj => by
        rw [f9, show p + 1 + j = p + (j + 1) by omega]
        exact cd (j + 1) k' v' hj) g2 (by rw [f35]; exact e2)
      refine ⟨f, fun k0 => ?_, f2, fw_t g3 f3⟩
      rw [mW_run_L7, if_neg (nI_ge (by rw [List.length_cons]; omega) (by rw [List.length_cons]; omega)), a1, bd_e, a2, bd_e, d1, d2, g1, bd_e, nI_1, List.length_cons, show p + (C.length + 1) = p + 1 + C.length by omega, f1]
/-- a run of the class: one number -/
theorem wrun_1 {m : Nat} (hm : m ≤ 400) {C : List (Nat × Nat)} {p : Nat} {h : PH} {x : Int32} (c1 : h 8 1 = 2) (c3 : h 8 3 = nI m) (hp : p + C.length ≤ m) (ok : ∀ c, c ∈ C → okC c) (cd : CDc C p h) (e : evC (fun q => h 35 q) C [] = some [x]) : ∃ g, mW_run (nI p) (nI (p + C.length)) h = some (x, g) ∧ FW h g := by
  have s0 : SKC [] (up h 34 4 0) := ⟨up_same, by decide, fun j y hj => by cases hj⟩
  have f0 : FW h (up h 34 4 0) := fun b b1 _ => up_cell b1
  obtain ⟨g, g1, g2, g3⟩ := wrun hm C p FU (up h 34 4 0) [] [x] (by rw [up_oc (by decide)]; exact c1) (by rw [up_oc (by decide)]; exact c3) hp (by unfold FU; omega) ok (fun j k v hj => by rw [up_oc (by decide), up_oc (by decide)]; exact cd j k v hj) s0 (by rw [f0 35 (by decide) (by decide)]; exact e)
  refine ⟨g, ?_, fw_t f0 g3⟩
  unfold mW_run
  rw [lt_e, g1]
  have e4 : g 34 4 = nI 1 := g2.1
  have e36 : g 36 0 = x := g2.2.2 0 x rfl
  rw [e4, if_neg (by decide), show ix (0 : Int32) = 0 from rfl, e36]
  rfl
