/-! THE CURSOR: both readers stand at token i -/
def CU (s : Nat) (B : Nat → Nat) (L N i : Nat) (h : PH) : Prop := CTk s B L N h ∧ i ≤ N ∧ h 90 5 = nI i ∧ h 90 6 = h 87 i ∧ h 90 7 = h 88 i ∧ h 90 2 = 0 ∧ h 90 3 = -1
def MU (B : Nat → Nat) (L i : Nat) (h : PH) : Prop := TM B L h ∧ h 104 12 = nI (if pl B L i < L then nx B L (pl B L i) else L) ∧ h 104 13 = nI (pl B L i) ∧ TkM (tk B L (pl B L i)) (h 104 14) (h 104 15)
theorem mu_adv {B : Nat → Nat} {L i : Nat} {h : PH} (m : MU B L i h) : ∃ g, mm_reads h = some g ∧ FR4 h g ∧ MU B L (i + 1) g := by
  obtain ⟨t, e12, e13, e⟩ := m
  have key : ∃ p, p ≤ L ∧ h 104 12 = nI p ∧ rn bBk B L p = pl B L (i + 1) := by
    by_cases c : pl B L i < L
    · rw [if_pos c] at e12
      exact ⟨_, (nx_le B L _ c).2, e12, by rw [pl, if_pos c]⟩
    · rw [if_neg c] at e12
      exact ⟨L, Nat.le_refl _, e12, by rw [pl, if_neg c, rn_st (by omega)]⟩
  obtain ⟨p, p1, p2, p3⟩ := key
  obtain ⟨g, g1, g2, g3, g4, g5⟩ := rd_at t p p1 p2
  rw [p3] at g3 g4 g5
  exact ⟨g, g1, g2, tm_fr t g2, g3, g4, g5⟩
theorem mu_first {B : Nat → Nat} {L : Nat} {h : PH} (t : TM B L h) (e : h 104 12 = 0) : ∃ g, mm_reads h = some g ∧ FR4 h g ∧ MU B L 0 g := by
  obtain ⟨g, g1, g2, g3, g4, g5⟩ := rd_at t 0 (Nat.zero_le _) (by rw [nI_0]; exact e)
  exact ⟨g, g1, g2, tm_fr t g2, g3, g4, g5⟩
def avH (h : PH) (k : Nat) : PH := up (up (up h 90 5 (nI k)) 90 6 (h 87 k)) 90 7 (h 88 k)
theorem avH_b (h : PH) (k b : Nat) (hb : b ≠ 90) : avH h k b = h b := by
  funext j
  unfold avH
  rw [up_oc hb, up_oc hb, up_oc hb]
theorem avH_o (h : PH) (k j : Nat) (h5 : j ≠ 5) (h6 : j ≠ 6) (h7 : j ≠ 7) : avH h k 90 j = h 90 j := by
  unfold avH
  rw [up_oj h7, up_oj h6, up_oj h5]
theorem ctk_b {s : Nat} {B : Nat → Nat} {L N : Nat} {h g : PH} (c : CTk s B L N h) (e5 : g 85 = h 85) (e6 : g 86 = h 86) (e7 : g 87 = h 87) (e8 : g 88 = h 88) (e9 : g 89 = h 89) : CTk s B L N g := by
  obtain ⟨⟨t1, t2, t3⟩, c2, c3, c4, c5, c6⟩ := c
  unfold CTk TC
  rw [e5, e6, e7, e8, e9]
  exact ⟨⟨t1, t2, t3⟩, c2, c3, c4, c5, c6⟩
theorem av_at {s : Nat} {B : Nat → Nat} {L N : Nat} {h : PH} (c : CTk s B L N h) (k : Nat) (hk : k ≤ N) (e : h 90 5 + 1 = nI k) (ef : h 90 2 = 0 ∧ h 90 3 = -1) : mD_advance h = some (avH h k) ∧ CU s B L N k (avH h k) := by
  have cN := c.2.1
  have a1 : up h 90 5 (nI k) 90 5 = nI k := up_same
  have a2 : up h 90 5 (nI k) 85 5 = nI (N + 1) := by rw [up_oc (by decide)]; exact c.2.2.1
  have a3 : ∀ x, up (up h 90 5 (nI k)) 90 6 x 90 5 = nI k := fun x => by rw [up_oj (by decide)]; exact a1
  have x1 : ix (nI k) = k := nI_clamp (by omega)
  constructor
  · unfold mD_advance
    rw [lt_e, e, jn1_e, a1, a2, if_neg (nI_pos (by omega)), if_neg (nI_ge (by omega) (by omega)), if_neg (show ¬ (400 : Int32) < nI k from nI_nlt (a := 400) (by omega) (by decide))]
    try dsimp only
    rw [jn1_e]
    try dsimp only
    rw [if_neg (by decide), ck_nI (show k < 401 by omega) (by decide), x1]
    try dsimp only
    rw [lt_e, jn1_e]
    try dsimp only
    rw [if_neg (by decide), a3, ck_nI (show k < 401 by omega) (by decide), x1]
    try dsimp only
    rw [lt_e, up_oc (show (88 : Nat) ≠ 90 by decide), up_oc (show (88 : Nat) ≠ 90 by decide), up_oc (show (87 : Nat) ≠ 90 by decide)]
    rfl
  · refine ⟨ctk_b c (avH_b h k 85 (by decide)) (avH_b h k 86 (by decide)) (avH_b h k 87 (by decide)) (avH_b h k 88 (by decide)) (avH_b h k 89 (by decide)), hk, ?_, ?_, ?_, by rw [avH_o h k 2 (by decide) (by decide) (by decide)]; exact ef.1, by rw [avH_o h k 3 (by decide) (by decide) (by decide)]; exact ef.2⟩
    · unfold avH
      rw [up_oj (by decide), up_oj (by decide), up_same]
    · rw [avH_b h k 87 (by decide)]
      unfold avH
      rw [up_oj (by decide), up_same]
    · rw [avH_b h k 88 (by decide)]
      unfold avH
      rw [up_same]
theorem cu_adv {s : Nat} {B : Nat → Nat} {L N i : Nat} {h : PH} (c : CU s B L N i h) (hi : i < N) : mD_advance h = some (avH h (i + 1)) ∧ CU s B L N (i + 1) (avH h (i + 1)) :=
  av_at c.1 (i + 1) hi (by rw [c.2.2.1, nI_1]) c.2.2.2.2.2
theorem cu_9 {s : Nat} {B : Nat → Nat} {L N i : Nat} {h : PH} (c : CU s B L N i h) (v : Int32) : CU s B L N i (up h 90 9 v) := by
  obtain ⟨y1, y2, y3, y4, y5, y6, y7⟩ := c
  refine ⟨ctk_b y1 (up_cell (by decide)) (up_cell (by decide)) (up_cell (by decide)) (up_cell (by decide)) (up_cell (by decide)), y2, ?_, ?_, ?_, ?_, ?_⟩
  · rw [up_oj (by decide)]; exact y3
  · rw [up_oj (by decide), up_oc (by decide)]; exact y4
  · rw [up_oj (by decide), up_oc (by decide)]; exact y5
  · rw [up_oj (by decide)]; exact y6
  · rw [up_oj (by decide)]; exact y7
def tt (B : Nat → Nat) (L i : Nat) : Nat × Nat := tk B L (pl B L i)
theorem cu_tk {s : Nat} {B : Nat → Nat} {L N i : Nat} {h : PH} (c : CU s B L N i h) : TkC s (tt B L i) (h 90 6) (h 90 7) := by
  rw [c.2.2.2.1, c.2.2.2.2.1]
  exact (c.1.2.2.2.2.2 i c.2.1).1
/-- what isn't the end has one behind it -/
theorem cu_lt {s : Nat} {B : Nat → Nat} {L N i : Nat} {h : PH} (c : CU s B L N i h) (n : (tt B L i).1 ≠ 0) : i < N := by
  apply Classical.byContradiction
  intro z
  have e : i = N := by have := c.2.1; omega
  apply n
  unfold tt tk
  rw [e, c.1.2.2.2.1, if_neg (by omega)]
theorem wv_inj : ∀ s, s < 4 → ∀ w, w < (wv s).length → ∀ x, x < (wv s).length → (wv s).getD w 99 = (wv s).getD x 99 → w = x := by decide +kernel
theorem c_sg {s : Nat} {B : Nat → Nat} {L N i : Nat} {h : PH} (c : CU s B L N i h) (x : Nat) (hx : x < 256) : mD_isSign (nI x) h = some (if (tt B L i).1 = 4 ∧ (tt B L i).2 = x then 1 else 0) := by
  have k := cu_tk c
  unfold mD_isSign
  rcases k with ⟨a, e⟩ | ⟨a, e⟩ | ⟨a, a2, ⟨w, w1, w2, e, e2⟩ | ⟨e, e2⟩⟩ | ⟨a, a2, e, e2⟩ | ⟨a, a2, e, e2⟩
  · rw [e, if_neg (by decide), if_neg (by omega)]
  · rw [e, if_neg (by decide), if_neg (by omega)]
  · rw [e, if_neg (by decide), if_neg (by omega)]
  · rw [e, if_neg (by decide), if_neg (by omega)]
  · rw [e, if_neg (by decide), if_neg (by omega)]
  · rw [e, if_pos rfl, e2]
    by_cases z : (tt B L i).2 = x
    · rw [if_pos (by rw [z]), if_pos ⟨a, z⟩]
    · rw [if_neg (fun y => z ((nI_eq (by omega) (by omega)).mp y)), if_neg (fun y => z y.2)]
theorem c_wd {s : Nat} {B : Nat → Nat} {L N i : Nat} {h : PH} (hs : s < 4) (c : CU s B L N i h) (x : Nat) (hx : x < (wv s).length) : mD_isWord (nI x) h = some (if (tt B L i).1 = 2 ∧ (tt B L i).2 = (wv s).getD x 99 then 1 else 0) := by
  have k := cu_tk c
  have l := (wk_l s hs).2
  unfold mD_isWord
  rcases k with ⟨a, e⟩ | ⟨a, e⟩ | ⟨a, a2, ⟨w, w1, w2, e, e2⟩ | ⟨e, e2⟩⟩ | ⟨a, a2, e, e2⟩ | ⟨a, a2, e, e2⟩
  · rw [e, if_neg (by decide), if_neg (by omega)]
  · rw [e, if_neg (by decide), if_neg (by omega)]
  · rw [e, if_pos rfl, e2]
    by_cases z : w = x
    · rw [if_pos (by rw [z]), if_pos ⟨a, by rw [← w2, z]⟩]
    · rw [if_neg (fun y => z ((nI_eq (by omega) (by omega)).mp y)), if_neg (fun y => z (wv_inj s hs w w1 x hx (by rw [w2, y.2])))]
  · rw [e, if_neg (by decide), if_neg (fun y => e2 x hx y.2.symm)]
  · rw [e, if_neg (by decide), if_neg (by omega)]
  · rw [e, if_neg (by decide), if_neg (by omega)]
theorem m_sg {B : Nat → Nat} {L i : Nat} {h : PH} (m : MU B L i h) (x : Nat) (hx : x < 256) : mm_isSign (nI x) h = some (if (tt B L i).1 = 4 ∧ (tt B L i).2 = x then 1 else 0) := by
  have k : TkM (tt B L i) (h 104 14) (h 104 15) := m.2.2.2
  unfold mm_isSign
  rcases k with ⟨a, e⟩ | ⟨a, e⟩ | ⟨a, a2, e, e2⟩ | ⟨a, a2, e, e2⟩ | ⟨a, a2, e, e2⟩
  · rw [e, if_neg (by decide), if_neg (by omega)]
  · rw [e, if_neg (by decide), if_neg (by omega)]
  · rw [e, if_neg (by decide), if_neg (by omega)]
  · rw [e, if_neg (by decide), if_neg (by omega)]
  · rw [e, if_pos rfl, e2]
    by_cases z : (tt B L i).2 = x
    · rw [if_pos (by rw [z]), if_pos ⟨a, z⟩]
    · rw [if_neg (fun y => z ((nI_eq (by omega) (by omega)).mp y)), if_neg (fun y => z y.2)]
theorem m_wd {B : Nat → Nat} {L i : Nat} {h : PH} (m : MU B L i h) (x : Nat) (hx : x < 256) : mm_isWord (nI x) h = some (if (tt B L i).1 = 2 ∧ (tt B L i).2 = x then 1 else 0) := by
  have k : TkM (tt B L i) (h 104 14) (h 104 15) := m.2.2.2
  unfold mm_isWord
  rcases k with ⟨a, e⟩ | ⟨a, e⟩ | ⟨a, a2, e, e2⟩ | ⟨a, a2, e, e2⟩ | ⟨a, a2, e, e2⟩
  · rw [e, if_neg (by decide), if_neg (by omega)]
  · rw [e, if_neg (by decide), if_neg (by omega)]
  · rw [e, if_pos rfl, e2]
    by_cases z : (tt B L i).2 = x
    · rw [if_pos (by rw [z]), if_pos ⟨a, z⟩]
    · rw [if_neg (fun y => z ((nI_eq (by omega) (by omega)).mp y)), if_neg (fun y => z y.2)]
  · rw [e, if_neg (by decide), if_neg (by omega)]
  · rw [e, if_neg (by decide), if_neg (by omega)]
theorem c_ref {s : Nat} {B : Nat → Nat} {L N i : Nat} {h : PH} (c : CU s B L N i h) (p : Int32) : mD_refuse p h = some (0, up (up h 90 2 p) 90 3 (nI (pl B L i))) := by
  have cN := c.1.2.1
  have hi := c.2.1
  have a1 : up h 90 2 p 90 5 = nI i := by rw [up_oj (by decide)]; exact c.2.2.1
  have a2 : up h 90 2 p 85 5 = nI (N + 1) := by rw [up_oc (by decide)]; exact c.1.2.2.1
  unfold mD_refuse
  rw [lt_e, jn1_e, a1, a2, if_neg (nI_pos (by omega)), if_neg (nI_ge (by omega) (by omega)), if_neg (show ¬ (400 : Int32) < nI i from nI_nlt (a := 400) (by omega) (by decide)), ck_nI (show i < 401 by omega) (by decide), show ix (nI i) = i from nI_clamp (by omega), up_oc (show (89 : Nat) ≠ 90 by decide), (c.1.2.2.2.2.2 i hi).2]
  try dsimp only
  rw [lt_e]
theorem m_err {B : Nat → Nat} {L i : Nat} {h : PH} (m : MU B L i h) (p : Int32) : mm_errs p h = some (-1, up (up h 104 29 p) 104 30 (nI (pl B L i))) := by
  unfold mm_errs
  rw [lt_e, lt_e, up_oj (by decide), m.2.2.1]
/-! CODES: what they do on a stack -/
def xp : List (Nat × Nat) → List (Nat × Nat)
  | [] => []
  | (k, v) :: r => if k = 5 then (0, v) :: (5, 0) :: xp r else (k, v) :: xp r
theorem xp_app : ∀ a b : List (Nat × Nat), xp (a ++ b) = xp a ++ xp b := by
  intro a
  induction a with
  | nil => intro b; rfl
  | cons c a ih =>
    intro b
    obtain ⟨k, v⟩ := c
    rw [List.cons_append, xp, xp, ih]
    split <;> rfl
theorem xp_le : ∀ a : List (Nat × Nat), a.length ≤ (xp a).length := by
  intro a
  induction a with
  | nil => exact Nat.le_refl _
  | cons c a ih =>
    obtain ⟨k, v⟩ := c
    rw [xp]
    split
    · simp only [List.length_cons]; omega
    · simp only [List.length_cons]; omega
theorem xp_1 {k v : Nat} (h : k ≠ 5) : xp [(k, v)] = [(k, v)] := by rw [xp, if_neg h, xp]
theorem xp_5 (v : Nat) : xp [(5, v)] = [(0, v), (5, 0)] := by rw [xp, if_pos rfl, xp]
def opj (k : Nat) (a b : Int32) : Int32 := if k = 2 then a + b else if k = 3 then a - b else if k = 4 then a * b else if k = 6 then (if a < b then 1 else 0) else if k = 7 then (if a = b then 1 else 0) else if k = 8 then (if b < a then 1 else 0) else if k = 10 then a &&& b else a ||| b
def opm (k : Nat) (a b : Int32) : Int32 := if k = 2 then a + b else if k = 3 then a - b else if k = 4 then a * b else if k = 5 then a / b else if k = 6 then (if a < b then 1 else 0) else if k = 7 then (if a = b then 1 else 0) else if k = 8 then (if b < a then 1 else 0) else if k = 10 then a * b else if 0 < a + b then 1 else 0
def s1C (K : Nat → Int32) (c : Nat × Nat) (st : List Int32) : Option (List Int32) :=
  if c.1 = 0 then (if st.length < 64 then some (nI c.2 :: st) else none)
  else if c.1 = 1 then (if st.length < 64 then some (K c.2 :: st) else none)
  else match st with
    | [] => none
    | b :: r => if c.1 = 5 then some (b / nI c.2 :: r) else if c.1 = 9 then some ((if b = 0 then 1 else 0) :: r) else match r with
      | [] => none
      | a :: r => some (opj c.1 a b :: r)
def s1M (K : Nat → Int32) (c : Nat × Nat) (st : List Int32) : Option (List Int32) :=
  if c.1 = 0 then some (nI c.2 :: st)
  else if c.1 = 1 then some (K c.2 :: st)
  else match st with
    | [] => none
    | b :: r => if c.1 = 9 then some ((1 - b) :: r) else match r with
      | [] => none
      | a :: r => some (opm c.1 a b :: r)
def evC (K : Nat → Int32) : List (Nat × Nat) → List Int32 → Option (List Int32)
  | [], st => some st
  | c :: r, st => bd (s1C K c st) (evC K r)
def evM (K : Nat → Int32) : List (Nat × Nat) → List Int32 → Option (List Int32)
  | [], st => some st
  | c :: r, st => bd (s1M K c st) (evM K r)
theorem evC_app (K : Nat → Int32) : ∀ (a b : List (Nat × Nat)) (st : List Int32), evC K (a ++ b) st = bd (evC K a st) (evC K b) := by
  intro a
  induction a with
  | nil => intro b st; rfl
  | cons c a ih =>
    intro b st
    rw [List.cons_append, evC, evC]
    cases s1C K c st with
    | none => rfl
    | some x => rw [bd_e, bd_e, ih]
theorem evM_app (K : Nat → Int32) : ∀ (a b : List (Nat × Nat)) (st : List Int32), evM K (a ++ b) st = bd (evM K a st) (evM K b) := by
  intro a
  induction a with
  | nil => intro b st; rfl
  | cons c a ih =>
    intro b st
    rw [List.cons_append, evM, evM]
    cases s1M K c st with
    | none => rfl
    | some x => rw [bd_e, bd_e, ih]
/-- codes as they can be -/
def okC (c : Nat × Nat) : Prop := c.1 < 12 ∧ c.2 < 10000 ∧ (c.1 = 1 → c.2 < 12) ∧ (c.1 = 5 → 0 < c.2)
theorem ok_app {A D : List (Nat × Nat)} (a : ∀ c, c ∈ A → okC c) (d : ∀ c, c ∈ D → okC c) : ∀ c, c ∈ A ++ D → okC c := fun c hc => by
  rcases List.mem_append.mp hc with h | h
  · exact a c h
  · exact d c h
theorem ok_one {k v : Nat} (h : okC (k, v)) : ∀ c, c ∈ [(k, v)] → okC c := fun c hc => by
  have e : c = (k, v) := by simpa using hc
  rw [e]
  exact h
/-- codes that put one number on the stack, the same on both sides -/
def Qv (P : Int32 → Prop) (n : Nat) (C : List (Nat × Nat)) : Prop := (∀ c, c ∈ C → okC c) ∧ ∃ f : (Nat → Int32) → Int32, (∀ K, P (f K)) ∧ ∀ K st, st.length + n ≤ 64 → evC K C st = some (f K :: st) ∧ evM K (xp C) st = some (f K :: st)
def PT (_ : Int32) : Prop := True
def P01 (x : Int32) : Prop := x = 0 ∨ x = 1
theorem q_w {P : Int32 → Prop} {n m : Nat} {C : List (Nat × Nat)} (q : Qv P n C) (h : n ≤ m) : Qv P m C := by
  obtain ⟨o, f, f1, f2⟩ := q
  exact ⟨o, f, f1, fun K st hs => f2 K st (by omega)⟩
theorem q_unit (k v : Nat) (hk : (k = 0 ∧ v < 10000) ∨ (k = 1 ∧ v < 12)) : Qv PT 1 [(k, v)] := by
  rcases hk with ⟨hk, hv⟩ | ⟨hk, hv⟩
  · subst hk
    refine ⟨ok_one ⟨by show (0 : Nat) < 12; decide, hv, fun z => absurd (show (0 : Nat) = 1 from z) (by decide), fun z => absurd (show (0 : Nat) = 5 from z) (by decide)⟩, fun _ => nI v, fun _ => trivial, fun K st hs => ⟨?_, ?_⟩⟩
    · have e : s1C K (0, v) st = (if st.length < 64 then some (nI v :: st) else none) := rfl
      rw [evC, e, if_pos (by omega), bd_e, evC]
    · have e : s1M K (0, v) st = some (nI v :: st) := rfl
      rw [xp_1 (by decide), evM, e, bd_e, evM]
  · subst hk
    refine ⟨ok_one ⟨by show (1 : Nat) < 12; decide, by show v < 10000; omega, fun _ => hv, fun z => absurd (show (1 : Nat) = 5 from z) (by decide)⟩, fun K => K v, fun _ => trivial, fun K st hs => ⟨?_, ?_⟩⟩
    · have e : s1C K (1, v) st = (if st.length < 64 then some (K v :: st) else none) := rfl
      rw [evC, e, if_pos (by omega), bd_e, evC]
    · have e : s1M K (1, v) st = some (K v :: st) := rfl
      rw [xp_1 (by decide), evM, e, bd_e, evM]
theorem q_bin {P1 P2 P : Int32 → Prop} {n m t k : Nat} {A D : List (Nat × Nat)} (qa : Qv P1 n A) (qd : Qv P2 m D) (k0 : k ≠ 0) (k1 : k ≠ 1) (k5 : k ≠ 5) (k9 : k ≠ 9) (hn : n ≤ t) (hm : m + 1 ≤ t) (ho : ∀ a b, P1 a → P2 b → opj k a b = opm k a b ∧ P (opj k a b)) (k12 : k < 12 := by omega) : Qv P t (A ++ D ++ [(k, 0)]) := by
  obtain ⟨oa, f, f1, f2⟩ := qa
  obtain ⟨od, g, g1, g2⟩ := qd
  refine ⟨ok_app (ok_app oa od) (ok_one ⟨k12, by show (0 : Nat) < 10000; decide, fun z => absurd z k1, fun z => absurd z k5⟩), fun K => opj k (f K) (g K), fun K => (ho _ _ (f1 K) (g1 K)).2, fun K st hs => ⟨?_, ?_⟩⟩
  · rw [evC_app, evC_app, (f2 K st (by omega)).1, bd_e, (g2 K (f K :: st) (by simp only [List.length_cons]; omega)).1, bd_e, evC, s1C, if_neg k0, if_neg k1]
    simp only [if_neg k5, if_neg k9]
    rw [bd_e, evC]
  · rw [xp_app, xp_app, xp_1 k5, evM_app, evM_app, (f2 K st (by omega)).2, bd_e, (g2 K (f K :: st) (by simp only [List.length_cons]; omega)).2, bd_e, evM, s1M, if_neg k0, if_neg k1]
    simp only [if_neg k9]
    rw [bd_e, evM, (ho _ _ (f1 K) (g1 K)).1]
theorem q_part {P : Int32 → Prop} {n : Nat} {A : List (Nat × Nat)} (v : Nat) (qa : Qv P n A) (hv : 0 < v ∧ v < 10000 := by omega) : Qv PT n (A ++ [(5, v)]) := by
  obtain ⟨oa, f, f1, f2⟩ := qa
  refine ⟨ok_app oa (ok_one ⟨by show (5 : Nat) < 12; decide, hv.2, fun z => absurd (show (5 : Nat) = 1 from z) (by decide), fun _ => hv.1⟩), fun K => f K / nI v, fun K => trivial, fun K st hs => ⟨?_, ?_⟩⟩
  · rw [evC_app, (f2 K st hs).1, bd_e]
    rfl
  · rw [xp_app, xp_5, evM_app, (f2 K st hs).2, bd_e]
    rfl
theorem q_not {n : Nat} {A : List (Nat × Nat)} (qa : Qv P01 n A) : Qv P01 n (A ++ [(9, 0)]) := by
  obtain ⟨oa, f, f1, f2⟩ := qa
  refine ⟨ok_app oa (ok_one ⟨by show (9 : Nat) < 12; decide, by show (0 : Nat) < 10000; decide, fun z => absurd (show (9 : Nat) = 1 from z) (by decide), fun z => absurd (show (9 : Nat) = 5 from z) (by decide)⟩), fun K => if f K = 0 then 1 else 0, fun K => ?_, fun K st hs => ⟨?_, ?_⟩⟩
  · show P01 (if f K = 0 then 1 else 0)
    split
    · exact Or.inr rfl
    · exact Or.inl rfl
  · rw [evC_app, (f2 K st hs).1, bd_e]
    rfl
  · rw [xp_app, xp_1 (by decide), evM_app, (f2 K st hs).2, bd_e]
    have : ∀ x, P01 x → (if x = 0 then (1 : Int32) else 0) = 1 - x := fun x hx => by
      rcases hx with e | e <;> subst e <;> decide
    show some ((1 - f K) :: st) = some ((if f K = 0 then (1 : Int32) else 0) :: st)
    rw [this _ (f1 K)]
theorem op_ar {k : Nat} (hk : k = 2 ∨ k = 3 ∨ k = 4) (a b : Int32) (_ : PT a) (_ : PT b) : opj k a b = opm k a b ∧ PT (opj k a b) := by
  rcases hk with e | e | e <;> subst e <;> exact ⟨rfl, trivial⟩
theorem op_cm {k : Nat} (hk : k = 6 ∨ k = 7 ∨ k = 8) (a b : Int32) (_ : PT a) (_ : PT b) : opj k a b = opm k a b ∧ P01 (opj k a b) := by
  rcases hk with e | e | e
  · subst e
    refine ⟨rfl, ?_⟩
    show P01 (if a < b then 1 else 0)
    split
    · exact Or.inr rfl
    · exact Or.inl rfl
  · subst e
    refine ⟨rfl, ?_⟩
    show P01 (if a = b then 1 else 0)
    split
    · exact Or.inr rfl
    · exact Or.inl rfl
  · subst e
    refine ⟨rfl, ?_⟩
    show P01 (if b < a then 1 else 0)
    split
    · exact Or.inr rfl
    · exact Or.inl rfl
theorem op_lg {k : Nat} (hk : k = 10 ∨ k = 11) (a b : Int32) (ha : P01 a) (hb : P01 b) : opj k a b = opm k a b ∧ P01 (opj k a b) := by
  rcases hk with e | e <;> subst e <;> rcases ha with x | x <;> rcases hb with y | y <;> subst x <;> subst y <;> exact ⟨by decide, by unfold P01; decide⟩
