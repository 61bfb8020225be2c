/-! CRUMBS answer alike -/
theorem at_r {a m w : Nat} (hl : ln (a + 1) = m * w) (hm : m ≤ 400) (hw : w ≤ 5) {h : PH} (r1 : h a 1 = nI w) {n k c : Nat} (en : h a 3 = nI n) (hn : n ≤ m) (hk : k < n) (hc : c < w) : mR_at a (nI k) (nI c) h = some (h (a + 1) (k * w + c)) := by
  have big : k * w + c < m * w := by
    have h1 : (k + 1) * w ≤ m * w := Nat.mul_le_mul_right w (by omega)
    rw [Nat.add_mul, Nat.one_mul] at h1
    omega
  have mw : m * w ≤ 2000 := by
    have := Nat.mul_le_mul hm hw
    omega
  have nz : ∀ q : Nat, q < 2 ^ 31 → ¬ nI q < 0 := fun q hq => by
    rw [Int32.lt_iff_toInt_lt, nI_toInt hq]
    simp only [show (0 : Int32).toInt = 0 from rfl]
    omega
  unfold mR_at
  rw [if_neg (nz k (by omega)), en, if_neg (nI_ge hk (by omega)), if_neg (nz c (by omega)), r1, if_pos (nI_lt hc (by omega)), nI_mul, nI_add, ck_nI (by omega) (by omega), show ix (nI (k * w + c)) = k * w + c from nI_clamp (by omega)]
def kN (X : Nat → Int32) : Nat → Int32
  | 0 => 0
  | k + 1 => kN X k + (if X k = 0 then 1 else if X k = 2 then -1 else 0)
def kE (X : Nat → Int32) : Nat → Int32
  | 0 => 0
  | k + 1 => kE X k + (if X k = 1 then 1 else if X k = 3 then -1 else 0)
theorem k_one {a b c : Int32} {k : Nat} (hk : k ≤ 100) (h : R (-(k : Int)) (k : Int) a) (hb : b = 1 ∨ b = -1 ∨ b = 0) : R (-((k + 1 : Nat) : Int)) ((k + 1 : Nat) : Int) (a + b) := by
  have rb : R (-1) 1 b := by rcases hb with rfl | rfl | rfl <;> exact ⟨by decide, by decide⟩
  have := i_add h rb (by omega)
  obtain ⟨h1, h2⟩ := h
  obtain ⟨h3, h4⟩ := rb
  exact ⟨by omega, by omega⟩
theorem kN_r (X : Nat → Int32) : ∀ k : Nat, k ≤ 100 → R (-(k : Int)) (k : Int) (kN X k) := by
  intro k
  induction k with
  | zero => intro _; exact (show R (-((0 : Nat) : Int)) ((0 : Nat) : Int) (0 : Int32) from ⟨by decide, by decide⟩)
  | succ k ih =>
    intro hk
    rw [kN]
    refine k_one (c := 0) (by omega) (ih (by omega)) ?_
    split
    · exact Or.inl rfl
    · split
      · exact Or.inr (Or.inl rfl)
      · exact Or.inr (Or.inr rfl)
theorem kE_r (X : Nat → Int32) : ∀ k : Nat, k ≤ 100 → R (-(k : Int)) (k : Int) (kE X k) := by
  intro k
  induction k with
  | zero => intro _; exact (show R (-((0 : Nat) : Int)) ((0 : Nat) : Int) (0 : Int32) from ⟨by decide, by decide⟩)
  | succ k ih =>
    intro hk
    rw [kE]
    refine k_one (c := 0) (by omega) (ih (by omega)) ?_
    split
    · exact Or.inl rfl
    · split
      · exact Or.inr (Or.inl rfl)
      · exact Or.inr (Or.inr rfl)
def kC (X : Nat → Int32) (k : Nat) : Nat := (41 * ((kN X k).toInt + 20) + (kE X k).toInt + 20).toNat
theorem kC_i (X : Nat → Int32) (k : Nat) (hk : k ≤ 16) : ((kC X k : Nat) : Int) = 41 * ((kN X k).toInt + 20) + (kE X k).toInt + 20 ∧ kC X k < 1681 := by
  have r1 := kN_r X k (by omega)
  have r2 := kE_r X k (by omega)
  obtain ⟨a1, a2⟩ := r1
  obtain ⟨b1, b2⟩ := r2
  unfold kC
  omega
theorem kC_eq (X : Nat → Int32) (i j : Nat) (hi : i ≤ 16) (hj : j ≤ 16) : kC X i = kC X j ↔ (kN X i = kN X j ∧ kE X i = kE X j) := by
  have r1 := kN_r X i (by omega)
  have r2 := kE_r X i (by omega)
  have r3 := kN_r X j (by omega)
  have r4 := kE_r X j (by omega)
  obtain ⟨a1, a2⟩ := r1
  obtain ⟨b1, b2⟩ := r2
  obtain ⟨c1, c2⟩ := r3
  obtain ⟨d1, d2⟩ := r4
  have e1 := (kC_i X i hi).1
  have e2 := (kC_i X j hj).1
  constructor
  · intro h
    have h' : ((kC X i : Nat) : Int) = ((kC X j : Nat) : Int) := by rw [h]
    exact ⟨Int32.toInt_inj.mp (by omega), Int32.toInt_inj.mp (by omega)⟩
  · intro h
    unfold kC
    rw [h.1, h.2]
def kT (X : Nat → Int32) : Nat → Nat → Nat
  | 0, c => if c = kC X 0 then 1 else 0
  | k + 1, c => kT X k c + if c = kC X (k + 1) then 1 else 0
def tS (f : Nat → Nat) : Nat → Nat
  | 0 => 0
  | m + 1 => tS f m + if 2 ≤ f m then 1 else 0
def bF (X : Nat → Int32) (i : Nat) : Nat → Nat
  | 0 => 0
  | m + 1 => bF X i m + if kN X m = kN X i ∧ kE X m = kE X i then 1 else 0
def clN (X : Nat → Int32) : Nat → Nat
  | 0 => 0
  | m + 1 => clN X m + if bF X m m = 1 then 1 else 0
theorem bF_kT (X : Nat → Int32) (i : Nat) (hi : i ≤ 16) : ∀ m, m ≤ 16 → bF X i (m + 1) = kT X m (kC X i) := by
  intro m
  induction m with
  | zero =>
    intro _
    rw [bF, bF, kT, Nat.zero_add]
    by_cases c : kC X i = kC X 0
    · rw [if_pos c, if_pos ((kC_eq X 0 i (by omega) hi).mp c.symm)]
    · rw [if_neg c, if_neg (fun q => c ((kC_eq X 0 i (by omega) hi).mpr q).symm)]
  | succ m ih =>
    intro hm
    rw [bF, ih (by omega), kT]
    congr 1
    by_cases c : kC X i = kC X (m + 1)
    · rw [if_pos c, if_pos ((kC_eq X (m + 1) i hm hi).mp c.symm)]
    · rw [if_neg c, if_neg (fun q => c ((kC_eq X (m + 1) i hm hi).mpr q).symm)]
theorem tS_upd (f g : Nat → Nat) (c0 : Nat) (h0 : g c0 = f c0 + 1) (h1 : ∀ c, c ≠ c0 → g c = f c) : ∀ m, tS g m = tS f m + if c0 < m ∧ f c0 = 1 then 1 else 0 := by
  intro m
  induction m with
  | zero => rw [tS, tS, if_neg (by omega)]
  | succ m ih =>
    rw [tS, tS, ih]
    by_cases e : m = c0
    · subst e
      rw [h0, if_neg (show ¬ (m < m ∧ f m = 1) by omega)]
      by_cases c : f m = 1
      · rw [if_pos (show 2 ≤ f m + 1 by omega), if_neg (show ¬ 2 ≤ f m by omega), if_pos (show m < m + 1 ∧ f m = 1 from ⟨by omega, c⟩)]
      · rw [if_neg (show ¬ (m < m + 1 ∧ f m = 1) from fun q => c q.2)]
        by_cases c2 : 2 ≤ f m
        · rw [if_pos (show 2 ≤ f m + 1 by omega), if_pos c2]
        · rw [if_neg (show ¬ 2 ≤ f m + 1 by omega), if_neg c2]
    · rw [h1 m e]
      have : (c0 < m + 1 ∧ f c0 = 1) ↔ (c0 < m ∧ f c0 = 1) := by omega
      by_cases c : c0 < m ∧ f c0 = 1
      · rw [if_pos c, if_pos (this.mpr c)]; omega
      · rw [if_neg c, if_neg (fun q => c (this.mp q))]; omega
theorem tS_one (c0 : Nat) : ∀ m, tS (fun c => if c = c0 then 1 else 0) m = 0 := by
  intro m
  induction m with
  | zero => rfl
  | succ m ih =>
    rw [tS, ih]
    split <;> rfl
theorem tS_cl (X : Nat → Int32) : ∀ k, k ≤ 16 → tS (kT X k) 1681 = clN X (k + 1) := by
  intro k
  induction k with
  | zero =>
    intro _
    have e : kT X 0 = fun c => if c = kC X 0 then 1 else 0 := rfl
    rw [e, tS_one]
    rfl
  | succ k ih =>
    intro hk
    have u := tS_upd (kT X k) (kT X (k + 1)) (kC X (k + 1)) (by rw [kT, if_pos rfl]) (fun c hc => by rw [kT, if_neg hc]; rfl) 1681
    rw [u, ih (by omega), show clN X (k + 1 + 1) = clN X (k + 1) + (if bF X (k + 1) (k + 1) = 1 then 1 else 0) from rfl]
    congr 1
    rw [bF_kT X (k + 1) hk k (by omega)]
    by_cases c : kT X k (kC X (k + 1)) = 1
    · rw [if_pos c, if_pos ⟨(kC_i X (k + 1) hk).2, c⟩]
    · rw [if_neg c, if_neg (fun q => c q.2)]
theorem kT_le (X : Nat → Int32) (c : Nat) : ∀ k, kT X k c ≤ k + 1 := by
  intro k
  induction k with
  | zero => rw [kT]; split <;> omega
  | succ k ih => rw [kT]; split <;> omega
/-! the class's walk -/
theorem wk_go (h : PH) (r1 : h 26 1 = nI 1) (n : Nat) (hn : n ≤ 16) (en : h 26 3 = nI n) : ∀ (f k : Nat) (g : PH), n < f + k → k ≤ n → g 26 = h 26 → g 27 = h 27 → (∀ j, j ≤ k → g 100 j = kN (h 27) j ∧ g 101 j = kE (h 27) j) → ∃ g', mK_walk_L26 26 (nI n) f (nI k) g = some (nI n, g') ∧ ∀ j, j ≤ n → g' 100 j = kN (h 27) j ∧ g' 101 j = kE (h 27) j := by
  intro f
  induction f with
  | zero => intro k g h1 h2; omega
  | succ f ih =>
    intro k g h1 h2 g26 g27 hg
    rw [mK_walk_L26]
    by_cases e : k = n
    · subst e
      rw [if_pos (nI_le (Nat.le_refl _) (by omega))]
      exact ⟨g, rfl, hg⟩
    · have hk : k < n := by omega
      have a0 : mR_at 26 (nI k) 0 g = some (h 27 k) := by
        have := at_r (a := 26) (m := 16) (w := 1) rfl (by decide) (by decide) (h := g) (by rw [g26]; exact r1) (c := 0) (by rw [g26]; exact en) hn hk (by decide)
        rw [nI_0, show k * 1 + 0 = k by omega, g27] at this
        exact this
      obtain ⟨q1, q2⟩ := hg k (Nat.le_refl _)
      rw [if_neg (nI_ge hk (by omega)), a0, bd_e, ck_nI (by omega) (by decide), nI_1]
      have ixk : ix (nI k) = k := nI_clamp (by omega)
      have ixk1 : ix (nI (k + 1)) = k + 1 := nI_clamp (by omega)
      have ck1 : ∀ {ρ : Type} (q : Option ρ), ck (nI (k + 1)) 17 q = q := fun q => ck_nI (by omega) (by decide)
      have ck0 : ∀ {ρ : Type} (q : Option ρ), ck (nI k) 17 q = q := fun q => ck_nI (by omega) (by decide)
      simp only [ixk, ixk1, ck1, ck0, lt_e, jn1_e]
      have fin : ∀ x6 x9 : Int32, kN (h 27) (k + 1) = kN (h 27) k + x6 → kE (h 27) (k + 1) = kE (h 27) k + x9 → ∃ g', mK_walk_L26 26 (nI n) f (nI (k + 1)) (up (up g 100 (k + 1) (g 100 k + x6)) 101 (k + 1) (up g 100 (k + 1) (g 100 k + x6) 101 k + x9)) = some (nI n, g') ∧ ∀ j, j ≤ n → g' 100 j = kN (h 27) j ∧ g' 101 j = kE (h 27) j := fun x6 x9 e6 e9 => by
        refine ih (k + 1) _ (by omega) (by omega) ?_ ?_ (fun j hj => ?_)
        · rw [up_cell (by decide), up_cell (by decide)]; exact g26
        · rw [up_cell (by decide), up_cell (by decide)]; exact g27
        · by_cases ej : j = k + 1
          · subst ej
            rw [up_oc (by decide), up_same, up_same, up_oc (by decide), q1, q2, e6, e9]
            exact ⟨rfl, rfl⟩
          · rw [up_oc (by decide), up_oj ej, up_oj ej, up_oc (by decide)]
            exact hg j (by omega)
      have s1 : kN (h 27) (k + 1) = kN (h 27) k + (if h 27 k = 0 then 1 else if h 27 k = 2 then -1 else 0) := rfl
      have s2 : kE (h 27) (k + 1) = kE (h 27) k + (if h 27 k = 1 then 1 else if h 27 k = 3 then -1 else 0) := rfl
      by_cases c0 : h 27 k = 0
      · rw [if_pos c0] at s1
        rw [if_neg (by rw [c0]; decide), if_neg (by rw [c0]; decide)] at s2
        rw [if_pos c0, if_neg (by rw [c0]; decide), if_neg (by rw [c0]; decide)]
        exact fin _ _ s1 s2
      · rw [if_neg c0] at s1
        rw [if_neg c0]
        by_cases c2 : h 27 k = 2
        · rw [if_pos c2] at s1
          rw [if_neg (by rw [c2]; decide), if_neg (by rw [c2]; decide)] at s2
          rw [if_pos c2, if_neg (by rw [c2]; decide), if_neg (by rw [c2]; decide)]
          exact fin _ _ s1 s2
        · rw [if_neg c2] at s1
          rw [if_neg c2]
          by_cases c1 : h 27 k = 1
          · rw [if_pos c1] at s2 ⊢
            exact fin _ _ s1 s2
          · rw [if_neg c1] at s2 ⊢
            by_cases c3 : h 27 k = 3
            · rw [if_pos c3] at s2 ⊢
              exact fin _ _ s1 s2
            · rw [if_neg c3] at s2 ⊢
              exact fin _ _ s1 s2
theorem walk_at (h : PH) (i : Inv h) (n : Nat) (hn : n ≤ 16) (en : h 26 3 = nI n) : ∃ g, mK_walk 26 h = some (nI n, g) ∧ ∀ j, j ≤ n → g 100 j = kN (h 27) j ∧ g 101 j = kE (h 27) j := by
  have r1 := (rows_n (a := 26) (m := 16) (w := 1) rfl (by decide) (by decide) i).2
  have c0 : ∀ {ρ : Type} (q : Option ρ), ck 0 17 q = q := fun q => ck_nI (i := 0) (by decide) (by decide)
  have m16 : imin (h 26 3) 16 = nI n := by
    rw [en]
    unfold imin
    by_cases c : (16 : Int32) < nI n
    · rw [Int32.lt_iff_toInt_lt, nI_toInt (by omega)] at c
      simp only [show (16 : Int32).toInt = 16 from rfl] at c
      omega
    · rw [if_neg c]
  obtain ⟨g, q1, q2⟩ := wk_go h r1 n hn en FU 0 (up (up h 100 0 0) 101 0 0) (by unfold FU; omega) (by omega) (by rw [up_cell (by decide), up_cell (by decide)]) (by rw [up_cell (by decide), up_cell (by decide)]) (fun j hj => by
    have : j = 0 := by omega
    subst this
    exact ⟨by rw [up_oc (by decide), up_same]; rfl, by rw [up_same]; rfl⟩)
  rw [nI_0] at q1
  refine ⟨g, ?_, q2⟩
  unfold mK_walk
  rw [lt_e, m16, c0, lt_e, c0, lt_e, show ix (0 : Int32) = 0 from rfl]
  exact q1
theorem pc23 (X : Nat → Int32) (n i : Nat) (hi : i ≤ 16) (p3 : Int32) (g : PH) (hg : ∀ j, j ≤ i → g 100 j = kN X j ∧ g 101 j = kE X j) (k0 : Int32 → Option (Int32 × PH)) : ∀ (f m : Nat), i < f + m → m ≤ i → mK_placesCrossed_L23 (nI n) p3 (nI i) g k0 f (nI (bF X i m)) (nI m) = k0 (nI (bF X i i)) := by
  intro f
  induction f with
  | zero => intro m h1 h2; omega
  | succ f ih =>
    intro m h1 h2
    rw [mK_placesCrossed_L23]
    by_cases e : m = i
    · subst e
      rw [if_pos (nI_le (Nat.le_refl _) (by omega))]
    · have hm : m < i := by omega
      have cm : ∀ {ρ : Type} (q : Option ρ), ck (nI m) 17 q = q := fun q => ck_nI (by omega) (by decide)
      have ci : ∀ {ρ : Type} (q : Option ρ), ck (nI i) 17 q = q := fun q => ck_nI (by omega) (by decide)
      have im : ix (nI m) = m := nI_clamp (by omega)
      have ii : ix (nI i) = i := nI_clamp (by omega)
      obtain ⟨a1, a2⟩ := hg m (by omega)
      obtain ⟨b1, b2⟩ := hg i (Nat.le_refl _)
      rw [if_neg (nI_ge hm (by omega)), cm, ci, im, ii, a1, b1, nI_1]
      have s : bF X i (m + 1) = bF X i m + if kN X m = kN X i ∧ kE X m = kE X i then 1 else 0 := rfl
      have go := ih (m + 1) (by omega) (by omega)
      by_cases c1 : kN X m = kN X i
      · rw [if_pos c1, cm, ci, a2, b2]
        by_cases c2 : kE X m = kE X i
        · rw [if_pos ⟨c1, c2⟩] at s
          rw [if_pos c2, nI_1, ← s]
          exact go
        · rw [if_neg (show ¬ (kN X m = kN X i ∧ kE X m = kE X i) from fun q => c2 q.2)] at s
          have s : bF X i (m + 1) = bF X i m := s
          rw [s] at go
          rw [if_neg c2, nI_1]
          exact go
      · rw [if_neg (show ¬ (kN X m = kN X i ∧ kE X m = kE X i) from fun q => c1 q.1)] at s
        have s : bF X i (m + 1) = bF X i m := s
        rw [s] at go
        rw [if_neg c1, nI_1]
        exact go
theorem bF_le (X : Nat → Int32) (i : Nat) : ∀ m, bF X i m ≤ m := by
  intro m
  induction m with
  | zero => exact Nat.le_refl _
  | succ m ih => rw [bF]; split <;> omega
theorem pc11 (X : Nat → Int32) (n : Nat) (hn : n ≤ 16) (g : PH) (hg : ∀ j, j ≤ n → g 100 j = kN X j ∧ g 101 j = kE X j) : ∀ (f m : Nat), n + 1 < f + m → m ≤ n + 1 → mK_placesCrossed_L11 (nI n) g f (nI (clN X m)) (nI m) = some (nI (clN X (n + 1)), g) := by
  intro f
  induction f with
  | zero => intro m h1 h2; omega
  | succ f ih =>
    intro m h1 h2
    rw [mK_placesCrossed_L11]
    by_cases e : m = n + 1
    · subst e
      rw [if_pos (nI_lt (by omega) (by omega))]
    · have hm : m ≤ n := by omega
      have nl : ¬ nI n < nI m := by
        rw [Int32.lt_iff_toInt_lt, nI_toInt (by omega), nI_toInt (by omega)]
        omega
      rw [if_neg nl]
      have key := pc23 X n m (by omega) (nI (clN X m)) g (fun j hj => hg j (by omega)) (fun (x3 : Int32) => if x3 = 1 then mK_placesCrossed_L11 (nI n) g f (nI (clN X m) + 1) (nI m + 1) else mK_placesCrossed_L11 (nI n) g f (nI (clN X m)) (nI m + 1)) FU 0 (by unfold FU; omega) (by omega)
      rw [show bF X m 0 = 0 from rfl, nI_0] at key
      rw [key]
      have s : clN X (m + 1) = clN X m + if bF X m m = 1 then 1 else 0 := rfl
      have go := ih (m + 1) (by omega) (by omega)
      have bl := bF_le X m m
      by_cases c : bF X m m = 1
      · rw [if_pos c] at s
        rw [if_pos (show nI (bF X m m) = 1 by rw [c]; rfl), nI_1, nI_1, ← s]
        exact go
      · rw [if_neg c] at s
        have s : clN X (m + 1) = clN X m := s
        rw [s] at go
        rw [if_neg (show ¬ nI (bF X m m) = 1 from fun q => c ((nI_eq (a := bF X m m) (b := 1) (by omega) (by omega)).mp q)), nI_1]
        exact go
/-! the model's side -/
theorem mc19 (p1 : Int32) (k0 : PH → Option (Int32 × PH)) : ∀ (f k : Nat) (g : PH), 1681 < f + k → k ≤ 1681 → (∀ c, c < k → g 136 c = 0) → ∃ g', mm_crumbs_L19 p1 k0 f (nI k) g = k0 g' ∧ (∀ c, c < 1681 → g' 136 c = 0) ∧ ∀ b, b ≠ 136 → g' b = g b := by
  intro f
  induction f with
  | zero => intro k g h1 h2; omega
  | succ f ih =>
    intro k g h1 h2 hz
    rw [mm_crumbs_L19]
    by_cases e : k = 1681
    · subst e
      rw [if_pos (show (1681 : Int32) ≤ nI 1681 by decide)]
      exact ⟨g, rfl, hz, fun _ _ => rfl⟩
    · rw [if_neg (show ¬ (1681 : Int32) ≤ nI k from nI_ge (b := 1681) (by omega) (by omega)), ck_nI (by omega) (by decide), lt_e, nI_1, show ix (nI k) = k from nI_clamp (by omega)]
      obtain ⟨g', q1, q2, q3⟩ := ih (k + 1) (up g 136 k 0) (by omega) (by omega) (fun c hc => by
        by_cases e2 : c = k
        · subst e2; exact up_same
        · rw [up_oj e2]; exact hz c (by omega))
      exact ⟨g', q1, q2, fun b hb => by rw [q3 b hb, up_cell hb]⟩
theorem code_ix {a b : Int32} (ha : R (-17) 17 a) (hb : R (-17) 17 b) : (((41 * (a + 20)) + b) + 20).toInt = 41 * (a.toInt + 20) + b.toInt + 20 := by
  have s1 : (a + 20).toInt = a.toInt + 20 := i_inc ha (k := 20) rfl (by decide)
  obtain ⟨a1, a2⟩ := ha
  have hb' := hb
  obtain ⟨b1, b2⟩ := hb
  have s2 : (41 * (a + 20)).toInt = 41 * (a.toInt + 20) := by
    rw [Int32.toInt_mul, s1, show (41 : Int32).toInt = 41 from rfl, Int.bmod_eq_of_le_mul_two (by omega) (by omega)]
  have r2 : R 123 1517 (41 * (a + 20)) := ⟨by omega, by omega⟩
  have s3 := i_add r2 hb' (by decide)
  have r3 : R 106 1534 (41 * (a + 20) + b) := ⟨by omega, by omega⟩
  have s4 : (41 * (a + 20) + b + 20).toInt = (41 * (a + 20) + b).toInt + 20 := i_inc r3 (k := 20) rfl (by decide)
  omega
theorem mc55 (p1 : Int32) (X : Nat → Int32) (n : Nat) (hn : n ≤ 16) (hX : ∀ k, k < n → R 0 3 (X k)) (k0 : Int32 → Int32 → PH → Option (Int32 × PH)) : ∀ (f k : Nat) (g : PH), n < f + k → k ≤ n → g 104 54 = nI n → (∀ j, j < n → g 135 j = X j) → (∀ c, c < 1681 → g 136 c = nI (kT X k c)) → ∃ g', mm_crumbs_L55 p1 k0 f (kN X k) (kE X k) (nI k) g = k0 (kN X n) (kE X n) g' ∧ ∀ c, c < 1681 → g' 136 c = nI (kT X n c) := by
  intro f
  induction f with
  | zero => intro k g h1 h2; omega
  | succ f ih =>
    intro k g h1 h2 e54 hw hg
    rw [mm_crumbs_L55, e54]
    by_cases e : k = n
    · subst e
      rw [if_pos (nI_le (Nat.le_refl _) (by omega))]
      exact ⟨g, rfl, hg⟩
    · have hk : k < n := by omega
      have ck0 : ∀ {ρ : Type} (q : Option ρ), ck (nI k) 16 q = q := fun q => ck_nI (by omega) (by decide)
      have ixk : ix (nI k) = k := nI_clamp (by omega)
      rw [if_neg (nI_ge hk (by omega))]
      simp only [ck0, ixk, hw k hk, nI_1, lt_e]
      rw [jn2_e]
      dsimp only
      rw [jn0_e]
      have fin : ∀ x7 x8 : Int32, x7 = kN X (k + 1) → x8 = kE X (k + 1) → ∃ g', (ck (((41 * (x7 + 20)) + x8) + 20) 1681 <| ck (((41 * (x7 + 20)) + x8) + 20) 1681 <| mm_crumbs_L55 p1 k0 f x7 x8 (nI (k + 1)) (up g 136 (ix (((41 * (x7 + 20)) + x8) + 20)) (g 136 (ix (((41 * (x7 + 20)) + x8) + 20)) + 1))) = k0 (kN X n) (kE X n) g' ∧ ∀ c, c < 1681 → g' 136 c = nI (kT X n c) := fun x7 x8 e7 e8 => by
        subst e7 e8
        have rN : R (-17) 17 (kN X (k + 1)) := r_w (kN_r X (k + 1) (by omega)) (by omega)
        have rE : R (-17) 17 (kE X (k + 1)) := r_w (kE_r X (k + 1) (by omega)) (by omega)
        have ei := code_ix rN rE
        obtain ⟨c1, c2⟩ := kC_i X (k + 1) (by omega)
        have eq : ((41 * (kN X (k + 1) + 20)) + kE X (k + 1)) + 20 = nI (kC X (k + 1)) := Int32.toInt_inj.mp (by rw [ei, nI_toInt (by omega), c1])
        rw [eq, ck_nI c2 (by decide), ck_nI c2 (by decide), show ix (nI (kC X (k + 1))) = kC X (k + 1) from nI_clamp (by omega)]
        refine ih (k + 1) _ (by omega) (by omega) (by rw [up_oc (by decide)]; exact e54) (fun j hj => by rw [up_oc (by decide)]; exact hw j hj) (fun c hc => ?_)
        have s : kT X (k + 1) c = kT X k c + if c = kC X (k + 1) then 1 else 0 := rfl
        by_cases ec : c = kC X (k + 1)
        · rw [s, if_pos ec, ec, up_same, hg _ c2, nI_1]
        · rw [s, if_neg ec, Nat.add_zero, up_oj ec]
          exact hg c hc
      have s1 : kN X (k + 1) = kN X k + (if X k = 0 then 1 else if X k = 2 then -1 else 0) := rfl
      have s2 : kE X (k + 1) = kE X k + (if X k = 1 then 1 else if X k = 3 then -1 else 0) := rfl
      by_cases c0 : X k = 0
      · rw [if_pos c0] at s1
        rw [if_neg (by rw [c0]; decide), if_neg (by rw [c0]; decide), Int32.add_zero] at s2
        simp only [if_pos c0]
        exact fin _ _ s1.symm s2.symm
      · rw [if_neg c0] at s1
        by_cases c2 : X k = 2
        · rw [if_pos c2] at s1
          rw [if_neg (by rw [c2]; decide), if_neg (by rw [c2]; decide), Int32.add_zero] at s2
          simp only [if_neg c0, if_pos c2]
          exact fin _ _ s1.symm s2.symm
        · rw [if_neg c2, Int32.add_zero] at s1
          by_cases c1 : X k = 1
          · rw [if_pos c1] at s2
            simp only [if_neg c0, if_neg c2, if_pos c1]
            exact fin _ _ s1.symm s2.symm
          · have c3 : X k = 3 := by
              obtain ⟨q, q1, q2, q3⟩ := nat_of (hX k hk) (by decide)
              have : q = 0 ∨ q = 1 ∨ q = 2 ∨ q = 3 := by omega
              rcases this with rfl | rfl | rfl | rfl
              · exact absurd q3 c0
              · exact absurd q3 c1
              · exact absurd q3 c2
              · exact q3
            rw [if_neg c1, if_pos c3] at s2
            simp only [if_neg c0, if_neg c2, if_neg c1]
            exact fin _ _ s1.symm s2.symm
theorem mc185 (F : Nat → Nat) (hF : ∀ c, F c ≤ 100) (g : PH) (hg : ∀ c, c < 1681 → g 136 c = nI (F c)) : ∀ (f c : Nat), 1681 < f + c → c ≤ 1681 → mm_crumbs_L185 g f (nI (tS F c)) (nI c) = some (nI (tS F 1681), g) := by
  intro f
  induction f with
  | zero => intro c h1 h2; omega
  | succ f ih =>
    intro c h1 h2
    rw [mm_crumbs_L185]
    by_cases e : c = 1681
    · subst e
      rw [if_pos (show (1681 : Int32) ≤ nI 1681 by decide)]
    · rw [if_neg (show ¬ (1681 : Int32) ≤ nI c from nI_ge (b := 1681) (by omega) (by omega)), ck_nI (by omega) (by decide), show ix (nI c) = c from nI_clamp (by omega), hg c (by omega), nI_1]
      have s : tS F (c + 1) = tS F c + if 2 ≤ F c then 1 else 0 := rfl
      have hf := hF c
      have go := ih (c + 1) (by omega) (by omega)
      by_cases q : 2 ≤ F c
      · rw [if_pos q] at s
        rw [if_neg (show ¬ nI (F c) ≤ 1 from nI_ge (a := 1) (by omega) (by omega)), lt_e, nI_1, ← s]
        exact go
      · rw [if_neg q] at s
        have s : tS F (c + 1) = tS F c := s
        rw [s] at go
        rw [if_pos (show nI (F c) ≤ 1 from nI_le (b := 1) (by omega) (by omega))]
        exact go
theorem ag_crumbs (a1 : Int32) (h : PH) (i : IM h) (rl : RLA h) {rX rm : Int32} {h1 h2 : PH} (e1 : mX_crumbs a1 h = some (rX, h1)) (e2 : mm_crumbs a1 h1 = some (rm, h2)) : rX = rm := by
  have z01 : ¬ (1 : Int32) = 0 := by decide
  by_cases f1 : 0 ≤ a1 ∧ a1 ≤ 1
  · obtain ⟨n, n1, n2, en⟩ := nat_of (show R 0 16 (h 26 3) from inv_rng i.1 rfl) (by decide)
    have own : LS_crumb h := rl.1.2.2.2.2.1
    unfold LS_crumb at own
    have fx := fpX_crumbs a1 h e1
    have hx : ∀ b, 104 ≤ b → h1 b = h b := fun b hb => fx b (show b ∉ FPdX_crumbs a1 from fun q => by
      have : ∀ b, b ∈ FPdX_crumbs 0 → b < 104 := by decide
      have := this b q
      omega)
    obtain ⟨g, w1, w2⟩ := walk_at h i.1 n (by omega) en
    obtain ⟨g4, m1, m2, m3⟩ := mc19 a1 (fun (h4 : PH) => ck 840 1681 <| lt (up h4 136 (ix 840) 1) fun h5 => mm_crumbs_L55 a1 (fun (x16 : Int32) (x17 : Int32) (h18 : PH) => if a1 = 0 then bd (mm_apart x16 0 h18) fun r19 => bd (mm_apart x17 0 h18) fun r20 => some (r19 + r20, h18) else mm_crumbs_L185 h18 FU 0 0) FU 0 0 0 h5) FU 0 (up h1 104 0 0) (by unfold FU; omega) (by omega) (fun c hc => by omega)
    rw [nI_0] at m1
    have c840 : ck 840 1681 (lt (up g4 136 (ix 840) 1) fun h5 => mm_crumbs_L55 a1 (fun (x16 : Int32) (x17 : Int32) (h18 : PH) => if a1 = 0 then bd (mm_apart x16 0 h18) fun r19 => bd (mm_apart x17 0 h18) fun r20 => some (r19 + r20, h18) else mm_crumbs_L185 h18 FU 0 0) FU 0 0 0 h5) = mm_crumbs_L55 a1 (fun (x16 : Int32) (x17 : Int32) (h18 : PH) => if a1 = 0 then bd (mm_apart x16 0 h18) fun r19 => bd (mm_apart x17 0 h18) fun r20 => some (r19 + r20, h18) else mm_crumbs_L185 h18 FU 0 0) FU 0 0 0 (up g4 136 840 1) := by
      rw [show (840 : Int32) = nI 840 from rfl, ck_nI (by decide) (by decide), lt_e, show ix (nI 840) = 840 from rfl]
    obtain ⟨g5, m4, m5⟩ := mc55 a1 (h 27) n (by omega) (fun k hk => (own.2 k (by rw [en, nI_toInt n2]; omega)).2) (fun (x16 : Int32) (x17 : Int32) (h18 : PH) => if a1 = 0 then bd (mm_apart x16 0 h18) fun r19 => bd (mm_apart x17 0 h18) fun r20 => some (r19 + r20, h18) else mm_crumbs_L185 h18 FU 0 0) FU 0 (up g4 136 840 1) (by unfold FU; omega) (by omega) (by rw [up_oc (by decide), m3 104 (by decide), up_oj (by decide), hx 104 (by decide), ← own.1]; exact en) (fun j hj => by
      rw [up_oc (by decide), m3 135 (by decide), up_oc (by decide), hx 135 (by decide)]
      exact (own.2 j (by rw [en, nI_toInt n2]; omega)).1.symm) (fun c hc => by
      have k0 : kC (h 27) 0 = 840 := rfl
      have s : kT (h 27) 0 c = if c = kC (h 27) 0 then 1 else 0 := rfl
      rw [s, k0]
      by_cases q : c = 840
      · rw [if_pos q, q, up_same]; rfl
      · rw [if_neg q, up_oj q]; exact m2 c hc)
    have m4 : mm_crumbs_L55 a1 (fun (x16 : Int32) (x17 : Int32) (h18 : PH) => if a1 = 0 then bd (mm_apart x16 0 h18) fun r19 => bd (mm_apart x17 0 h18) fun r20 => some (r19 + r20, h18) else mm_crumbs_L185 h18 FU 0 0) FU 0 0 0 (up g4 136 840 1) = _ := m4
    unfold mm_crumbs at e2
    rw [lt_e, isIn_y f1, bd_e, if_neg z01, m1] at e2
    rw [c840, m4] at e2
    unfold mX_crumbs at e1
    rw [within_y f1, bd_e, if_neg z01] at e1
    obtain ⟨y1, y2⟩ := w2 n (Nat.le_refl _)
    by_cases c : a1 = 0
    · rw [if_pos c] at e1 e2
      unfold mK_wayHome at e1
      rw [w1, bd2_e, ck_nI (by omega) (by decide), ck_nI (by omega) (by decide), bd2_e, show ix (nI n) = n from nI_clamp (by omega), y1, y2] at e1
      have ap : ∀ (x : Int32) (g : PH), mm_apart x 0 g = some (iabs x) := fun x g => by
        unfold mm_apart iabs
        by_cases q : x ≤ 0
        · rw [if_pos q]
          by_cases q2 : 0 ≤ x
          · have : x = 0 := Int32.le_antisymm q q2
            rw [if_pos q2, this]
            rfl
          · rw [if_neg q2]
        · rw [if_neg q, if_pos (Int32.le_of_lt (Int32.not_le.mp q)), Int32.sub_zero]
      rw [ap, bd_e, ap, bd_e] at e2
      cases e1
      cases e2
      rfl
    · rw [if_neg c] at e1 e2
      unfold mK_placesCrossed at e1
      have k1 := pc11 (h 27) n (by omega) g w2 FU 0 (by unfold FU; omega) (by omega)
      rw [show clN (h 27) 0 = 0 from rfl, nI_0] at k1
      rw [w1, bd2_e, k1, bd2_e] at e1
      have k2 := mc185 (kT (h 27) n) (fun c => by have := kT_le (h 27) c n; omega) g5 m5 FU 0 (by unfold FU; omega) (by omega)
      rw [show tS (kT (h 27) n) 0 = 0 from rfl, nI_0] at k2
      rw [k2, tS_cl (h 27) n (by omega)] at e2
      cases e1
      cases e2
      rfl
  · unfold mX_crumbs at e1
    unfold mm_crumbs at e2
    rw [within_n f1, bd_e, if_pos rfl] at e1
    rw [lt_e, isIn_n f1, bd_e, if_pos rfl] at e2
    cases e1
    cases e2
    rfl
