/-! THE GAME: the model's side -/
theorem nI_div {a b : Nat} (ha : a < 2 ^ 31) (hb : b < 2 ^ 31) (h0 : 0 < b) : nI a / nI b = nI (a / b) := by
  apply Int32.toInt_inj.mp
  have hq : a / b < 2 ^ 31 := Nat.lt_of_le_of_lt (Nat.div_le_self a b) ha
  rw [lg_idiv_nonneg (by rw [nI_toInt ha]; omega) (by rw [nI_toInt hb]; omega), nI_toInt ha, nI_toInt hb, nI_toInt hq]
  exact (Int.natCast_ediv a b).symm
theorem nI_mul (a b : Nat) : nI a * nI b = nI (a * b) := (Int32.ofNat_mul a b).symm
theorem nI_sub {a b : Nat} (h : b ≤ a) : nI a - nI b = nI (a - b) := by
  obtain ⟨c, rfl⟩ : ∃ c, a = c + b := ⟨a - b, by omega⟩
  rw [← nI_add, Int32.add_sub_cancel, Nat.add_sub_cancel]
theorem nI_irm {a b : Nat} (ha : a < 2 ^ 31) (hb : b < 2 ^ 31) (h0 : 0 < b) : irm (nI a) (nI b) = nI (a % b) := by
  unfold irm
  rw [nI_div ha hb h0, nI_mul, nI_sub (Nat.div_mul_le_self a b)]
  congr 1
  have := Nat.div_add_mod a b
  rw [Nat.mul_comm] at this
  omega
def gM (s : Nat) : PH := fun b j => if b = 147 then nI (s / 7 ^ j % 7) else if LO7.contains j then 0 else 1
def okB (s row col : Nat) : Bool := match mm_bitten (nI row) (nI col) (gM s) with
  | some t => decide (0 ≤ t) && (decide (1 ≤ ix t) && (decide (ix t < s) && (mm_isSlab (gM (ix t)) == some 1)))
  | none => false
def chk7 (s : Nat) : Bool := s == 0 || match mm_isSlab (gM s) with
  | some r => if r = 0 then true else (r == 1) && ((match mm_goodBite (gM s) with
    | some x => decide (x = -1) == LO7.contains s
    | none => false) && (List.range 5).all (fun row => (List.range 7).all (fun col => !(decide (col < s / 7 ^ row % 7) && decide (0 < row + col)) || okB s row col)))
  | none => false
set_option maxRecDepth 100000 in
theorem chk7_0 : ∀ d, d < 7 → ∀ c, c < 7 → ∀ b, b < 7 → ∀ a, a < 7 → chk7 (a + 7 * b + 49 * c + 343 * d + 2401 * 0) = true := by decide +kernel
set_option maxRecDepth 100000 in
theorem chk7_1 : ∀ d, d < 7 → ∀ c, c < 7 → ∀ b, b < 7 → ∀ a, a < 7 → chk7 (a + 7 * b + 49 * c + 343 * d + 2401 * 1) = true := by decide +kernel
set_option maxRecDepth 100000 in
theorem chk7_2 : ∀ d, d < 7 → ∀ c, c < 7 → ∀ b, b < 7 → ∀ a, a < 7 → chk7 (a + 7 * b + 49 * c + 343 * d + 2401 * 2) = true := by decide +kernel
set_option maxRecDepth 100000 in
theorem chk7_3 : ∀ d, d < 7 → ∀ c, c < 7 → ∀ b, b < 7 → ∀ a, a < 7 → chk7 (a + 7 * b + 49 * c + 343 * d + 2401 * 3) = true := by decide +kernel
set_option maxRecDepth 100000 in
theorem chk7_4 : ∀ d, d < 7 → ∀ c, c < 7 → ∀ b, b < 7 → ∀ a, a < 7 → chk7 (a + 7 * b + 49 * c + 343 * d + 2401 * 4) = true := by decide +kernel
set_option maxRecDepth 100000 in
theorem chk7_5 : ∀ d, d < 7 → ∀ c, c < 7 → ∀ b, b < 7 → ∀ a, a < 7 → chk7 (a + 7 * b + 49 * c + 343 * d + 2401 * 5) = true := by decide +kernel
set_option maxRecDepth 100000 in
theorem chk7_6 : ∀ d, d < 7 → ∀ c, c < 7 → ∀ b, b < 7 → ∀ a, a < 7 → chk7 (a + 7 * b + 49 * c + 343 * d + 2401 * 6) = true := by decide +kernel
theorem chk7_all : ∀ e, e < 7 → ∀ d, d < 7 → ∀ c, c < 7 → ∀ b, b < 7 → ∀ a, a < 7 → chk7 (a + 7 * b + 49 * c + 343 * d + 2401 * e) = true
  | 0, _ => chk7_0
  | 1, _ => chk7_1
  | 2, _ => chk7_2
  | 3, _ => chk7_3
  | 4, _ => chk7_4
  | 5, _ => chk7_5
  | 6, _ => chk7_6
  | e + 7, h => by omega
theorem chk7_at (s : Nat) (h : s < 16807) : chk7 s = true := by
  have e : s = s % 7 + 7 * (s / 7 % 7) + 49 * (s / 49 % 7) + 343 * (s / 343 % 7) + 2401 * (s / 2401) := by omega
  rw [e]
  exact chk7_all (s / 2401) (by omega) (s / 343 % 7) (by omega) (s / 49 % 7) (by omega) (s / 7 % 7) (by omega) (s % 7) (by omega)
/-- a number's digits -/
theorem ts_4 : ∀ (n k x : Nat) (h : PH), 5 < n + k → k ≤ 5 → x < 2 ^ 31 → ∃ h', mm_takesSlab_L4 n (nI x) (nI k) h = some h' ∧ (∀ b, b ≠ 147 → h' b = h b) ∧ (∀ j, j < k → h' 147 j = h 147 j) ∧ ∀ i, k + i < 5 → h' 147 (k + i) = nI (x / 7 ^ i % 7) := by
  intro n
  induction n with
  | zero => intro k x h h1 h2; omega
  | succ n ih =>
    intro k x h h1 h2 hx
    rw [mm_takesSlab_L4]
    by_cases hk : k = 5
    · subst hk
      rw [if_pos (show (5 : Int32) ≤ nI 5 from nI_le (a := 5) (Nat.le_refl _) (by omega))]
      exact ⟨h, rfl, fun _ _ => rfl, fun _ _ => rfl, fun i hi => by omega⟩
    · rw [if_neg (show ¬ (5 : Int32) ≤ nI k from nI_ge (b := 5) (by omega) (by omega))]
      have dz7 : ∀ {ρ : Type} (q : Option ρ), dz 7 q = q := fun _ => if_neg (by decide)
      rw [dz7, ck_nI (by omega) (by omega), lt_e, dz7, lt_e]
      rw [show (7 : Int32) = nI 7 from rfl, nI_irm hx (by decide) (by decide), nI_div hx (by decide) (by decide), nI_1, show ix (nI k) = k from nI_clamp (by omega)]
      obtain ⟨h', q1, q2, q3, q4⟩ := ih (k + 1) (x / 7) (up h 147 k (nI (x % 7))) (by omega) (by omega) (by omega)
      refine ⟨h', q1, fun b hb => ?_, fun j hj => ?_, fun i hi => ?_⟩
      · rw [q2 b hb]; funext j; simp [up_at, hb]
      · rw [q3 j (by omega)]
        have : ¬ j = k := by omega
        simp [up_at, this]
      · match i with
        | 0 => rw [Nat.add_zero, q3 k (by omega)]; simp [up_at]
        | i + 1 =>
          rw [show k + (i + 1) = k + 1 + i by omega, q4 i (by omega)]
          congr 2
          rw [Nat.div_div_eq_div_mul, Nat.pow_succ, Nat.mul_comm 7]
theorem ts_at (x : Nat) (h : PH) (hx : x < 2 ^ 31) : ∃ h', mm_takesSlab (nI x) h = some h' ∧ (∀ b, b ≠ 147 → h' b = h b) ∧ ∀ j, j < 5 → h' 147 j = gM x 147 j := by
  unfold mm_takesSlab
  obtain ⟨h', q1, q2, -, q4⟩ := ts_4 FU 0 x h (by unfold FU; omega) (by omega) hx
  rw [nI_0] at q1
  refine ⟨h', q1, q2, fun j hj => ?_⟩
  have := q4 j (by omega)
  rw [Nat.zero_add] at this
  rw [this]
  rfl
theorem sl_c (h g : PH) (e : ∀ j, j < 5 → h 147 j = g 147 j) : ∀ (n k : Nat), k < 5 → mm_isSlab_L2 h n (nI (k + 1)) = mm_isSlab_L2 g n (nI (k + 1)) := by
  intro n
  induction n with
  | zero => intro k hk; rfl
  | succ n ih =>
    intro k hk
    rw [mm_isSlab_L2, mm_isSlab_L2]
    by_cases h4 : k = 4
    · subst h4
      rw [if_pos (show (5 : Int32) ≤ nI (4 + 1) by decide), if_pos (show (5 : Int32) ≤ nI (4 + 1) by decide)]
    · rw [if_neg (show ¬ (5 : Int32) ≤ nI (k + 1) from nI_ge (b := 5) (by omega) (by omega)), if_neg (show ¬ (5 : Int32) ≤ nI (k + 1) from nI_ge (b := 5) (by omega) (by omega)), nI_pred, ck_nI (by omega) (by omega), ck_nI (by omega) (by omega), ck_nI (by omega) (by omega), ck_nI (by omega) (by omega), show ix (nI (k + 1)) = k + 1 from nI_clamp (by omega), show ix (nI k) = k from nI_clamp (by omega), e k (by omega), e (k + 1) (by omega), nI_1, ih (k + 1) (by omega)]
theorem slab_c (h g : PH) (e : ∀ j, j < 5 → h 147 j = g 147 j) : mm_isSlab h = mm_isSlab g := sl_c h g e FU 0 (by decide)
theorem bi_c (p q : Int32) (h g : PH) (e : ∀ j, j < 5 → h 147 j = g 147 j) : ∀ (n k : Nat) (v : Int32), k ≤ 5 → mm_bitten_L5 p q h n v (nI k + (-1)) = mm_bitten_L5 p q g n v (nI k + (-1)) := by
  intro n
  induction n with
  | zero => intro k v hk; rfl
  | succ n ih =>
    intro k v hk
    rw [mm_bitten_L5, mm_bitten_L5]
    match k, hk with
    | 0, _ => rw [if_pos (show nI 0 + (-1) < 0 by decide), if_pos (show nI 0 + (-1) < 0 by decide)]
    | k + 1, hk =>
      have ek : nI (k + 1) + (-1) = nI k := by
        rw [← nI_pred k]; exact (Int32.sub_eq_add_neg _ _).symm
      rw [ek, if_neg (nI_pos (by omega)), if_neg (nI_pos (by omega))]
      simp only [ck_nI (show k < 5 by omega) (show 5 < 2 ^ 31 by decide), show ix (nI k) = k from nI_clamp (by omega), e k (by omega), lesser_eq, bd, lt, ih k _ (by omega)]
theorem bitten_c (p q : Int32) (h g : PH) (e : ∀ j, j < 5 → h 147 j = g 147 j) : mm_bitten p q h = mm_bitten p q g := by
  have := bi_c p q h g e FU 5 0 (by decide)
  rw [show nI 5 + (-1) = 4 by decide] at this
  exact this
theorem gb_9 (row : Nat) (hrow : row < 5) (h g : PH) (e : ∀ j, j < 5 → h 147 j = g 147 j) (d : Nat) (hd : d ≤ 7) (ed : g 147 row = nI d) (hB : ∀ col, col < d → 0 < row + col → ∃ t, mm_bitten (nI row) (nI col) g = some t ∧ h 146 (ix t) = g 146 (ix t)) (k k' : Option Int32) (ek : k = k') :
    ∀ (n col : Nat), col ≤ d → mm_goodBite_L9 (nI row) h k n (nI col) = mm_goodBite_L9 (nI row) g k' n (nI col) := by
  subst ek
  intro n
  induction n with
  | zero => intro col hc; rfl
  | succ n ih =>
    intro col hc
    rw [mm_goodBite_L9, mm_goodBite_L9]
    rw [ck_nI (by omega) (by omega), ck_nI (by omega) (by omega), show ix (nI row) = row from nI_clamp (by omega), e row hrow, ed]
    by_cases hcd : col = d
    · subst hcd
      rw [if_pos (nI_le (Nat.le_refl _) (by omega)), if_pos (nI_le (Nat.le_refl _) (by omega))]
    · rw [if_neg (nI_ge (by omega) (by omega)), if_neg (nI_ge (by omega) (by omega)), nI_add, nI_1]
      by_cases h0 : row + col = 0
      · rw [h0, if_pos (show nI 0 ≤ 0 by decide), if_pos (show nI 0 ≤ 0 by decide)]
        exact ih (col + 1) (by omega)
      · rw [if_neg (nI_nle (by omega) (by omega)), if_neg (nI_nle (by omega) (by omega)), bitten_c _ _ h g e]
        obtain ⟨t, q1, q2⟩ := hB col (by omega) (by omega)
        rw [q1]
        simp only [bd]
        rw [q2, ih (col + 1) (by omega)]
theorem gb_2 (h g : PH) (e : ∀ j, j < 5 → h 147 j = g 147 j) (hd : ∀ row, row < 5 → ∃ d, d ≤ 7 ∧ g 147 row = nI d ∧ ∀ col, col < d → 0 < row + col → ∃ t, mm_bitten (nI row) (nI col) g = some t ∧ h 146 (ix t) = g 146 (ix t)) :
    ∀ (n row : Nat), row ≤ 5 → mm_goodBite_L2 h n (nI row) = mm_goodBite_L2 g n (nI row) := by
  intro n
  induction n with
  | zero => intro row hr; rfl
  | succ n ih =>
    intro row hr
    rw [mm_goodBite_L2, mm_goodBite_L2]
    by_cases h5 : row = 5
    · subst h5
      rw [if_pos (show (5 : Int32) ≤ nI 5 by decide), if_pos (show (5 : Int32) ≤ nI 5 by decide)]
    · rw [if_neg (show ¬ (5 : Int32) ≤ nI row from nI_ge (b := 5) (by omega) (by omega)), if_neg (show ¬ (5 : Int32) ≤ nI row from nI_ge (b := 5) (by omega) (by omega)), nI_1]
      obtain ⟨d, d1, d2, d3⟩ := hd row (by omega)
      have := gb_9 row (by omega) h g e d d1 d2 d3 _ _ (ih (row + 1) (by omega)) FU 0 (by omega)
      rw [nI_0] at this
      exact this
/-- what the model's table holds below m -/
def DW (h : PH) (m : Nat) : Prop := ∀ t, 1 ≤ t → t < m → mm_isSlab (gM t) = some 1 → h 146 t = if LO7.contains t then 0 else 1
theorem good_at (s : Nat) (h0 : 1 ≤ s) (hs : s < 16807) (h : PH) (e : ∀ j, j < 5 → h 147 j = gM s 147 j) (hD : DW h s) (hv : mm_isSlab (gM s) = some 1) : mm_goodBite h = mm_goodBite (gM s) ∧ ∃ x, mm_goodBite (gM s) = some x ∧ (x = -1 ↔ LO7.contains s = true) := by
  have hc := chk7_at s hs
  unfold chk7 at hc
  rw [show (s == 0) = false from by simp; omega, Bool.false_or, hv] at hc
  simp only [show ¬ (1 : Int32) = 0 by decide, if_false, Bool.and_eq_true] at hc
  obtain ⟨-, h1, h2⟩ := hc
  constructor
  · have := gb_2 h (gM s) e (fun row hrow => ⟨s / 7 ^ row % 7, by have := Nat.mod_lt (s / 7 ^ row) (show 0 < 7 by decide); omega, rfl, fun col hcol h0 => ?_⟩) FU 0 (by omega)
    · rw [nI_0] at this
      exact this
    · have r1 := List.all_eq_true.mp h2 row (List.mem_range.mpr hrow)
      have c7 : col < 7 := by have := Nat.mod_lt (s / 7 ^ row) (show 0 < 7 by decide); omega
      have r2 := List.all_eq_true.mp r1 col (List.mem_range.mpr c7)
      rw [decide_eq_true hcol, decide_eq_true h0] at r2
      simp only [Bool.and_self, Bool.not_true, Bool.false_or] at r2
      unfold okB at r2
      cases ht : mm_bitten (nI row) (nI col) (gM s) with
      | none => rw [ht] at r2; cases r2
      | some t =>
        rw [ht] at r2
        simp only [Bool.and_eq_true, decide_eq_true_eq, beq_iff_eq] at r2
        obtain ⟨-, t1, t2, t3⟩ := r2
        exact ⟨t, rfl, by rw [hD (ix t) t1 t2 t3]; rfl⟩
  · cases hw : mm_goodBite (gM s) with
    | none => rw [hw] at h1; cases h1
    | some x =>
      rw [hw] at h1
      refine ⟨x, rfl, ?_⟩
      simp only [beq_iff_eq] at h1
      rw [← h1, decide_eq_true_eq]
theorem slab_01 (s : Nat) (h0 : 1 ≤ s) (hs : s < 16807) : mm_isSlab (gM s) = some 0 ∨ mm_isSlab (gM s) = some 1 := by
  have hc := chk7_at s hs
  unfold chk7 at hc
  rw [show (s == 0) = false from by simp; omega, Bool.false_or] at hc
  cases hw : mm_isSlab (gM s) with
  | none => rw [hw] at hc; cases hc
  | some r =>
    rw [hw] at hc
    simp only at hc
    by_cases hr : r = 0
    · exact Or.inl (by rw [hr])
    · rw [if_neg hr] at hc
      simp only [Bool.and_eq_true, beq_iff_eq] at hc
      exact Or.inr (by rw [hc.1])
theorem gm_55 (A : Nat) (hA : A < 16807) (k0 : PH → Option (Int32 × PH)) : ∀ (n m : Nat) (h : PH), A + 1 < n + m → 1 ≤ m → m ≤ A + 1 → DW h m → ∃ h', mm_game_L55 (nI A) k0 n (nI m) h = k0 h' ∧ DW h' (A + 1) ∧ ∀ b, b ≠ 146 → b ≠ 147 → h' b = h b := by
  intro n
  induction n with
  | zero => intro m h h1 h2; omega
  | succ n ih =>
    intro m h h1 h2 h3 hD
    rw [mm_game_L55]
    by_cases hm : m = A + 1
    · subst hm
      rw [if_pos (nI_lt (by omega) (by omega))]
      exact ⟨h, rfl, hD, fun _ _ _ => rfl⟩
    · rw [if_neg (nI_nlt (by omega) (by omega))]
      obtain ⟨g, q1, q2, q3⟩ := ts_at m h (by omega)
      rw [q1]
      simp only [bd, jn1]
      have hDg : DW g m := fun t t1 t2 t3 => by rw [q2 146 (by decide)]; exact hD t t1 t2 t3
      have go : ∀ v : Int32, (mm_isSlab (gM m) = some 1 → v = if LO7.contains m then 0 else 1) → ∃ h', (ck (nI m) 16807 <| lt (up g 146 (ix (nI m)) v) fun h10 => mm_game_L55 (nI A) k0 n (nI m + 1) h10) = k0 h' ∧ DW h' (A + 1) ∧ ∀ b, b ≠ 146 → b ≠ 147 → h' b = h b := by
        intro v hv
        rw [ck_nI (by omega) (by omega), show ix (nI m) = m from nI_clamp (by omega)]
        simp only [lt]
        rw [nI_1]
        obtain ⟨h', r1, r2, r3⟩ := ih (m + 1) (up g 146 m v) (by omega) (by omega) (by omega) (fun t t1 t2 t3 => by
          by_cases ht : t = m
          · subst ht; rw [← hv t3]; simp [up_at]
          · have := hDg t t1 (by omega) t3
            rw [← this]; simp [up_at, ht])
        refine ⟨h', r1, r2, fun b b1 b2 => ?_⟩
        rw [r3 b b1 b2, ← q2 b b2]
        funext j
        simp [up_at, b1]
      rw [slab_c g (gM m) q3]
      rcases slab_01 m h2 (by omega) with hs | hs
      · rw [hs]
        simp only [if_true]
        exact go 0 (fun q => by rw [hs] at q; cases q)
      · rw [hs]
        simp only [show ¬ (1 : Int32) = 0 by decide, if_false]
        obtain ⟨e1, x, e2, e3⟩ := good_at m h2 (by omega) g q3 hDg hs
        rw [e1, e2]
        simp only
        by_cases hx : x = -1
        · rw [if_pos hx]
          exact go 0 (fun _ => by rw [e3.mp hx]; rfl)
        · rw [if_neg hx]
          have : LO7.contains m = false := by
            cases hq : LO7.contains m with
            | false => rfl
            | true => exact absurd (e3.mpr hq) hx
          exact go 1 (fun _ => by rw [this]; rfl)
def amN (fa : Nat) : Nat → Nat
  | 0 => 0
  | k + 1 => 7 * amN fa k + fa
theorem gm_33 (hi fa : Nat) (hh : hi < 6) (h : PH) (k0 : Int32 → Option (Int32 × PH)) : ∀ (n k : Nat), hi < n + k → k ≤ hi → mm_game_L33 (nI hi) (nI fa) h k0 n (nI (amN fa k)) (nI k) = k0 (nI (amN fa hi)) := by
  intro n
  induction n with
  | zero => intro k h1 h2; omega
  | succ n ih =>
    intro k h1 h2
    rw [mm_game_L33]
    by_cases hk : k = hi
    · subst hk
      rw [if_pos (nI_le (Nat.le_refl _) (by omega))]
    · rw [if_neg (nI_ge (by omega) (by omega))]
      simp only [lt]
      rw [show (7 : Int32) = nI 7 from rfl, nI_mul, nI_add, nI_1]
      exact ih (k + 1) (by omega) (by omega)
theorem gm_fk : ∀ hi, hi < 6 → ∀ fa, fa < 7 → (decide (hi = 0) || (decide (fa = 0) || (decide (1 ≤ amN fa hi) && (decide (amN fa hi < 16807) && ((mm_isSlab (gM (amN fa hi)) == some 1) && (mL_winningBite (shq fa hi) (hT LO) == mm_goodBite (gM (amN fa hi)))))))) = true := by decide +kernel
theorem gm_fin (hi : Nat) (h1 : hi < 6) (h2 : 1 ≤ hi) (fa : Nat) (h3 : fa < 7) (h4 : 1 ≤ fa) : 1 ≤ amN fa hi ∧ amN fa hi < 16807 ∧ mm_isSlab (gM (amN fa hi)) = some 1 ∧ mL_winningBite (shq fa hi) (hT LO) = mm_goodBite (gM (amN fa hi)) := by
  have := gm_fk hi h1 fa h3
  rw [decide_eq_false (show ¬ hi = 0 by omega), decide_eq_false (show ¬ fa = 0 by omega), Bool.false_or, Bool.false_or] at this
  simpa only [Bool.and_eq_true, decide_eq_true_eq, beq_iff_eq] using this
/-- the game, whatever the class knows of it already -/
theorem ps_game (a b : Int32) (h : PH) (hG : GI h) : ∃ h2, pc_game a b h = some h2 ∧ GI h2 ∧ ∀ c, c ≠ 102 → c ≠ 103 → c ≠ 104 → c ≠ 146 → c ≠ 147 → h2 c = h c := by
  by_cases c1 : 1 ≤ a ∧ a ≤ 5
  · by_cases c2 : 1 ≤ b ∧ b ≤ 6
    · obtain ⟨hi, i1, i2, rfl⟩ := in_nat (lo := 1) (hi := 5) (by decide) c1.1 c1.2 (by decide)
      obtain ⟨fa, f1, f2, rfl⟩ := in_nat (lo := 1) (hi := 6) (by decide) c2.1 c2.2 (by decide)
      obtain ⟨a0, a1, a2, a3⟩ := gm_fin hi i2 i1 fa f2 f1
      obtain ⟨-, x, e2, -⟩ := good_at (amN fa hi) a0 a1 (up (gM (amN fa hi)) 146 0 0) (fun j hj => by simp [up_at]) (fun t t1 t2 t3 => by
        have : ¬ t = 0 := by omega
        simp [up_at, this, gM]) a2
      obtain ⟨g, q1, q2, q3, q4, q5⟩ := best_go hi fa i2 h hG x (by rw [a3]; exact e2)
      have key : ∀ k0 : Int32 → Option (Int32 × PH), mm_game_L33 (nI hi) (nI fa) (up g 104 0 0) k0 FU 0 0 = k0 (nI (amN fa hi)) := fun k0 => by
        have := gm_33 hi fa i2 (up g 104 0 0) k0 FU 0 (by unfold FU; omega) (by omega)
        rw [show nI (amN fa 0) = 0 from rfl, nI_0] at this
        exact this
      have key2 : ∀ k0 : PH → Option (Int32 × PH), ∃ h', mm_game_L55 (nI (amN fa hi)) k0 FU 1 (up g 104 0 0) = k0 h' ∧ DW h' (amN fa hi + 1) ∧ ∀ b, b ≠ 146 → b ≠ 147 → h' b = (up g 104 0 0) b := fun k0 => by
        have := gm_55 (amN fa hi) a1 k0 FU 1 (up g 104 0 0) (by unfold FU; omega) (by omega) (by omega) (fun t t1 t2 => by omega)
        rw [show nI 1 = 1 from rfl] at this
        exact this
      obtain ⟨h', r1, r2, r3⟩ := key2 (fun h12 => bd (mm_takesSlab (nI (amN fa hi)) h12) fun h13 => bd (mm_goodBite h13) fun r14 => some (r14, h13))
      obtain ⟨g2, s1, s2, s3⟩ := ts_at (amN fa hi) h' (by omega)
      obtain ⟨e1, -⟩ := good_at (amN fa hi) a0 a1 g2 s3 (fun t t1 t2 t3 => by rw [s2 146 (by decide)]; exact r2 t t1 (by omega) t3) a2
      have hL := r1.trans (show (bd (mm_takesSlab (nI (amN fa hi)) h') fun h13 => bd (mm_goodBite h13) fun r14 => some (r14, h13)) = some (x, g2) by rw [s1, bd_e, e1, e2, bd_e])
      refine ⟨g2, ?_, ?_, ?_⟩
      · unfold pc_game mX_game mm_game
        simp only [within_eq, isIn_eq, bd_e, lt_e, if_pos c1, if_pos c2, show ¬ (1 : Int32) = 0 by decide, if_false, q1, bd2_e]
        rw [key, hL, bd2_e, if_pos rfl]
      · refine Or.inr ⟨?_, ?_⟩
        · rw [s2 102 (by decide), r3 102 (by decide) (by decide), up_at]; simpa using q2
        · rw [s2 103 (by decide), r3 103 (by decide) (by decide), ← q3]; funext j; simp [up_at]
      · intro c d1 d2 d3 d4 d5
        rw [s2 c d5, r3 c d4 d5, ← q4 c d1 d2]
        funext j
        simp [up_at, d3]
    · refine ⟨up h 104 0 0, by simp [pc_game, mX_game, mm_game, within_eq, isIn_eq, bd, bd2, lt, c1, c2], ?_, fun c _ _ d3 _ _ => by funext j; simp [up_at, d3]⟩
      rcases hG with ⟨g1, g2⟩ | ⟨g1, g2⟩
      · exact Or.inl ⟨by rw [up_at]; simpa using g1, by rw [← g2]; funext j; simp [up_at]⟩
      · exact Or.inr ⟨by rw [up_at]; simpa using g1, by rw [← g2]; funext j; simp [up_at]⟩
  · refine ⟨up h 104 0 0, by simp [pc_game, mX_game, mm_game, within_eq, isIn_eq, bd, bd2, lt, c1], ?_, fun c _ _ d3 _ _ => by funext j; simp [up_at, d3]⟩
    rcases hG with ⟨g1, g2⟩ | ⟨g1, g2⟩
    · exact Or.inl ⟨by rw [up_at]; simpa using g1, by rw [← g2]; funext j; simp [up_at]⟩
    · exact Or.inr ⟨by rw [up_at]; simpa using g1, by rw [← g2]; funext j; simp [up_at]⟩
