/-! WHOSE and LINE answer alike -/
theorem at_row {a m w : Nat} (hs : sp a = spR (m : Int) (w : Int)) (hl : ln (a + 1) = m * w) (hm : m ≤ 400) (hw : w ≤ 5) {h : PH} (i : Inv h) {n k c : Nat} (en : h a 3 = nI n) (hn : n ≤ m) (hk : k < n) (hc : c < w) : mR_at a (nI k) (nI c) h = some (h (a + 1) (k * w + c)) := by
  obtain ⟨r0, r1⟩ := rows_n hs hm hw i
  have big : k * w + c < m * w := by
    have h1 : (k + 1) * w ≤ m * w := Nat.mul_le_mul_right w (by omega)
    rw [Nat.add_mul, Nat.one_mul] at h1
    omega
  have mw : m * w ≤ 2000 := by
    have := Nat.mul_le_mul hm hw
    omega
  have nz : ∀ q : Nat, q < 2 ^ 31 → ¬ nI q < 0 := fun q hq => by
    rw [Int32.lt_iff_toInt_lt, nI_toInt hq]
    simp only [show (0 : Int32).toInt = 0 from rfl]
    omega
  unfold mR_at
  rw [if_neg (nz k (by omega)), en, if_neg (nI_ge hk (by omega)), if_neg (nz c (by omega)), r1, if_pos (nI_lt hc (by omega)), nI_mul, nI_add, ck_nI (by omega) (by omega), show ix (nI (k * w + c)) = k * w + c from nI_clamp (by omega)]
theorem bits_sub (x t : Int32) : (x &&& t) = t ↔ (t &&& (x ^^^ (-1))) = 0 := by
  have e : (-1 : Int32).toBitVec = BitVec.allOnes 32 := by decide
  have z : (0 : Int32).toBitVec = 0#32 := by decide
  rw [← Int32.toBitVec_inj, ← Int32.toBitVec_inj, Int32.toBitVec_and, Int32.toBitVec_and, Int32.toBitVec_xor, e, z]
  generalize x.toBitVec = a
  generalize t.toBitVec = b
  constructor
  · intro h
    apply BitVec.eq_of_getLsbD_eq
    intro i hi
    have := congrArg (fun v => BitVec.getLsbD v i) h
    simp only [BitVec.getLsbD_and, BitVec.getLsbD_xor, BitVec.getLsbD_allOnes, BitVec.getLsbD_zero, hi, decide_true] at this ⊢
    cases ha : a.getLsbD i <;> cases hb : b.getLsbD i <;> simp_all
  · intro h
    apply BitVec.eq_of_getLsbD_eq
    intro i hi
    have := congrArg (fun v => BitVec.getLsbD v i) h
    simp only [BitVec.getLsbD_and, BitVec.getLsbD_xor, BitVec.getLsbD_allOnes, BitVec.getLsbD_zero, hi, decide_true] at this ⊢
    cases ha : a.getLsbD i <;> cases hb : b.getLsbD i <;> simp_all
theorem wh_sim (p1 p2 : Int32) (h g : PH) (i : Inv h) (n : Nat) (hn : n ≤ 8) (en : h 24 3 = nI n) (em : g 104 51 = nI n) (hy : ∀ k, k < n → g 133 k = h 25 (2 * k) ∧ g 134 k = h 25 (2 * k + 1)) : ∀ (f k : Nat) (s : Int32), n < f + k → k ≤ n → ∃ r, mK_biters_L5 24 p1 p2 h f s (nI k) = some r ∧ mm_whose_L35 p1 p2 g f s (nI k) = some (r, g) := by
  intro f
  induction f with
  | zero => intro k s h1 h2; omega
  | succ f ih =>
    intro k s h1 h2
    rw [mK_biters_L5, mm_whose_L35, en, em]
    by_cases e : k = n
    · subst e
      rw [if_pos (nI_le (Nat.le_refl _) (by omega)), if_pos (nI_le (Nat.le_refl _) (by omega))]
      exact ⟨s, rfl, rfl⟩
    · have hk : k < n := by omega
      obtain ⟨y1, y2⟩ := hy k hk
      have a0 : mR_at 24 (nI k) 0 h = some (h 25 (2 * k)) := by
        have := at_row (a := 24) (m := 8) (w := 2) rfl rfl (by decide) (by decide) i (c := 0) en hn hk (by decide)
        rw [nI_0, show k * 2 + 0 = 2 * k by omega] at this
        exact this
      have a1 : mR_at 24 (nI k) 1 h = some (h 25 (2 * k + 1)) := by
        have := at_row (a := 24) (m := 8) (w := 2) rfl rfl (by decide) (by decide) i (c := 1) en hn hk (by decide)
        rw [show nI 1 = (1 : Int32) from rfl, show k * 2 + 1 = 2 * k + 1 by omega] at this
        exact this
      rw [if_neg (nI_ge hk (by omega)), if_neg (nI_ge hk (by omega)), a0, bd_e, ck_nI (by omega) (by decide), show ix (nI k) = k from nI_clamp (by omega), y1]
      by_cases c1 : (h 25 (2 * k) &&& p1) = p1
      · rw [if_pos c1, if_pos ((bits_sub _ _).mp c1), a1, bd_e, ck_nI (by omega) (by decide), y2, nI_1]
        by_cases c2 : h 25 (2 * k + 1) < p2
        · rw [if_pos c2, if_pos c2]
          exact ih (k + 1) s (by omega) (by omega)
        · rw [if_neg c2, if_neg c2, lt_e, lt_e]
          exact ih (k + 1) _ (by omega) (by omega)
      · rw [if_neg c1, if_neg (fun q => c1 ((bits_sub _ _).mpr q)), nI_1]
        exact ih (k + 1) s (by omega) (by omega)
theorem ag_whose (a1 a2 : Int32) (h : PH) (i : IM h) (rl : RLA h) {rX rm : Int32} {h2 : PH} (e1 : mX_whose a1 a2 h = some rX) (e2 : mm_whose a1 a2 h = some (rm, h2)) : rX = rm := by
  unfold mX_whose at e1
  unfold mm_whose at e2
  rw [lt_e] at e2
  have z01 : ¬ (1 : Int32) = 0 := by decide
  by_cases f1 : 0 ≤ a1 ∧ a1 ≤ 255
  · rw [within_y f1, bd_e, if_neg z01] at e1
    rw [isIn_y f1, bd_e, if_neg z01] at e2
    by_cases f2 : 0 ≤ a2 ∧ a2 ≤ 9
    · rw [within_y f2, bd_e, if_neg z01] at e1
      rw [isIn_y f2, bd_e, if_neg z01] at e2
      obtain ⟨n, n1, n2, en⟩ := nat_of (show R 0 8 (h 24 3) from inv_rng i.1 rfl) (by decide)
      have own : LS_bite h := rl.1.2.2.2.1
      unfold LS_bite at own
      obtain ⟨r, q1, q2⟩ := wh_sim a1 a2 h (up h 104 0 0) i.1 n (by omega) en (by rw [up_oj (by decide), ← own.1]; exact en) (fun k hk => by
        obtain ⟨⟨w1, -⟩, w2, -⟩ := own.2 k (by rw [en, nI_toInt n2]; omega)
        rw [up_oc (by decide), up_oc (by decide)]
        exact ⟨w1.symm, w2.symm⟩) FU 0 0 (by unfold FU; omega) (by omega)
      rw [nI_0] at q1 q2
      have q1 : mK_biters 24 a1 a2 h = some r := q1
      rw [q1, bd_e] at e1
      rw [q2] at e2
      cases e1
      cases e2
      rfl
    · rw [within_n f2, bd_e, if_pos rfl] at e1
      rw [isIn_n f2, bd_e, if_pos rfl] at e2
      cases e1
      cases e2
      rfl
  · rw [within_n f1, bd_e, if_pos rfl] at e1
    rw [isIn_n f1, bd_e, if_pos rfl] at e2
    cases e1
    cases e2
    rfl
theorem lfh_st (X : Nat → Int32) (w : Int32) (k : Nat) (hz : ¬ lfh X w k = 0) : ∀ d, lfh X w (k + d) = lfh X w k := by
  intro d
  induction d with
  | zero => rfl
  | succ d ih =>
    rw [show k + (d + 1) = (k + d) + 1 by omega, lfh, ih, if_neg hz]
theorem lfh_rng {X : Nat → Int32} {n : Nat} (hr : ∀ k, k < n → R 0 11 (X (2 * k + 1))) (w : Int32) : ∀ k, k ≤ n → R 0 12 (lfh X w k) := by
  intro k
  induction k with
  | zero => intro _; exact (show R 0 12 (0 : Int32) from ⟨by decide, by decide⟩)
  | succ k ih =>
    intro hk
    rw [lfh]
    split
    · split
      · exact r_w (r_add (hr k (by omega)) (show R 1 1 (1 : Int32) from ⟨by decide, by decide⟩) (e := 1) (f := 12) (by decide)) (by decide)
      · exact ⟨by decide, by decide⟩
    · exact ih (by omega)
theorem lb_go (h : PH) (i : Inv h) (n : Nat) (hn : n ≤ 12) (en : h 30 3 = nI n) (hr : ∀ k, k < n → R 0 11 (h 31 (2 * k + 1))) (p : Int32) : ∀ (f k : Nat), n < f + k → k ≤ n → lfh (h 31) p k = 0 → mK_leftBy_L2 30 p h (fun (x2 : Int32) => bd (mR_at 30 x2 1 h) fun r3 => some r3) f (nI k) = some (if lfh (h 31) p n = 0 then -1 else lfh (h 31) p n - 1) := by
  intro f
  induction f with
  | zero => intro k h1 h2; omega
  | succ f ih =>
    intro k h1 h2 hz
    rw [mK_leftBy_L2, en]
    by_cases e : k = n
    · subst e
      rw [if_pos (nI_le (Nat.le_refl _) (by omega)), if_pos hz]
    · have hk : k < n := by omega
      have a0 : mR_at 30 (nI k) 0 h = some (h 31 (2 * k)) := by
        have := at_row (a := 30) (m := 12) (w := 2) rfl rfl (by decide) (by decide) i (c := 0) en hn hk (by decide)
        rw [nI_0, show k * 2 + 0 = 2 * k by omega] at this
        exact this
      have a1 : mR_at 30 (nI k) 1 h = some (h 31 (2 * k + 1)) := by
        have := at_row (a := 30) (m := 12) (w := 2) rfl rfl (by decide) (by decide) i (c := 1) en hn hk (by decide)
        rw [show nI 1 = (1 : Int32) from rfl, show k * 2 + 1 = 2 * k + 1 by omega] at this
        exact this
      rw [if_neg (nI_ge hk (by omega)), a0, bd_e]
      by_cases c : h 31 (2 * k) = p
      · rw [if_pos c, a1, bd_e]
        have s1 : lfh (h 31) p (k + 1) = h 31 (2 * k + 1) + 1 := by rw [lfh, if_pos hz, if_pos c]
        have r1 : R 1 12 (h 31 (2 * k + 1) + 1) := r_add (hr k hk) (show R 1 1 (1 : Int32) from ⟨by decide, by decide⟩) (by decide)
        have nz : ¬ h 31 (2 * k + 1) + 1 = 0 := fun q => by
          rw [q] at r1
          exact absurd r1.1 (by decide)
        have s2 : lfh (h 31) p n = h 31 (2 * k + 1) + 1 := by
          have := lfh_st (h 31) p (k + 1) (by rw [s1]; exact nz) (n - (k + 1))
          rw [show k + 1 + (n - (k + 1)) = n by omega, s1] at this
          exact this
        rw [s2, if_neg nz, Int32.add_sub_cancel]
      · rw [if_neg c, nI_1]
        exact ih (k + 1) (by omega) (by omega) (by rw [lfh, if_pos hz, if_neg c])
theorem ln_sim (p2 x4 : Int32) (hx : (p2 = 0 ∧ x4 = 1) ∨ (¬ p2 = 0 ∧ x4 = 0)) (h g : PH) (i : Inv h) (n : Nat) (hn : n ≤ 12) (en : h 30 3 = nI n) (hr : ∀ k, k < n → R 0 11 (h 31 (2 * k + 1))) (hy : ∀ w, w < 12 → g 141 w = lfh (h 31) (nI w) n) : ∀ (f k w : Nat), 12 < f + k → k ≤ 12 → w < 12 → ∃ r, mK_lineOf_L5 30 x4 h (fun (x2 : Int32) (x3 : Int32) => if x4 = 0 then some x2 else some x3) f (nI w) (nI k) = some r ∧ mm_line_L33 p2 g (fun (x5 : Int32) (x6 : Int32) => if p2 = 0 then some (x6, g) else some (x5, g)) f (nI w) (nI k) = some (r, g) := by
  intro f
  induction f with
  | zero => intro k w h1 h2; omega
  | succ f ih =>
    intro k w h1 h2 hw
    rw [mK_lineOf_L5, mm_line_L33]
    by_cases e : k = 12
    · subst e
      rw [if_pos (by decide), if_pos (by decide)]
      exact ⟨-1, rfl, rfl⟩
    · have n12 : ¬ (12 : Int32) ≤ nI k := nI_ge (b := 12) (by omega) (by omega)
      have lb : mK_leftBy 30 (nI w) h = some (if lfh (h 31) (nI w) n = 0 then -1 else lfh (h 31) (nI w) n - 1) := by
        have := lb_go h i n hn en hr (nI w) FU 0 (by unfold FU; omega) (by omega) rfl
        rw [nI_0] at this
        exact this
      rw [if_neg n12, if_neg n12, lb, bd_e, ck_nI (by omega) (by decide), show ix (nI w) = w from nI_clamp (by omega), hy w hw]
      have rg := lfh_rng hr (nI w) n (Nat.le_refl _)
      by_cases c : lfh (h 31) (nI w) n = 0
      · rw [if_pos c, if_pos rfl, if_pos c]
        rcases hx with ⟨c1, c2⟩ | ⟨c1, c2⟩
        · rw [if_pos c1, if_neg (by rw [c2]; decide)]
          exact ⟨_, rfl, rfl⟩
        · rw [if_neg c1, if_pos c2]
          exact ⟨_, rfl, rfl⟩
      · rw [if_neg c, if_neg c, ck_nI (by omega) (by decide), lt_e]
        have rg1 : R 1 12 (lfh (h 31) (nI w) n) := r_ne_lo rg (show R 0 0 (0 : Int32) from ⟨by decide, by decide⟩) c (by decide)
        have rg2 : R 0 11 (lfh (h 31) (nI w) n - 1) := r_sub rg1 (show R 1 1 (1 : Int32) from ⟨by decide, by decide⟩) (by decide)
        obtain ⟨w', q1, q2, q3⟩ := nat_of rg2 (by decide)
        have nm : ¬ lfh (h 31) (nI w) n - 1 = -1 := fun q => by
          rw [q] at rg2
          exact absurd rg2.1 (by decide)
        rw [if_neg nm, q3, nI_1]
        exact ih (k + 1) w' (by omega) (by omega) (by omega)
theorem ag_line (a1 a2 : Int32) (h : PH) (i : IM h) (rl : RLA h) {rX rm : Int32} {h2 : PH} (e1 : mX_line a1 a2 h = some rX) (e2 : mm_line a1 a2 h = some (rm, h2)) : rX = rm := by
  unfold mX_line at e1
  unfold mm_line at e2
  rw [lt_e] at e2
  have z01 : ¬ (1 : Int32) = 0 := by decide
  by_cases f1 : 0 ≤ a1 ∧ a1 ≤ 11
  · rw [within_y f1, bd_e, if_neg z01] at e1
    rw [isIn_y f1, bd_e, if_neg z01] at e2
    by_cases f2 : 0 ≤ a2 ∧ a2 ≤ 1
    · rw [within_y f2, bd_e, if_neg z01, jn1_e] at e1
      rw [isIn_y f2, bd_e, if_neg z01] at e2
      obtain ⟨n, n1, n2, en⟩ := nat_of (show R 0 12 (h 30 3) from inv_rng i.1 rfl) (by decide)
      have own : LS_heir h := rl.1.2.2.2.2.2.2.1
      unfold LS_heir at own
      obtain ⟨w, w1, w2, ew⟩ := nat_of (rng_of (x := 0) (y := 11) rfl rfl f1) (by decide)
      have go : ∀ x4 : Int32, (a2 = 0 ∧ x4 = 1) ∨ (¬ a2 = 0 ∧ x4 = 0) → ∃ r, mK_lineOf 30 a1 x4 h = some r ∧ mm_line_L33 a2 (up h 104 0 0) (fun (x5 : Int32) (x6 : Int32) => if a2 = 0 then some (x6, up h 104 0 0) else some (x5, up h 104 0 0)) FU a1 0 = some (r, up h 104 0 0) := fun x4 hx => by
        obtain ⟨r, q1, q2⟩ := ln_sim a2 x4 hx h (up h 104 0 0) i.1 n (by omega) en (fun k hk => (own.2.1 k (by rw [en, nI_toInt n2]; omega)).2) (fun w hw => by
          rw [up_oc (by decide), own.2.2 w hw, en, show (nI n).toNatClampNeg = n from nI_clamp n2]) FU 0 w (by unfold FU; omega) (by omega) (by omega)
        rw [nI_0, ← ew] at q1 q2
        exact ⟨r, q1, q2⟩
      by_cases c : a2 = 0
      · rw [if_pos c] at e1
        dsimp only at e1
        obtain ⟨r, q1, q2⟩ := go 1 (Or.inl ⟨c, rfl⟩)
        rw [q1, bd_e] at e1
        rw [q2] at e2
        cases e1
        cases e2
        rfl
      · rw [if_neg c] at e1
        dsimp only at e1
        obtain ⟨r, q1, q2⟩ := go 0 (Or.inr ⟨c, rfl⟩)
        rw [q1, bd_e] at e1
        rw [q2] at e2
        cases e1
        cases e2
        rfl
    · rw [within_n f2, bd_e, if_pos rfl] at e1
      rw [isIn_n f2, bd_e, if_pos rfl] at e2
      cases e1
      cases e2
      rfl
  · rw [within_n f1, bd_e, if_pos rfl] at e1
    rw [isIn_n f1, bd_e, if_pos rfl] at e2
    cases e1
    cases e2
    rfl
