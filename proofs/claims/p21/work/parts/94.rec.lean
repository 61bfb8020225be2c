/-! SAFETY, by hand: the methods that call themselves, texts -/
theorem ls_go : ∀ (n a0 : Nat) (p1 p2 : Int32) (h : PH), isR a0 → R 0 400 p1 → R 0 9 p2 → p2.toInt ≤ (n : Int) → Inv h → Sf (mK_leastShare (n + 1) a0 p1 p2 h) (fun r => R (-2147483648) 2147483647 r) := by
  intro n
  induction n with
  | zero =>
    intro a0 p1 p2 h hr f1 f2 hn i
    show Sf (mK_leastShare_F (mK_leastShare 0) a0 p1 p2 h) _
    refine sf_K_leastShare_F _ a0 p1 p2 h f1 f2 (fun c => ?_) hr i
    rw [Int32.lt_iff_toInt_lt] at c
    simp only [show (1 : Int32).toInt = 1 from rfl] at c
    omega
  | succ n ih =>
    intro a0 p1 p2 h hr f1 f2 hn i
    show Sf (mK_leastShare_F (mK_leastShare (n + 1)) a0 p1 p2 h) _
    refine sf_K_leastShare_F _ a0 p1 p2 h f1 f2 (fun c y g fy ig => ?_) hr i
    have m1 : R 1 1 (1 : Int32) := ⟨by decide, by decide⟩
    have f3 : R 2 9 p2 := lt_lo m1 f2 c (by decide)
    have e := i_sub f3 m1 (by decide)
    simp only [show (1 : Int32).toInt = 1 from rfl] at e
    exact ih a0 y (p2 - 1) g hr fy (r_w (r_sub f3 m1 (e := 1) (f := 8) (by decide)) (by decide)) (by omega) ig
theorem sf_K_leastShare (a0 : Nat) (p1 p2 : Int32) (f1 : R 0 400 p1) (f2 : R 0 9 p2) (hr : isR a0) {h0 : PH} (i : Inv h0) : Sf (mK_leastShare 30 a0 p1 p2 h0) (fun r => R (-2147483648) 2147483647 r) := ls_go 29 a0 p1 p2 h0 hr f1 f2 (by have := f2.2; omega) i
theorem ff_go : ∀ (n : Nat) (p2 p3 p4 : Int32) (h : PH), R 0 8 p3 → 8 - p3.toInt ≤ (n : Int) → Inv h → Sf (mK_fewestFrom (n + 1) 20 p2 p3 p4 h) (fun r => R (-2147483648) 2147483647 r.1 ∧ Inv r.2) := by
  intro n
  induction n with
  | zero =>
    intro p2 p3 p4 h f3 hn i
    show Sf (mK_fewestFrom_F (mK_fewestFrom 0) 20 p2 p3 p4 h) _
    refine sf_K_fewestFrom_F_20 _ p2 p3 p4 h f3 (fun c => ?_) i
    have q : R 0 8 (h 20 3) := inv_rng i rfl
    have := (lt_hi f3 q c (f := 7) (by decide)).2
    omega
  | succ n ih =>
    intro p2 p3 p4 h f3 hn i
    show Sf (mK_fewestFrom_F (mK_fewestFrom (n + 1)) 20 p2 p3 p4 h) _
    refine sf_K_fewestFrom_F_20 _ p2 p3 p4 h f3 (fun c y g ig => ?_) i
    have q : R 0 8 (h 20 3) := inv_rng i rfl
    have f4 := lt_hi f3 q c (f := 7) (by decide)
    have m1 : R 1 1 (1 : Int32) := ⟨by decide, by decide⟩
    have e := i_add f4 m1 (by decide)
    simp only [show (1 : Int32).toInt = 1 from rfl] at e
    exact ih p2 (p3 + 1) y g (r_w (r_add f4 m1 (e := 1) (f := 8) (by decide)) (by decide)) (by omega) ig
theorem sf_K_fewestFrom (p2 p3 p4 : Int32) (f3 : R 0 8 p3) {h0 : PH} (i : Inv h0) : Sf (mK_fewestFrom 30 20 p2 p3 p4 h0) (fun r => R (-2147483648) 2147483647 r.1 ∧ Inv r.2) := ff_go 29 p2 p3 p4 h0 f3 (by have := f3.1; omega) i
def zc (k : Nat) : Nat := ((List.range 6).filter (fun i => decide (k / 2 ^ i % 2 = 0))).length
theorem zc_dec : ∀ k, k < 64 → ∀ v, v < 6 → ((nI k >>> (nI v &&& 31)) &&& 1) = 0 → (nI k ||| (1 <<< (nI v &&& 31))) = nI (k + 2 ^ v) ∧ k + 2 ^ v < 64 ∧ zc (k + 2 ^ v) < zc k := by decide +kernel
theorem zc_le : ∀ k, k < 64 → zc k ≤ 6 := by decide +kernel
theorem nat_of {a b : Int} {x : Int32} (h : R a b x) (h0 : 0 ≤ a) : ∃ k : Nat, (k : Int) ≤ b ∧ k < 2 ^ 31 ∧ x = nI k := by
  obtain ⟨k, hk, rfl⟩ := nI_of (x := x) (by rw [Int32.lt_iff_toInt_lt]; simp only [show (0 : Int32).toInt = 0 from rfl]; have := h.1; omega)
  exact ⟨k, by have := h.2; rw [nI_toInt hk] at this; exact this, hk, rfl⟩
theorem db_go : ∀ (n k : Nat) (p2 p3 : Int32) (h : PH), k < 64 → zc k ≤ n → Inv h → Sf (mK_doneBy (n + 1) 28 (nI k) p2 p3 h) (fun r => R (-2147483648) 2147483647 r) := by
  intro n
  induction n with
  | zero =>
    intro k p2 p3 h hk hn i
    show Sf (mK_doneBy_F (mK_doneBy 0) 28 (nI k) p2 p3 h) _
    refine sf_K_doneBy_F_28 _ (nI k) p2 p3 h (fun v y z fv c => ?_) i
    obtain ⟨j, h1, -, rfl⟩ := nat_of fv (by decide)
    have := (zc_dec k hk j (by omega) c).2.2
    omega
  | succ n ih =>
    intro k p2 p3 h hk hn i
    show Sf (mK_doneBy_F (mK_doneBy (n + 1)) 28 (nI k) p2 p3 h) _
    refine sf_K_doneBy_F_28 _ (nI k) p2 p3 h (fun v y z fv c => ?_) i
    obtain ⟨j, h1, -, rfl⟩ := nat_of fv (by decide)
    obtain ⟨q1, q2, q3⟩ := zc_dec k hk j (by omega) c
    rw [q1]
    exact ih (k + 2 ^ j) y z h q2 (by omega) i
theorem sf_K_doneBy (p1 p2 p3 : Int32) (f1 : R 0 63 p1) {h0 : PH} (i : Inv h0) : Sf (mK_doneBy 30 28 p1 p2 p3 h0) (fun r => R (-2147483648) 2147483647 r) := by
  obtain ⟨k, h1, -, rfl⟩ := nat_of f1 (by decide)
  exact db_go 29 k p2 p3 h0 (by omega) (by have := zc_le k (by omega); omega) i
theorem r_or6 {x y : Int32} (hx : R 0 63 x) (hy : R 0 63 y) : R 0 63 (x ||| y) := by
  obtain ⟨k, h1, -, rfl⟩ := nat_of hx (by decide)
  obtain ⟨j, h2, -, rfl⟩ := nat_of hy (by decide)
  have key : ∀ k, k < 64 → ∀ j, j < 64 → 0 ≤ (nI k ||| nI j).toInt ∧ (nI k ||| nI j).toInt ≤ 63 := by decide +kernel
  exact key k (by omega) j (by omega)
theorem cc_go : ∀ (n : Nat) (p1 : Int32) (h : PH), R 0 8 p1 → Inv h → (17 - 2 * p1.toInt ≤ (n : Int) → Sf (mD_cc n false p1 h) (fun r => R 0 1 r.1 ∧ Inv r.2)) ∧ (18 - 2 * p1.toInt ≤ (n : Int) → Sf (mD_cc n true p1 h) (fun r => R 0 1 r.1 ∧ Inv r.2)) := by
  intro n
  induction n with
  | zero =>
    intro p1 h f i
    have := f.2
    exact ⟨fun q => by omega, fun q => by omega⟩
  | succ n ih =>
    intro p1 h f i
    constructor
    · intro q
      show Sf (mD_clause_F (mD_cc n true) (mD_cc n false) p1 h) _
      have stp1 : p1 < 8 → R 0 8 (p1 + 1) ∧ (p1 + 1).toInt = p1.toInt + 1 := fun c => by
        have m8 : R 8 8 (8 : Int32) := ⟨by decide, by decide⟩
        have m1 : R 1 1 (1 : Int32) := ⟨by decide, by decide⟩
        have f4 := lt_hi f m8 c (f := 7) (by decide)
        have e := i_add f4 m1 (by decide)
        simp only [show (1 : Int32).toInt = 1 from rfl] at e
        exact ⟨r_w (r_add f4 m1 (e := 1) (f := 8) (by decide)) (by decide), e⟩
      refine sf_D_clause_F _ _ p1 h (fun c g ig => ?_) (fun c g ig => ?_) i
      · obtain ⟨f5, e5⟩ := stp1 c
        exact (ih (p1 + 1) g f5 ig).2 (by omega)
      · obtain ⟨f5, e5⟩ := stp1 c
        exact (ih (p1 + 1) g f5 ig).1 (by omega)
    · intro q
      show Sf (mD_condition_F (mD_cc n false) p1 h) _
      exact sf_D_condition_F _ p1 h (fun g ig => (ih p1 g f ig).1 (by omega)) i
theorem sf_D_condition (p1 : Int32) (f : R 0 0 p1) {h0 : PH} (i : Inv h0) : Sf (mD_condition 30 p1 h0) (fun r => R 0 1 r.1 ∧ Inv r.2) := (cc_go 30 p1 h0 (r_w f (by decide)) i).2 (by have := f.1; omega)
theorem same_go (s1 : Nat) (hs : s1 < 5) (p2 p3 p4 : Int32) (f2 : R 0 103 p2) (f3 : R 0 400 p3) (f4 : R 0 401 p4) {h0 : PH} (i : Inv h0) : ∀ (n : Nat) (v5 : Int32), 401 - v5.toInt < (n : Int) → R 0 401 v5 → p3.toInt ≤ v5.toInt → Sf (mA_isSame_L3 s1 p2 p3 p4 h0 n v5) (fun r => R 0 1 r) := by
  intro n
  induction n with
  | zero => intro v5 hf f5 h5; have := f5.2; omega
  | succ n ih =>
    intro v5 hf f5 h5
    rw [mA_isSame_L3]
    refine s_if (fun c => s_some ⟨by decide, by decide⟩) (fun c => ?_)
    have f6 := lt_hi f5 f4 (nle_lt c) (f := 400) (by decide)
    refine s_lt (fun x1 e1 => ?_)
    have ea := i_add f2 f6 (by decide)
    have ra := r_add f2 f6 (e := 0) (f := 503) (by decide)
    have es := i_sub ra f3 (by decide)
    have ex : x1.toInt = p2.toInt + v5.toInt - p3.toInt := by rw [e1, es, ea]
    have l1 := sln_lt s1 hs
    have p0 := f2.1
    refine s_bd (P := fun r => r = nI (sln s1)) ⟨_, G_len s1 hs h0, rfl⟩ (fun r2 e2 => ?_)
    refine s_if (fun c2 => s_some ⟨by decide, by decide⟩) (fun c2 => ?_)
    rw [e2, Int32.le_iff_toInt_le, nI_toInt (by omega)] at c2
    refine s_bd (sf_G_charAt s1 x1 (L := (sln s1 : Int) - 1) ⟨by omega, by omega⟩ (by omega) (by omega)) (fun r3 _ => ?_)
    refine s_bd (sf_A_byteAt v5 i) (fun r4 _ => ?_)
    refine s_if (fun c3 => ?_) (fun c3 => s_some ⟨by decide, by decide⟩)
    have m1 : R 1 1 (1 : Int32) := ⟨by decide, by decide⟩
    have e5 := i_add f6 m1 (by decide)
    simp only [show (1 : Int32).toInt = 1 from rfl] at e5
    exact ih (v5 + 1) (by omega) (r_w (r_add f6 m1 (e := 1) (f := 401) (by decide)) (by decide)) (by omega)
theorem sf_A_isSame (s1 : Nat) (hs : s1 < 5) (p2 p3 p4 : Int32) (f2 : R 0 103 p2) (f3 : R 0 400 p3) (f4 : R 0 401 p4) {h0 : PH} (i : Inv h0) : Sf (mA_isSame s1 p2 p3 p4 h0) (fun r => R 0 1 r) :=
  same_go s1 hs p2 p3 p4 f2 f3 f4 i FU p3 (fu_up f3 (by decide)) (r_w f3 (by decide)) (Int.le_refl _)
theorem sf_A_isSame_0 (p2 p3 p4 : Int32) (f2 : R 0 103 p2) (f3 : R 0 400 p3) (f4 : R 0 401 p4) {h0 : PH} (i : Inv h0) : Sf (mA_isSame 0 p2 p3 p4 h0) (fun r => R 0 1 r) := sf_A_isSame 0 (by decide) p2 p3 p4 f2 f3 f4 i
theorem sf_A_isSame_1 (p2 p3 p4 : Int32) (f2 : R 0 103 p2) (f3 : R 0 400 p3) (f4 : R 0 401 p4) {h0 : PH} (i : Inv h0) : Sf (mA_isSame 1 p2 p3 p4 h0) (fun r => R 0 1 r) := sf_A_isSame 1 (by decide) p2 p3 p4 f2 f3 f4 i
theorem sf_A_isSame_2 (p2 p3 p4 : Int32) (f2 : R 0 103 p2) (f3 : R 0 400 p3) (f4 : R 0 401 p4) {h0 : PH} (i : Inv h0) : Sf (mA_isSame 2 p2 p3 p4 h0) (fun r => R 0 1 r) := sf_A_isSame 2 (by decide) p2 p3 p4 f2 f3 f4 i
theorem sf_A_isSame_3 (p2 p3 p4 : Int32) (f2 : R 0 103 p2) (f3 : R 0 400 p3) (f4 : R 0 401 p4) {h0 : PH} (i : Inv h0) : Sf (mA_isSame 3 p2 p3 p4 h0) (fun r => R 0 1 r) := sf_A_isSame 3 (by decide) p2 p3 p4 f2 f3 f4 i
theorem len26 (a0 : Nat) (hr : isR a0) (p3 : Int32) (f3 : R 0 400 p3) {h0 : PH} (i : Inv h0) (k0 : Int64 → Option Int64) (hk : ∀ x, Sf (k0 x) (fun _ => True)) : ∀ (n : Nat) (v1 : Int64) (v4 : Int32), 400 - v4.toInt < (n : Int) → R 0 400 v4 → Sf (mK_lengths_L26 a0 p3 h0 k0 n v1 v4) (fun _ => True) := by
  intro n
  induction n with
  | zero => intro v1 v4 hf f4; have := f4.2; omega
  | succ n ih =>
    intro v1 v4 hf f4
    rw [mK_lengths_L26]
    refine s_if (fun c => hk _) (fun c => ?_)
    have f5 := lt_hi f4 f3 (nle_lt c) (f := 399) (by decide)
    refine s_bd (sf_R_at a0 _ _ hr i) (fun r3 _ => ?_)
    refine s_bd (sf_R_at a0 _ _ hr i) (fun r4 _ => ?_)
    refine s_lt (fun x5 _ => ?_)
    exact ih x5 (v4 + 1) (fu_su hf (i_inc f5 (k := 1) rfl (by decide)) (by decide)) (r_w (r_add f5 (show R 1 1 (1 : Int32) from ⟨by decide, by decide⟩) (e := 1) (f := 400) (by decide)) (by decide))
theorem len4 (a0 : Nat) (hr : isR a0) {h0 : PH} (i : Inv h0) : ∀ (n : Nat) (v1 : Int64) (v3 : Int32), 400 - v3.toInt < (n : Int) → R 0 400 v3 → Sf (mK_lengths_L4 a0 h0 n v1 v3) (fun _ => True) := by
  intro n
  induction n with
  | zero => intro v1 v3 hf f3; have := f3.2; omega
  | succ n ih =>
    intro v1 v3 hf f3
    rw [mK_lengths_L4]
    refine s_if (fun c => s_some trivial) (fun c => ?_)
    have f5 := lt_hi f3 (rows_rng hr i) (nle_lt c) (f := 399) (by decide)
    refine s_bd (sf_R_at a0 _ _ hr i) (fun r1 _ => ?_)
    refine s_lt (fun x2 _ => ?_)
    refine len26 a0 hr v3 (r_w f5 (by decide)) i _ (fun x6 => ?_) FU x2 0 (fu_up (show R 0 0 (0 : Int32) from ⟨by decide, by decide⟩) (by decide)) ⟨by decide, by decide⟩
    exact ih x6 (v3 + 1) (fu_su hf (i_inc f5 (k := 1) rfl (by decide)) (by decide)) (r_w (r_add f5 (show R 1 1 (1 : Int32) from ⟨by decide, by decide⟩) (e := 1) (f := 400) (by decide)) (by decide))
theorem sf_K_lengths (a0 : Nat) (hr : isR a0) {h0 : PH} (i : Inv h0) : Sf (mK_lengths a0 h0) (fun _ => True) := len4 a0 hr i FU 0 0 (fu_up (show R 0 0 (0 : Int32) from ⟨by decide, by decide⟩) (by decide)) ⟨by decide, by decide⟩
theorem sf_K_countLengths (a0 : Nat) (hr : isR a0) {h0 : PH} (i : Inv h0) : Sf (mK_countLengths a0 h0) (fun r => R (-2147483648) 2147483647 r) := by
  unfold mK_countLengths
  refine s_bd (sf_K_lengths a0 hr i) (fun r1 _ => ?_)
  refine s_bd (P := fun _ => True) ?_ (fun r2 _ => s_some (r_full _))
  unfold mN_bitCount
  exact s_lt (fun _ _ => s_lt (fun _ _ => s_lt (fun _ _ => s_lt (fun _ _ => s_lt (fun _ _ => s_lt (fun _ _ => s_some trivial))))))
theorem miss7 (p1 : Int64) (h0 : PH) : ∀ (n : Nat) (v3 : Int32), 61 - v3.toInt < (n : Int) → R 1 61 v3 → Sf (mK_leastMissing_L7 p1 h0 n v3) (fun r => R (-2147483648) 2147483647 r) := by
  intro n
  induction n with
  | zero => intro v3 hf f3; have := f3.2; omega
  | succ n ih =>
    intro v3 hf f3
    rw [mK_leastMissing_L7]
    refine s_if (fun c => s_some (r_full _)) (fun c => ?_)
    have f5 : R 1 60 v3 := le_hi f3 (show R 60 60 (60 : Int32) from ⟨by decide, by decide⟩) (nlt_le c)
    refine s_if (fun c2 => s_some (r_full _)) (fun c2 => ?_)
    exact ih (v3 + 1) (fu_su hf (i_inc f5 (k := 1) rfl (by decide)) (by decide)) (r_w (r_add f5 (show R 1 1 (1 : Int32) from ⟨by decide, by decide⟩) (e := 2) (f := 61) (by decide)) (by decide))
theorem sf_K_leastMissing (a0 : Nat) (hr : isR a0) {h0 : PH} (i : Inv h0) : Sf (mK_leastMissing a0 h0) (fun r => R (-2147483648) 2147483647 r) := by
  unfold mK_leastMissing
  refine s_bd (sf_K_lengths a0 hr i) (fun r1 _ => ?_)
  exact miss7 r1 h0 FU 1 (fu_up (show R 1 1 (1 : Int32) from ⟨by decide, by decide⟩) (by decide)) ⟨by decide, by decide⟩
theorem sf_D_wordsOf (p0 : Int32) (h0 : PH) : Sf (mD_wordsOf p0 h0) (fun r => r < 4) := by
  unfold mD_wordsOf
  exact s_if (fun _ => s_some (by decide)) (fun _ => s_if (fun _ => s_some (by decide)) (fun _ => s_if (fun _ => s_some (by decide)) (fun _ => s_some (by decide))))
