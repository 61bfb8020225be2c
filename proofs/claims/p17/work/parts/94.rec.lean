section
/-! SAFETY, by hand: the methods that call themselves, texts -/
theorem ls_go : ∀ (n a0 : Nat) (p1 p2 : Int32) (h : PH), isR a0 → R 0 400 p1 → R 0 9 p2 → p2.toInt ≤ (n : Int) → Inv h → Sf (mK_leastShare (n + 1) a0 p1 p2 h) (fun r => R (-2147483648) 2147483647 r) := by
  intro n
  induction n with
  | zero =>
    intro a0 p1 p2 h hr f1 f2 hn i
    show Sf (mK_leastShare_F (mK_leastShare 0) a0 p1 p2 h) _
    refine sf_K_leastShare_F _ a0 p1 p2 h f1 f2 (fun c => ?_) hr i
    rw [Int32.lt_iff_toInt_lt] at c
    simp only [show (1 : Int32).toInt = 1 from rfl] at c
    omega
  | succ n ih =>
    intro a0 p1 p2 h hr f1 f2 hn i
    show Sf (mK_leastShare_F (mK_leastShare (n + 1)) a0 p1 p2 h) _
    refine sf_K_leastShare_F _ a0 p1 p2 h f1 f2 (fun c y g fy ig => ?_) hr i
    have m1 : R 1 1 (1 : Int32) := ⟨by decide, by decide⟩
    have f3 : R 2 9 p2 := lt_lo m1 f2 c (by decide)
    have e := i_sub f3 m1 (by decide)
    simp only [show (1 : Int32).toInt = 1 from rfl] at e
    exact ih a0 y (p2 - 1) g hr fy (r_w (r_sub f3 m1 (e := 1) (f := 8) (by decide)) (by decide)) (by omega) ig
theorem sf_K_leastShare (a0 : Nat) (p1 p2 : Int32) (f1 : R 0 400 p1) (f2 : R 0 9 p2) (hr : isR a0) {h0 : PH} (i : Inv h0) : Sf (mK_leastShare 30 a0 p1 p2 h0) (fun r => R (-2147483648) 2147483647 r) := ls_go 29 a0 p1 p2 h0 hr f1 f2 (by have := f2.2; omega) i
theorem ff_go : ∀ (n : Nat) (p2 p3 p4 : Int32) (h : PH), R 0 8 p3 → 8 - p3.toInt ≤ (n : Int) → Inv h → Sf (mK_fewestFrom (n + 1) 20 p2 p3 p4 h) (fun r => R (-2147483648) 2147483647 r.1 ∧ Inv r.2) := by
  intro n
  induction n with
  | zero =>
    intro p2 p3 p4 h f3 hn i
    show Sf (mK_fewestFrom_F (mK_fewestFrom 0) 20 p2 p3 p4 h) _
    refine sf_K_fewestFrom_F_20 _ p2 p3 p4 h f3 (fun c => ?_) i
    have q : R 0 8 (h 20 3) := inv_rng i rfl
    have := (lt_hi f3 q c (f := 7) (by decide)).2
    omega
  | succ n ih =>
    intro p2 p3 p4 h f3 hn i
    show Sf (mK_fewestFrom_F (mK_fewestFrom (n + 1)) 20 p2 p3 p4 h) _
    refine sf_K_fewestFrom_F_20 _ p2 p3 p4 h f3 (fun c y g ig => ?_) i
    have q : R 0 8 (h 20 3) := inv_rng i rfl
    have f4 := lt_hi f3 q c (f := 7) (by decide)
    have m1 : R 1 1 (1 : Int32) := ⟨by decide, by decide⟩
    have e := i_add f4 m1 (by decide)
    simp only [show (1 : Int32).toInt = 1 from rfl] at e
    exact ih p2 (p3 + 1) y g (r_w (r_add f4 m1 (e := 1) (f := 8) (by decide)) (by decide)) (by omega) ig
theorem sf_K_fewestFrom (p2 p3 p4 : Int32) (f3 : R 0 8 p3) {h0 : PH} (i : Inv h0) : Sf (mK_fewestFrom 30 20 p2 p3 p4 h0) (fun r => R (-2147483648) 2147483647 r.1 ∧ Inv r.2) := ff_go 29 p2 p3 p4 h0 f3 (by have := f3.1; omega) i
def zc (k : Nat) : Nat := ((List.range 6).filter (fun i => decide (k / 2 ^ i % 2 = 0))).length
theorem zc_dec : ∀ k, k < 64 → ∀ v, v < 6 → ((nI k >>> (nI v &&& 31)) &&& 1) = 0 → (nI k ||| (1 <<< (nI v &&& 31))) = nI (k + 2 ^ v) ∧ k + 2 ^ v < 64 ∧ zc (k + 2 ^ v) < zc k := by decide +kernel
theorem zc_le : ∀ k, k < 64 → zc k ≤ 6 := by decide +kernel
theorem nat_of {a b : Int} {x : Int32} (h : R a b x) (h0 : 0 ≤ a) : ∃ k : Nat, (k : Int) ≤ b ∧ k < 2 ^ 31 ∧ x = nI k := by
  obtain ⟨k, hk, rfl⟩ := nI_of (x := x) (by rw [Int32.lt_iff_toInt_lt]; simp only [show (0 : Int32).toInt = 0 from rfl]; have := h.1; omega)
  exact ⟨k, by have := h.2; rw [nI_toInt hk] at this; exact this, hk, rfl⟩
theorem db_go : ∀ (n k : Nat) (p2 p3 : Int32) (h : PH), k < 64 → zc k ≤ n → Inv h → Sf (mK_doneBy (n + 1) 28 (nI k) p2 p3 h) (fun r => R (-2147483648) 2147483647 r) := by
  intro n
  induction n with
  | zero =>
    intro k p2 p3 h hk hn i
    show Sf (mK_doneBy_F (mK_doneBy 0) 28 (nI k) p2 p3 h) _
    refine sf_K_doneBy_F_28 _ (nI k) p2 p3 h (fun v y z fv c => ?_) i
    obtain ⟨j, h1, -, rfl⟩ := nat_of fv (by decide)
    have := (zc_dec k hk j (by omega) c).2.2
    omega
  | succ n ih =>
    intro k p2 p3 h hk hn i
    show Sf (mK_doneBy_F (mK_doneBy (n + 1)) 28 (nI k) p2 p3 h) _
    refine sf_K_doneBy_F_28 _ (nI k) p2 p3 h (fun v y z fv c => ?_) i
    obtain ⟨j, h1, -, rfl⟩ := nat_of fv (by decide)
    obtain ⟨q1, q2, q3⟩ := zc_dec k hk j (by omega) c
    rw [q1]
    exact ih (k + 2 ^ j) y z h q2 (by omega) i
theorem sf_K_doneBy (p1 p2 p3 : Int32) (f1 : R 0 63 p1) {h0 : PH} (i : Inv h0) : Sf (mK_doneBy 30 28 p1 p2 p3 h0) (fun r => R (-2147483648) 2147483647 r) := by
  obtain ⟨k, h1, -, rfl⟩ := nat_of f1 (by decide)
  exact db_go 29 k p2 p3 h0 (by omega) (by have := zc_le k (by omega); omega) i
theorem r_or6 {x y : Int32} (hx : R 0 63 x) (hy : R 0 63 y) : R 0 63 (x ||| y) := by
  obtain ⟨k, h1, -, rfl⟩ := nat_of hx (by decide)
  obtain ⟨j, h2, -, rfl⟩ := nat_of hy (by decide)
  have key : ∀ k, k < 64 → ∀ j, j < 64 → 0 ≤ (nI k ||| nI j).toInt ∧ (nI k ||| nI j).toInt ≤ 63 := by decide +kernel
  exact key k (by omega) j (by omega)
theorem cc_go : ∀ (n : Nat) (p1 : Int32) (h : PH), R 0 8 p1 → Inv h → (17 - 2 * p1.toInt ≤ (n : Int) → Sf (mD_cc n false p1 h) (fun r => R 0 1 r.1 ∧ Inv r.2)) ∧ (18 - 2 * p1.toInt ≤ (n : Int) → Sf (mD_cc n true p1 h) (fun r => R 0 1 r.1 ∧ Inv r.2)) := by
  intro n
  induction n with
  | zero =>
    intro p1 h f i
    have := f.2
    exact ⟨fun q => by omega, fun q => by omega⟩
  | succ n ih =>
    intro p1 h f i
    constructor
    · intro q
      show Sf (mD_clause_F (mD_cc n true) (mD_cc n false) p1 h) _
      have stp1 : p1 < 8 → R 0 8 (p1 + 1) ∧ (p1 + 1).toInt = p1.toInt + 1 := fun c => by
        have m8 : R 8 8 (8 : Int32) := ⟨by decide, by decide⟩
        have m1 : R 1 1 (1 : Int32) := ⟨by decide, by decide⟩
        have f4 := lt_hi f m8 c (f := 7) (by decide)
        have e := i_add f4 m1 (by decide)
        simp only [show (1 : Int32).toInt = 1 from rfl] at e
        exact ⟨r_w (r_add f4 m1 (e := 1) (f := 8) (by decide)) (by decide), e⟩
      refine sf_D_clause_F _ _ p1 h (fun c g ig => ?_) (fun c g ig => ?_) i
      · obtain ⟨f5, e5⟩ := stp1 c
        exact (ih (p1 + 1) g f5 ig).2 (by omega)
      · obtain ⟨f5, e5⟩ := stp1 c
        exact (ih (p1 + 1) g f5 ig).1 (by omega)
    · intro q
      show Sf (mD_condition_F (mD_cc n false) p1 h) _
      exact sf_D_condition_F _ p1 h (fun g ig => (ih p1 g f ig).1 (by omega)) i
theorem sf_D_condition (p1 : Int32) (f : R 0 0 p1) {h0 : PH} (i : Inv h0) : Sf (mD_condition 30 p1 h0) (fun r => R 0 1 r.1 ∧ Inv r.2) := (cc_go 30 p1 h0 (r_w f (by decide)) i).2 (by have := f.1; omega)
theorem same_go (s1 : Nat) (hs : s1 < 5) (p2 p3 p4 : Int32) (f2 : R 0 103 p2) (f3 : R 0 400 p3) (f4 : R 0 401 p4) {h0 : PH} (i : Inv h0) : ∀ (n : Nat) (v5 : Int32), 401 - v5.toInt < (n : Int) → R 0 401 v5 → p3.toInt ≤ v5.toInt → Sf (mA_isSame_L3 s1 p2 p3 p4 h0 n v5) (fun r => R 0 1 r) := by
  intro n
  induction n with
  | zero => intro v5 hf f5 h5; have := f5.2; omega
  | succ n ih =>
    intro v5 hf f5 h5
    rw [mA_isSame_L3]
    refine s_if (fun c => s_some ⟨by decide, by decide⟩) (fun c => ?_)
    have f6 := lt_hi f5 f4 (nle_lt c) (f := 400) (by decide)
    refine s_lt (fun x1 e1 => ?_)
    have ea := i_add f2 f6 (by decide)
    have ra := r_add f2 f6 (e := 0) (f := 503) (by decide)
    have es := i_sub ra f3 (by decide)
    have ex : x1.toInt = p2.toInt + v5.toInt - p3.toInt := by rw [e1, es, ea]
    have l1 := sln_lt s1 hs
    have p0 := f2.1
    refine s_bd (P := fun r => r = nI (sln s1)) ⟨_, G_len s1 hs h0, rfl⟩ (fun r2 e2 => ?_)
    refine s_if (fun c2 => s_some ⟨by decide, by decide⟩) (fun c2 => ?_)
    rw [e2, Int32.le_iff_toInt_le, nI_toInt (by omega)] at c2
    refine s_bd (sf_G_charAt s1 x1 (L := (sln s1 : Int) - 1) ⟨by omega, by omega⟩ (by omega) (by omega)) (fun r3 _ => ?_)
    refine s_bd (sf_A_byteAt v5 i) (fun r4 _ => ?_)
    refine s_if (fun c3 => ?_) (fun c3 => s_some ⟨by decide, by decide⟩)
    have m1 : R 1 1 (1 : Int32) := ⟨by decide, by decide⟩
    have e5 := i_add f6 m1 (by decide)
    simp only [show (1 : Int32).toInt = 1 from rfl] at e5
    exact ih (v5 + 1) (by omega) (r_w (r_add f6 m1 (e := 1) (f := 401) (by decide)) (by decide)) (by omega)
theorem sf_A_isSame (s1 : Nat) (hs : s1 < 5) (p2 p3 p4 : Int32) (f2 : R 0 103 p2) (f3 : R 0 400 p3) (f4 : R 0 401 p4) {h0 : PH} (i : Inv h0) : Sf (mA_isSame s1 p2 p3 p4 h0) (fun r => R 0 1 r) :=
  same_go s1 hs p2 p3 p4 f2 f3 f4 i FU p3 (fu_up f3 (by decide)) (r_w f3 (by decide)) (Int.le_refl _)
theorem sf_A_isSame_0 (p2 p3 p4 : Int32) (f2 : R 0 103 p2) (f3 : R 0 400 p3) (f4 : R 0 401 p4) {h0 : PH} (i : Inv h0) : Sf (mA_isSame 0 p2 p3 p4 h0) (fun r => R 0 1 r) := sf_A_isSame 0 (by decide) p2 p3 p4 f2 f3 f4 i
theorem sf_A_isSame_1 (p2 p3 p4 : Int32) (f2 : R 0 103 p2) (f3 : R 0 400 p3) (f4 : R 0 401 p4) {h0 : PH} (i : Inv h0) : Sf (mA_isSame 1 p2 p3 p4 h0) (fun r => R 0 1 r) := sf_A_isSame 1 (by decide) p2 p3 p4 f2 f3 f4 i
theorem sf_A_isSame_2 (p2 p3 p4 : Int32) (f2 : R 0 103 p2) (f3 : R 0 400 p3) (f4 : R 0 401 p4) {h0 : PH} (i : Inv h0) : Sf (mA_isSame 2 p2 p3 p4 h0) (fun r => R 0 1 r) := sf_A_isSame 2 (by decide) p2 p3 p4 f2 f3 f4 i
theorem sf_A_isSame_3 (p2 p3 p4 : Int32) (f2 : R 0 103 p2) (f3 : R 0 400 p3) (f4 : R 0 401 p4) {h0 : PH} (i : Inv h0) : Sf (mA_isSame 3 p2 p3 p4 h0) (fun r => R 0 1 r) := sf_A_isSame 3 (by decide) p2 p3 p4 f2 f3 f4 i
theorem len26 (a0 : Nat) (hr : isR a0) (p3 : Int32) (f3 : R 0 400 p3) {h0 : PH} (i : Inv h0) (k0 : Int64 → Option Int64) (hk : ∀ x, Sf (k0 x) (fun _ => True)) : ∀ (n : Nat) (v1 : Int64) (v4 : Int32), 400 - v4.toInt < (n : Int) → R 0 400 v4 → Sf (mK_lengths_L26 a0 p3 h0 k0 n v1 v4) (fun _ => True) := by
  intro n
  induction n with
  | zero => intro v1 v4 hf f4; have := f4.2; omega
  | succ n ih =>
    intro v1 v4 hf f4
    rw [mK_lengths_L26]
    refine s_if (fun c => hk _) (fun c => ?_)
    have f5 := lt_hi f4 f3 (nle_lt c) (f := 399) (by decide)
    refine s_bd (sf_R_at a0 _ _ hr i) (fun r3 _ => ?_)
    refine s_bd (sf_R_at a0 _ _ hr i) (fun r4 _ => ?_)
    refine s_lt (fun x5 _ => ?_)
    exact ih x5 (v4 + 1) (fu_su hf (i_inc f5 (k := 1) rfl (by decide)) (by decide)) (r_w (r_add f5 (show R 1 1 (1 : Int32) from ⟨by decide, by decide⟩) (e := 1) (f := 400) (by decide)) (by decide))
theorem len4 (a0 : Nat) (hr : isR a0) {h0 : PH} (i : Inv h0) : ∀ (n : Nat) (v1 : Int64) (v3 : Int32), 400 - v3.toInt < (n : Int) → R 0 400 v3 → Sf (mK_lengths_L4 a0 h0 n v1 v3) (fun _ => True) := by
  intro n
  induction n with
  | zero => intro v1 v3 hf f3; have := f3.2; omega
  | succ n ih =>
    intro v1 v3 hf f3
    rw [mK_lengths_L4]
    refine s_if (fun c => s_some trivial) (fun c => ?_)
    have f5 := lt_hi f3 (rows_rng hr i) (nle_lt c) (f := 399) (by decide)
    refine s_bd (sf_R_at a0 _ _ hr i) (fun r1 _ => ?_)
    refine s_lt (fun x2 _ => ?_)
    refine len26 a0 hr v3 (r_w f5 (by decide)) i _ (fun x6 => ?_) FU x2 0 (fu_up (show R 0 0 (0 : Int32) from ⟨by decide, by decide⟩) (by decide)) ⟨by decide, by decide⟩
    exact ih x6 (v3 + 1) (fu_su hf (i_inc f5 (k := 1) rfl (by decide)) (by decide)) (r_w (r_add f5 (show R 1 1 (1 : Int32) from ⟨by decide, by decide⟩) (e := 1) (f := 400) (by decide)) (by decide))
theorem sf_K_lengths (a0 : Nat) (hr : isR a0) {h0 : PH} (i : Inv h0) : Sf (mK_lengths a0 h0) (fun _ => True) := len4 a0 hr i FU 0 0 (fu_up (show R 0 0 (0 : Int32) from ⟨by decide, by decide⟩) (by decide)) ⟨by decide, by decide⟩
theorem sf_K_countLengths (a0 : Nat) (hr : isR a0) {h0 : PH} (i : Inv h0) : Sf (mK_countLengths a0 h0) (fun r => R (-2147483648) 2147483647 r) := by
  unfold mK_countLengths
  refine s_bd (sf_K_lengths a0 hr i) (fun r1 _ => ?_)
  refine s_bd (P := fun _ => True) ?_ (fun r2 _ => s_some (r_full _))
  unfold mN_bitCount
  exact s_lt (fun _ _ => s_lt (fun _ _ => s_lt (fun _ _ => s_lt (fun _ _ => s_lt (fun _ _ => s_lt (fun _ _ => s_some trivial))))))
theorem miss7 (p1 : Int64) (h0 : PH) : ∀ (n : Nat) (v3 : Int32), 61 - v3.toInt < (n : Int) → R 1 61 v3 → Sf (mK_leastMissing_L7 p1 h0 n v3) (fun r => R (-2147483648) 2147483647 r) := by
  intro n
  induction n with
  | zero => intro v3 hf f3; have := f3.2; omega
  | succ n ih =>
    intro v3 hf f3
    rw [mK_leastMissing_L7]
    refine s_if (fun c => s_some (r_full _)) (fun c => ?_)
    have f5 : R 1 60 v3 := le_hi f3 (show R 60 60 (60 : Int32) from ⟨by decide, by decide⟩) (nlt_le c)
    refine s_if (fun c2 => s_some (r_full _)) (fun c2 => ?_)
    exact ih (v3 + 1) (fu_su hf (i_inc f5 (k := 1) rfl (by decide)) (by decide)) (r_w (r_add f5 (show R 1 1 (1 : Int32) from ⟨by decide, by decide⟩) (e := 2) (f := 61) (by decide)) (by decide))
theorem sf_K_leastMissing (a0 : Nat) (hr : isR a0) {h0 : PH} (i : Inv h0) : Sf (mK_leastMissing a0 h0) (fun r => R (-2147483648) 2147483647 r) := by
  unfold mK_leastMissing
  refine s_bd (sf_K_lengths a0 hr i) (fun r1 _ => ?_)
  exact miss7 r1 h0 FU 1 (fu_up (show R 1 1 (1 : Int32) from ⟨by decide, by decide⟩) (by decide)) ⟨by decide, by decide⟩
theorem sf_D_wordsOf (p0 : Int32) (h0 : PH) : Sf (mD_wordsOf p0 h0) (fun r => r < 4) := by
  unfold mD_wordsOf
  exact s_if (fun _ => s_some (by decide)) (fun _ => s_if (fun _ => s_some (by decide)) (fun _ => s_if (fun _ => s_some (by decide)) (fun _ => s_some (by decide))))
end
section
/-! SAFETY of the mirrors, by ranges: the rest of the class. Printed by wip/gen/drive.py -/
theorem sl_A_wordNumber_L9_0 (p2 : Int32) (p3 : Int32) (h0 : PH) (f_p2 : R 0 400 p2) (f_p3 : R 0 401 p3) (i_h0 : Inv h0) : ∀ (n : Nat) (v4 : Int32) (v5 : Int32) (v6 : Int32), 103 - v6.toInt < (n : Int) → R (-2147483648) 2147483647 v4 → R 0 103 v5 → R 0 103 v6 → Sf (mA_wordNumber_L9 0 p2 p3 h0 n v4 v5 v6) (fun r => R (-2147483648) 2147483647 r) := by
  intro n
  induction n with
  | zero =>
    intro v4 v5 v6 hfu f_v4 f_v5 f_v6
    have := f_v6.2
    omega
  | succ n ih =>
    intro v4 v5 v6 hfu f_v4 f_v5 f_v6
    rw [mA_wordNumber_L9]
    refine s_bd (sf_G_length_0 i_h0) (fun r1 f1 => ?_)
    refine s_if (fun c2 => ?_) (fun c2 => ?_)
    ·
      have f3 : R 103 103 v6 := lt_lo f1 f_v6 c2 (by decide)
      exact s_some (r_w (⟨by decide, by decide⟩ : R (-1) (-1) (-1 : Int32)) (by decide))
    ·
      have f4 : R 0 102 v6 := le_hi f_v6 f1 (nlt_le c2)
      refine s_bd (sf_G_length_0 i_h0) (fun r2 f5 => ?_)
      refine s_jn0 ?_ (fun j3 kj3 => ?_)
      ·
        refine s_if (fun c12 => ?_) (fun c12 => ?_)
        ·
          have f13 : R (-103) 102 (p3 - p2) := r_eq (r_sub f4 f_v5 (by decide) : R (-103) 102 (v6 - v5)) c12.symm
          refine s_bd (sf_A_isSame_0 v5 p2 p3 (r_w f_v5 (by decide)) (r_w f_p2 (by decide)) (r_w f_p3 (by decide)) i_h0) (fun r4 f14 => ?_)
          refine s_if (fun c15 => ?_) (fun c15 => ?_)
          ·
            have f16 : R 0 0 r4 := r_eq (⟨by decide, by decide⟩ : R 0 0 (0 : Int32)) c15
            refine s_lt (fun x5 e17 => ?_)
            have f18 : R 1 103 x5 := by rw [e17]; exact (r_add f4 (⟨by decide, by decide⟩ : R 1 1 (1 : Int32)) (by decide) : R 1 103 (v6 + 1))
            exact ih (v4 + 1) x5 (v6 + 1) (fu_su hfu (i_inc f4 (k := 1) rfl (by decide)) (by decide)) (r_w (r_full (v4 + 1)) (by decide)) (r_w f18 (by decide)) (r_w (r_add f4 (⟨by decide, by decide⟩ : R 1 1 (1 : Int32)) (by decide) : R 1 103 (v6 + 1)) (by decide))
          ·
            have f19 : R 1 1 r4 := r_ne_lo f14 (⟨by decide, by decide⟩ : R 0 0 (0 : Int32)) c15 (by decide)
            exact s_some (r_w f_v4 (by decide))
        ·
          refine s_lt (fun x6 e20 => ?_)
          have f21 : R 1 103 x6 := by rw [e20]; exact (r_add f4 (⟨by decide, by decide⟩ : R 1 1 (1 : Int32)) (by decide) : R 1 103 (v6 + 1))
          exact ih (v4 + 1) x6 (v6 + 1) (fu_su hfu (i_inc f4 (k := 1) rfl (by decide)) (by decide)) (r_w (r_full (v4 + 1)) (by decide)) (r_w f21 (by decide)) (r_w (r_add f4 (⟨by decide, by decide⟩ : R 1 1 (1 : Int32)) (by decide) : R 1 103 (v6 + 1)) (by decide))
      ·
        refine s_if (fun c22 => ?_) (fun c22 => ?_)
        ·
          have f23 : R 102 102 v6 := r_eq f5 c22
          exact kj3
        ·
          have f24 : R 0 101 v6 := r_ne_hi f4 f5 c22 (by decide)
          refine s_bd (sf_G_charAt_0 v6 (r_w f24 (by decide)) i_h0) (fun r7 f25 => ?_)
          refine s_if (fun c26 => ?_) (fun c26 => ?_)
          ·
            have f27 : R 32 32 r7 := r_eq (⟨by decide, by decide⟩ : R 32 32 (32 : Int32)) c26
            exact kj3
          ·
            exact ih v4 v5 (v6 + 1) (fu_su hfu (i_inc f24 (k := 1) rfl (by decide)) (by decide)) (r_w f_v4 (by decide)) (r_w f_v5 (by decide)) (r_w (r_add f24 (⟨by decide, by decide⟩ : R 1 1 (1 : Int32)) (by decide) : R 1 102 (v6 + 1)) (by decide))
theorem sf_A_wordNumber_0 (p2 : Int32) (p3 : Int32) (f_p2 : R 0 400 p2) (f_p3 : R 0 401 p3) {h0 : PH} (i_h0 : Inv h0) : Sf (mA_wordNumber 0 p2 p3 h0) (fun r => R (-2147483648) 2147483647 r) := by
  unfold mA_wordNumber
  refine sl_A_wordNumber_L9_0 p2 p3 h0 (r_w f_p2 (by decide)) (r_w f_p3 (by decide)) i_h0 FU 0 0 0 (fu_up (⟨by decide, by decide⟩ : R 0 0 (0 : Int32)) (by decide)) (r_w (⟨by decide, by decide⟩ : R 0 0 (0 : Int32)) (by decide)) (r_w (⟨by decide, by decide⟩ : R 0 0 (0 : Int32)) (by decide)) (r_w (⟨by decide, by decide⟩ : R 0 0 (0 : Int32)) (by decide))
theorem sf_A_kindOf_0 (p2 : Int32) (p3 : Int32) (f_p2 : R 0 400 p2) (f_p3 : R 0 401 p3) {h0 : PH} (i_h0 : Inv h0) : Sf (mA_kindOf 0 p2 p3 h0) (fun r => R 1 4 r) := by
  unfold mA_kindOf
  refine s_bd (sf_A_byteAt p2 i_h0) (fun r1 f1 => ?_)
  refine s_bd (sf_A_isLetter r1 i_h0) (fun r2 f2 => ?_)
  refine s_if (fun c3 => ?_) (fun c3 => ?_)
  ·
    have f4 : R 0 0 r2 := r_eq (⟨by decide, by decide⟩ : R 0 0 (0 : Int32)) c3
    refine s_bd (sf_A_isDigit r1 i_h0) (fun r3 f5 => ?_)
    refine s_if (fun c6 => ?_) (fun c6 => ?_)
    ·
      have f7 : R 0 0 r3 := r_eq (⟨by decide, by decide⟩ : R 0 0 (0 : Int32)) c6
      refine s_bd (sf_G_indexOf_4 (i2c r1) i_h0) (fun r4 f8 => ?_)
      refine s_if (fun c9 => ?_) (fun c9 => ?_)
      ·
        have f10 : R (-1) (-1) r4 := lt_hi f8 (⟨by decide, by decide⟩ : R 0 0 (0 : Int32)) c9 (by decide)
        exact s_some (r_w (⟨by decide, by decide⟩ : R 4 4 (4 : Int32)) (by decide))
      ·
        have f11 : R 0 9 r4 := le_lo (⟨by decide, by decide⟩ : R 0 0 (0 : Int32)) f8 (nlt_le c9)
        exact s_some (r_w (⟨by decide, by decide⟩ : R 3 3 (3 : Int32)) (by decide))
    ·
      have f12 : R 1 1 r3 := r_ne_lo f5 (⟨by decide, by decide⟩ : R 0 0 (0 : Int32)) c6 (by decide)
      refine s_if (fun c13 => ?_) (fun c13 => ?_)
      ·
        have f14 : R 5 401 (p3 - p2) := lt_lo (⟨by decide, by decide⟩ : R 4 4 (4 : Int32)) (r_sub f_p3 f_p2 (by decide) : R (-400) 401 (p3 - p2)) c13 (by decide)
        exact s_some (r_w (⟨by decide, by decide⟩ : R 4 4 (4 : Int32)) (by decide))
      ·
        have f15 : R (-400) 4 (p3 - p2) := le_hi (r_sub f_p3 f_p2 (by decide) : R (-400) 401 (p3 - p2)) (⟨by decide, by decide⟩ : R 4 4 (4 : Int32)) (nlt_le c13)
        exact s_some (r_w (⟨by decide, by decide⟩ : R 2 2 (2 : Int32)) (by decide))
  ·
    have f16 : R 1 1 r2 := r_ne_lo f2 (⟨by decide, by decide⟩ : R 0 0 (0 : Int32)) c3 (by decide)
    refine s_bd (sf_A_wordNumber_0 p2 p3 (r_w f_p2 (by decide)) (r_w f_p3 (by decide)) i_h0) (fun r5 f17 => ?_)
    refine s_if (fun c18 => ?_) (fun c18 => ?_)
    ·
      have f19 : R (-1) (-1) r5 := r_eq (⟨by decide, by decide⟩ : R (-1) (-1) (-1 : Int32)) c18
      exact s_some (r_w (⟨by decide, by decide⟩ : R 4 4 (4 : Int32)) (by decide))
    ·
      exact s_some (r_w (⟨by decide, by decide⟩ : R 1 1 (1 : Int32)) (by decide))
theorem sf_A_valueOf_0 (p2 : Int32) (p3 : Int32) (p4 : Int32) (f_p3 : R 0 400 p3) (f_p4 : R 0 401 p4) {h0 : PH} (i_h0 : Inv h0) : Sf (mA_valueOf 0 p2 p3 p4 h0) (fun r => R (-2147483648) 2147483647 r) := by
  unfold mA_valueOf
  refine s_if (fun c1 => ?_) (fun c1 => ?_)
  ·
    have f2 : R 1 1 p2 := r_eq (⟨by decide, by decide⟩ : R 1 1 (1 : Int32)) c1
    refine s_bd (sf_A_wordNumber_0 p3 p4 (r_w f_p3 (by decide)) (r_w f_p4 (by decide)) i_h0) (fun r1 f3 => ?_)
    exact s_some (r_w (r_full r1) (by decide))
  ·
    refine s_if (fun c4 => ?_) (fun c4 => ?_)
    ·
      have f5 : R 2 2 p2 := r_eq (⟨by decide, by decide⟩ : R 2 2 (2 : Int32)) c4
      refine s_bd (sf_A_numberAt p3 p4 (r_w f_p3 (by decide)) (r_w f_p4 (by decide)) i_h0) (fun r2 f6 => ?_)
      exact s_some (r_w (r_full r2) (by decide))
    ·
      refine s_bd (sf_A_byteAt p3 i_h0) (fun r3 f7 => ?_)
      exact s_some (r_w f7 (by decide))
theorem sl_A_scan_L9_0 (k0 : PH → Option (PH)) (hk_k0 : ∀ (y0 : PH), Inv y0 → Sf (k0 y0) (fun h => Inv h)) : ∀ (n : Nat) (v2 : Int32) (v3 : Int32) (hv : PH), 400 - v3.toInt < (n : Int) → R 0 401 v2 → R 0 400 v3 → Inv hv → Sf (mA_scan_L9 0 k0 n v2 v3 hv) (fun h => Inv h) := by
  intro n
  induction n with
  | zero =>
    intro v2 v3 hv hfu f_v2 f_v3 i_hv
    have := f_v3.2
    omega
  | succ n ih =>
    intro v2 v3 hv hfu f_v2 f_v3 i_hv
    rw [mA_scan_L9]
    refine s_if (fun c1 => ?_) (fun c1 => ?_)
    ·
      have f2 : R 400 400 v3 := le_lo (⟨by decide, by decide⟩ : R 400 400 (400 : Int32)) f_v3 c1
      exact hk_k0 _ (i_hv)
    ·
      have f3 : R 0 399 v3 := lt_hi f_v3 (⟨by decide, by decide⟩ : R 400 400 (400 : Int32)) (nle_lt c1) (by decide)
      refine s_if (fun c4 => ?_) (fun c4 => ?_)
      ·
        exact hk_k0 _ (i_hv)
      ·
        have f5 : R 0 399 v2 := lt_hi f_v2 (inv_rng i_hv rfl : R 0 400 (hv 85 4)) (nle_lt c4) (by decide)
        have f6 : R 1 400 (hv 85 4) := lt_lo f_v2 (inv_rng i_hv rfl : R 0 400 (hv 85 4)) (nle_lt c4) (by decide)
        refine s_bd (sf_A_behindToken v2 (r_w f5 (by decide)) i_hv) (fun r2 f7 => ?_)
        refine s_bd (sf_A_byteAt v2 i_hv) (fun r3 f8 => ?_)
        refine s_bd (sf_A_isBlank r3 i_hv) (fun r4 f9 => ?_)
        refine s_if (fun c10 => ?_) (fun c10 => ?_)
        ·
          have f11 : R 0 0 r4 := r_eq (⟨by decide, by decide⟩ : R 0 0 (0 : Int32)) c10
          refine s_bd (sf_A_kindOf_0 v2 r2 (r_w f5 (by decide)) (r_w f7 (by decide)) i_hv) (fun r5 f12 => ?_)
          refine s_bd (sf_A_valueOf_0 r5 v2 r2 (r_w f5 (by decide)) (r_w f7 (by decide)) i_hv) (fun r6 f13 => ?_)
          refine s_bd (sf_A_keepToken r5 r6 v2 i_hv) (fun h7 f14 => ?_)
          exact ih r2 (v3 + 1) h7 (fu_su hfu (i_inc f3 (k := 1) rfl (by decide)) (by decide)) (r_w f7 (by decide)) (r_w (r_add f3 (⟨by decide, by decide⟩ : R 1 1 (1 : Int32)) (by decide) : R 1 400 (v3 + 1)) (by decide)) f14
        ·
          have f15 : R 1 1 r4 := r_ne_lo f9 (⟨by decide, by decide⟩ : R 0 0 (0 : Int32)) c10 (by decide)
          exact ih r2 (v3 + 1) hv (fu_su hfu (i_inc f3 (k := 1) rfl (by decide)) (by decide)) (r_w f7 (by decide)) (r_w (r_add f3 (⟨by decide, by decide⟩ : R 1 1 (1 : Int32)) (by decide) : R 1 400 (v3 + 1)) (by decide)) i_hv
theorem sf_A_scan_0 {h0 : PH} (i_h0 : Inv h0) : Sf (mA_scan 0 h0) (fun h => Inv h) := by
  unfold mA_scan
  refine s_lt (fun h1 e1 => ?_)
  have i2 : Inv h1 := by rw [e1]; exact inv_put i_h0 rfl (r_w (⟨by decide, by decide⟩ : R 0 0 (0 : Int32)) (by decide))
  refine sl_A_scan_L9_0 _ ?_ FU 0 0 h1 (fu_up (⟨by decide, by decide⟩ : R 0 0 (0 : Int32)) (by decide)) (r_w (⟨by decide, by decide⟩ : R 0 0 (0 : Int32)) (by decide)) (r_w (⟨by decide, by decide⟩ : R 0 0 (0 : Int32)) (by decide)) i2
  ·
    intro h8 f3
    refine s_bd (sf_A_keepToken 0 0 (h8 85 4) f3) (fun h9 f4 => ?_)
    exact s_some f4
theorem sl_A_wordNumber_L9_1 (p2 : Int32) (p3 : Int32) (h0 : PH) (f_p2 : R 0 400 p2) (f_p3 : R 0 401 p3) (i_h0 : Inv h0) : ∀ (n : Nat) (v4 : Int32) (v5 : Int32) (v6 : Int32), 19 - v6.toInt < (n : Int) → R (-2147483648) 2147483647 v4 → R 0 19 v5 → R 0 19 v6 → Sf (mA_wordNumber_L9 1 p2 p3 h0 n v4 v5 v6) (fun r => R (-2147483648) 2147483647 r) := by
  intro n
  induction n with
  | zero =>
    intro v4 v5 v6 hfu f_v4 f_v5 f_v6
    have := f_v6.2
    omega
  | succ n ih =>
    intro v4 v5 v6 hfu f_v4 f_v5 f_v6
    rw [mA_wordNumber_L9]
    refine s_bd (sf_G_length_1 i_h0) (fun r1 f1 => ?_)
    refine s_if (fun c2 => ?_) (fun c2 => ?_)
    ·
      have f3 : R 19 19 v6 := lt_lo f1 f_v6 c2 (by decide)
      exact s_some (r_w (⟨by decide, by decide⟩ : R (-1) (-1) (-1 : Int32)) (by decide))
    ·
      have f4 : R 0 18 v6 := le_hi f_v6 f1 (nlt_le c2)
      refine s_bd (sf_G_length_1 i_h0) (fun r2 f5 => ?_)
      refine s_jn0 ?_ (fun j3 kj3 => ?_)
      ·
        refine s_if (fun c12 => ?_) (fun c12 => ?_)
        ·
          have f13 : R (-19) 18 (p3 - p2) := r_eq (r_sub f4 f_v5 (by decide) : R (-19) 18 (v6 - v5)) c12.symm
          refine s_bd (sf_A_isSame_1 v5 p2 p3 (r_w f_v5 (by decide)) (r_w f_p2 (by decide)) (r_w f_p3 (by decide)) i_h0) (fun r4 f14 => ?_)
          refine s_if (fun c15 => ?_) (fun c15 => ?_)
          ·
            have f16 : R 0 0 r4 := r_eq (⟨by decide, by decide⟩ : R 0 0 (0 : Int32)) c15
            refine s_lt (fun x5 e17 => ?_)
            have f18 : R 1 19 x5 := by rw [e17]; exact (r_add f4 (⟨by decide, by decide⟩ : R 1 1 (1 : Int32)) (by decide) : R 1 19 (v6 + 1))
            exact ih (v4 + 1) x5 (v6 + 1) (fu_su hfu (i_inc f4 (k := 1) rfl (by decide)) (by decide)) (r_w (r_full (v4 + 1)) (by decide)) (r_w f18 (by decide)) (r_w (r_add f4 (⟨by decide, by decide⟩ : R 1 1 (1 : Int32)) (by decide) : R 1 19 (v6 + 1)) (by decide))
          ·
            have f19 : R 1 1 r4 := r_ne_lo f14 (⟨by decide, by decide⟩ : R 0 0 (0 : Int32)) c15 (by decide)
            exact s_some (r_w f_v4 (by decide))
        ·
          refine s_lt (fun x6 e20 => ?_)
          have f21 : R 1 19 x6 := by rw [e20]; exact (r_add f4 (⟨by decide, by decide⟩ : R 1 1 (1 : Int32)) (by decide) : R 1 19 (v6 + 1))
          exact ih (v4 + 1) x6 (v6 + 1) (fu_su hfu (i_inc f4 (k := 1) rfl (by decide)) (by decide)) (r_w (r_full (v4 + 1)) (by decide)) (r_w f21 (by decide)) (r_w (r_add f4 (⟨by decide, by decide⟩ : R 1 1 (1 : Int32)) (by decide) : R 1 19 (v6 + 1)) (by decide))
      ·
        refine s_if (fun c22 => ?_) (fun c22 => ?_)
        ·
          have f23 : R 18 18 v6 := r_eq f5 c22
          exact kj3
        ·
          have f24 : R 0 17 v6 := r_ne_hi f4 f5 c22 (by decide)
          refine s_bd (sf_G_charAt_1 v6 (r_w f24 (by decide)) i_h0) (fun r7 f25 => ?_)
          refine s_if (fun c26 => ?_) (fun c26 => ?_)
          ·
            have f27 : R 32 32 r7 := r_eq (⟨by decide, by decide⟩ : R 32 32 (32 : Int32)) c26
            exact kj3
          ·
            exact ih v4 v5 (v6 + 1) (fu_su hfu (i_inc f24 (k := 1) rfl (by decide)) (by decide)) (r_w f_v4 (by decide)) (r_w f_v5 (by decide)) (r_w (r_add f24 (⟨by decide, by decide⟩ : R 1 1 (1 : Int32)) (by decide) : R 1 18 (v6 + 1)) (by decide))
theorem sf_A_wordNumber_1 (p2 : Int32) (p3 : Int32) (f_p2 : R 0 400 p2) (f_p3 : R 0 401 p3) {h0 : PH} (i_h0 : Inv h0) : Sf (mA_wordNumber 1 p2 p3 h0) (fun r => R (-2147483648) 2147483647 r) := by
  unfold mA_wordNumber
  refine sl_A_wordNumber_L9_1 p2 p3 h0 (r_w f_p2 (by decide)) (r_w f_p3 (by decide)) i_h0 FU 0 0 0 (fu_up (⟨by decide, by decide⟩ : R 0 0 (0 : Int32)) (by decide)) (r_w (⟨by decide, by decide⟩ : R 0 0 (0 : Int32)) (by decide)) (r_w (⟨by decide, by decide⟩ : R 0 0 (0 : Int32)) (by decide)) (r_w (⟨by decide, by decide⟩ : R 0 0 (0 : Int32)) (by decide))
theorem sf_A_kindOf_1 (p2 : Int32) (p3 : Int32) (f_p2 : R 0 400 p2) (f_p3 : R 0 401 p3) {h0 : PH} (i_h0 : Inv h0) : Sf (mA_kindOf 1 p2 p3 h0) (fun r => R 1 4 r) := by
  unfold mA_kindOf
  refine s_bd (sf_A_byteAt p2 i_h0) (fun r1 f1 => ?_)
  refine s_bd (sf_A_isLetter r1 i_h0) (fun r2 f2 => ?_)
  refine s_if (fun c3 => ?_) (fun c3 => ?_)
  ·
    have f4 : R 0 0 r2 := r_eq (⟨by decide, by decide⟩ : R 0 0 (0 : Int32)) c3
    refine s_bd (sf_A_isDigit r1 i_h0) (fun r3 f5 => ?_)
    refine s_if (fun c6 => ?_) (fun c6 => ?_)
    ·
      have f7 : R 0 0 r3 := r_eq (⟨by decide, by decide⟩ : R 0 0 (0 : Int32)) c6
      refine s_bd (sf_G_indexOf_4 (i2c r1) i_h0) (fun r4 f8 => ?_)
      refine s_if (fun c9 => ?_) (fun c9 => ?_)
      ·
        have f10 : R (-1) (-1) r4 := lt_hi f8 (⟨by decide, by decide⟩ : R 0 0 (0 : Int32)) c9 (by decide)
        exact s_some (r_w (⟨by decide, by decide⟩ : R 4 4 (4 : Int32)) (by decide))
      ·
        have f11 : R 0 9 r4 := le_lo (⟨by decide, by decide⟩ : R 0 0 (0 : Int32)) f8 (nlt_le c9)
        exact s_some (r_w (⟨by decide, by decide⟩ : R 3 3 (3 : Int32)) (by decide))
    ·
      have f12 : R 1 1 r3 := r_ne_lo f5 (⟨by decide, by decide⟩ : R 0 0 (0 : Int32)) c6 (by decide)
      refine s_if (fun c13 => ?_) (fun c13 => ?_)
      ·
        have f14 : R 5 401 (p3 - p2) := lt_lo (⟨by decide, by decide⟩ : R 4 4 (4 : Int32)) (r_sub f_p3 f_p2 (by decide) : R (-400) 401 (p3 - p2)) c13 (by decide)
        exact s_some (r_w (⟨by decide, by decide⟩ : R 4 4 (4 : Int32)) (by decide))
      ·
        have f15 : R (-400) 4 (p3 - p2) := le_hi (r_sub f_p3 f_p2 (by decide) : R (-400) 401 (p3 - p2)) (⟨by decide, by decide⟩ : R 4 4 (4 : Int32)) (nlt_le c13)
        exact s_some (r_w (⟨by decide, by decide⟩ : R 2 2 (2 : Int32)) (by decide))
  ·
    have f16 : R 1 1 r2 := r_ne_lo f2 (⟨by decide, by decide⟩ : R 0 0 (0 : Int32)) c3 (by decide)
    refine s_bd (sf_A_wordNumber_1 p2 p3 (r_w f_p2 (by decide)) (r_w f_p3 (by decide)) i_h0) (fun r5 f17 => ?_)
    refine s_if (fun c18 => ?_) (fun c18 => ?_)
    ·
      have f19 : R (-1) (-1) r5 := r_eq (⟨by decide, by decide⟩ : R (-1) (-1) (-1 : Int32)) c18
      exact s_some (r_w (⟨by decide, by decide⟩ : R 4 4 (4 : Int32)) (by decide))
    ·
      exact s_some (r_w (⟨by decide, by decide⟩ : R 1 1 (1 : Int32)) (by decide))
theorem sf_A_valueOf_1 (p2 : Int32) (p3 : Int32) (p4 : Int32) (f_p3 : R 0 400 p3) (f_p4 : R 0 401 p4) {h0 : PH} (i_h0 : Inv h0) : Sf (mA_valueOf 1 p2 p3 p4 h0) (fun r => R (-2147483648) 2147483647 r) := by
  unfold mA_valueOf
  refine s_if (fun c1 => ?_) (fun c1 => ?_)
  ·
    have f2 : R 1 1 p2 := r_eq (⟨by decide, by decide⟩ : R 1 1 (1 : Int32)) c1
    refine s_bd (sf_A_wordNumber_1 p3 p4 (r_w f_p3 (by decide)) (r_w f_p4 (by decide)) i_h0) (fun r1 f3 => ?_)
    exact s_some (r_w (r_full r1) (by decide))
  ·
    refine s_if (fun c4 => ?_) (fun c4 => ?_)
    ·
      have f5 : R 2 2 p2 := r_eq (⟨by decide, by decide⟩ : R 2 2 (2 : Int32)) c4
      refine s_bd (sf_A_numberAt p3 p4 (r_w f_p3 (by decide)) (r_w f_p4 (by decide)) i_h0) (fun r2 f6 => ?_)
      exact s_some (r_w (r_full r2) (by decide))
    ·
      refine s_bd (sf_A_byteAt p3 i_h0) (fun r3 f7 => ?_)
      exact s_some (r_w f7 (by decide))
theorem sl_A_scan_L9_1 (k0 : PH → Option (PH)) (hk_k0 : ∀ (y0 : PH), Inv y0 → Sf (k0 y0) (fun h => Inv h)) : ∀ (n : Nat) (v2 : Int32) (v3 : Int32) (hv : PH), 400 - v3.toInt < (n : Int) → R 0 401 v2 → R 0 400 v3 → Inv hv → Sf (mA_scan_L9 1 k0 n v2 v3 hv) (fun h => Inv h) := by
  intro n
  induction n with
  | zero =>
    intro v2 v3 hv hfu f_v2 f_v3 i_hv
    have := f_v3.2
    omega
  | succ n ih =>
    intro v2 v3 hv hfu f_v2 f_v3 i_hv
    rw [mA_scan_L9]
    refine s_if (fun c1 => ?_) (fun c1 => ?_)
    ·
      have f2 : R 400 400 v3 := le_lo (⟨by decide, by decide⟩ : R 400 400 (400 : Int32)) f_v3 c1
      exact hk_k0 _ (i_hv)
    ·
      have f3 : R 0 399 v3 := lt_hi f_v3 (⟨by decide, by decide⟩ : R 400 400 (400 : Int32)) (nle_lt c1) (by decide)
      refine s_if (fun c4 => ?_) (fun c4 => ?_)
      ·
        exact hk_k0 _ (i_hv)
      ·
        have f5 : R 0 399 v2 := lt_hi f_v2 (inv_rng i_hv rfl : R 0 400 (hv 85 4)) (nle_lt c4) (by decide)
        have f6 : R 1 400 (hv 85 4) := lt_lo f_v2 (inv_rng i_hv rfl : R 0 400 (hv 85 4)) (nle_lt c4) (by decide)
        refine s_bd (sf_A_behindToken v2 (r_w f5 (by decide)) i_hv) (fun r2 f7 => ?_)
        refine s_bd (sf_A_byteAt v2 i_hv) (fun r3 f8 => ?_)
        refine s_bd (sf_A_isBlank r3 i_hv) (fun r4 f9 => ?_)
        refine s_if (fun c10 => ?_) (fun c10 => ?_)
        ·
          have f11 : R 0 0 r4 := r_eq (⟨by decide, by decide⟩ : R 0 0 (0 : Int32)) c10
          refine s_bd (sf_A_kindOf_1 v2 r2 (r_w f5 (by decide)) (r_w f7 (by decide)) i_hv) (fun r5 f12 => ?_)
          refine s_bd (sf_A_valueOf_1 r5 v2 r2 (r_w f5 (by decide)) (r_w f7 (by decide)) i_hv) (fun r6 f13 => ?_)
          refine s_bd (sf_A_keepToken r5 r6 v2 i_hv) (fun h7 f14 => ?_)
          exact ih r2 (v3 + 1) h7 (fu_su hfu (i_inc f3 (k := 1) rfl (by decide)) (by decide)) (r_w f7 (by decide)) (r_w (r_add f3 (⟨by decide, by decide⟩ : R 1 1 (1 : Int32)) (by decide) : R 1 400 (v3 + 1)) (by decide)) f14
        ·
          have f15 : R 1 1 r4 := r_ne_lo f9 (⟨by decide, by decide⟩ : R 0 0 (0 : Int32)) c10 (by decide)
          exact ih r2 (v3 + 1) hv (fu_su hfu (i_inc f3 (k := 1) rfl (by decide)) (by decide)) (r_w f7 (by decide)) (r_w (r_add f3 (⟨by decide, by decide⟩ : R 1 1 (1 : Int32)) (by decide) : R 1 400 (v3 + 1)) (by decide)) i_hv
theorem sf_A_scan_1 {h0 : PH} (i_h0 : Inv h0) : Sf (mA_scan 1 h0) (fun h => Inv h) := by
  unfold mA_scan
  refine s_lt (fun h1 e1 => ?_)
  have i2 : Inv h1 := by rw [e1]; exact inv_put i_h0 rfl (r_w (⟨by decide, by decide⟩ : R 0 0 (0 : Int32)) (by decide))
  refine sl_A_scan_L9_1 _ ?_ FU 0 0 h1 (fu_up (⟨by decide, by decide⟩ : R 0 0 (0 : Int32)) (by decide)) (r_w (⟨by decide, by decide⟩ : R 0 0 (0 : Int32)) (by decide)) (r_w (⟨by decide, by decide⟩ : R 0 0 (0 : Int32)) (by decide)) i2
  ·
    intro h8 f3
    refine s_bd (sf_A_keepToken 0 0 (h8 85 4) f3) (fun h9 f4 => ?_)
    exact s_some f4
theorem sl_A_wordNumber_L9_2 (p2 : Int32) (p3 : Int32) (h0 : PH) (f_p2 : R 0 400 p2) (f_p3 : R 0 401 p3) (i_h0 : Inv h0) : ∀ (n : Nat) (v4 : Int32) (v5 : Int32) (v6 : Int32), 21 - v6.toInt < (n : Int) → R (-2147483648) 2147483647 v4 → R 0 21 v5 → R 0 21 v6 → Sf (mA_wordNumber_L9 2 p2 p3 h0 n v4 v5 v6) (fun r => R (-2147483648) 2147483647 r) := by
  intro n
  induction n with
  | zero =>
    intro v4 v5 v6 hfu f_v4 f_v5 f_v6
    have := f_v6.2
    omega
  | succ n ih =>
    intro v4 v5 v6 hfu f_v4 f_v5 f_v6
    rw [mA_wordNumber_L9]
    refine s_bd (sf_G_length_2 i_h0) (fun r1 f1 => ?_)
    refine s_if (fun c2 => ?_) (fun c2 => ?_)
    ·
      have f3 : R 21 21 v6 := lt_lo f1 f_v6 c2 (by decide)
      exact s_some (r_w (⟨by decide, by decide⟩ : R (-1) (-1) (-1 : Int32)) (by decide))
    ·
      have f4 : R 0 20 v6 := le_hi f_v6 f1 (nlt_le c2)
      refine s_bd (sf_G_length_2 i_h0) (fun r2 f5 => ?_)
      refine s_jn0 ?_ (fun j3 kj3 => ?_)
      ·
        refine s_if (fun c12 => ?_) (fun c12 => ?_)
        ·
          have f13 : R (-21) 20 (p3 - p2) := r_eq (r_sub f4 f_v5 (by decide) : R (-21) 20 (v6 - v5)) c12.symm
          refine s_bd (sf_A_isSame_2 v5 p2 p3 (r_w f_v5 (by decide)) (r_w f_p2 (by decide)) (r_w f_p3 (by decide)) i_h0) (fun r4 f14 => ?_)
          refine s_if (fun c15 => ?_) (fun c15 => ?_)
          ·
            have f16 : R 0 0 r4 := r_eq (⟨by decide, by decide⟩ : R 0 0 (0 : Int32)) c15
            refine s_lt (fun x5 e17 => ?_)
            have f18 : R 1 21 x5 := by rw [e17]; exact (r_add f4 (⟨by decide, by decide⟩ : R 1 1 (1 : Int32)) (by decide) : R 1 21 (v6 + 1))
            exact ih (v4 + 1) x5 (v6 + 1) (fu_su hfu (i_inc f4 (k := 1) rfl (by decide)) (by decide)) (r_w (r_full (v4 + 1)) (by decide)) (r_w f18 (by decide)) (r_w (r_add f4 (⟨by decide, by decide⟩ : R 1 1 (1 : Int32)) (by decide) : R 1 21 (v6 + 1)) (by decide))
          ·
            have f19 : R 1 1 r4 := r_ne_lo f14 (⟨by decide, by decide⟩ : R 0 0 (0 : Int32)) c15 (by decide)
            exact s_some (r_w f_v4 (by decide))
        ·
          refine s_lt (fun x6 e20 => ?_)
          have f21 : R 1 21 x6 := by rw [e20]; exact (r_add f4 (⟨by decide, by decide⟩ : R 1 1 (1 : Int32)) (by decide) : R 1 21 (v6 + 1))
          exact ih (v4 + 1) x6 (v6 + 1) (fu_su hfu (i_inc f4 (k := 1) rfl (by decide)) (by decide)) (r_w (r_full (v4 + 1)) (by decide)) (r_w f21 (by decide)) (r_w (r_add f4 (⟨by decide, by decide⟩ : R 1 1 (1 : Int32)) (by decide) : R 1 21 (v6 + 1)) (by decide))
      ·
        refine s_if (fun c22 => ?_) (fun c22 => ?_)
        ·
          have f23 : R 20 20 v6 := r_eq f5 c22
          exact kj3
        ·
          have f24 : R 0 19 v6 := r_ne_hi f4 f5 c22 (by decide)
          refine s_bd (sf_G_charAt_2 v6 (r_w f24 (by decide)) i_h0) (fun r7 f25 => ?_)
          refine s_if (fun c26 => ?_) (fun c26 => ?_)
          ·
            have f27 : R 32 32 r7 := r_eq (⟨by decide, by decide⟩ : R 32 32 (32 : Int32)) c26
            exact kj3
          ·
            exact ih v4 v5 (v6 + 1) (fu_su hfu (i_inc f24 (k := 1) rfl (by decide)) (by decide)) (r_w f_v4 (by decide)) (r_w f_v5 (by decide)) (r_w (r_add f24 (⟨by decide, by decide⟩ : R 1 1 (1 : Int32)) (by decide) : R 1 20 (v6 + 1)) (by decide))
theorem sf_A_wordNumber_2 (p2 : Int32) (p3 : Int32) (f_p2 : R 0 400 p2) (f_p3 : R 0 401 p3) {h0 : PH} (i_h0 : Inv h0) : Sf (mA_wordNumber 2 p2 p3 h0) (fun r => R (-2147483648) 2147483647 r) := by
  unfold mA_wordNumber
  refine sl_A_wordNumber_L9_2 p2 p3 h0 (r_w f_p2 (by decide)) (r_w f_p3 (by decide)) i_h0 FU 0 0 0 (fu_up (⟨by decide, by decide⟩ : R 0 0 (0 : Int32)) (by decide)) (r_w (⟨by decide, by decide⟩ : R 0 0 (0 : Int32)) (by decide)) (r_w (⟨by decide, by decide⟩ : R 0 0 (0 : Int32)) (by decide)) (r_w (⟨by decide, by decide⟩ : R 0 0 (0 : Int32)) (by decide))
theorem sf_A_kindOf_2 (p2 : Int32) (p3 : Int32) (f_p2 : R 0 400 p2) (f_p3 : R 0 401 p3) {h0 : PH} (i_h0 : Inv h0) : Sf (mA_kindOf 2 p2 p3 h0) (fun r => R 1 4 r) := by
  unfold mA_kindOf
  refine s_bd (sf_A_byteAt p2 i_h0) (fun r1 f1 => ?_)
  refine s_bd (sf_A_isLetter r1 i_h0) (fun r2 f2 => ?_)
  refine s_if (fun c3 => ?_) (fun c3 => ?_)
  ·
    have f4 : R 0 0 r2 := r_eq (⟨by decide, by decide⟩ : R 0 0 (0 : Int32)) c3
    refine s_bd (sf_A_isDigit r1 i_h0) (fun r3 f5 => ?_)
    refine s_if (fun c6 => ?_) (fun c6 => ?_)
    ·
      have f7 : R 0 0 r3 := r_eq (⟨by decide, by decide⟩ : R 0 0 (0 : Int32)) c6
      refine s_bd (sf_G_indexOf_4 (i2c r1) i_h0) (fun r4 f8 => ?_)
      refine s_if (fun c9 => ?_) (fun c9 => ?_)
      ·
        have f10 : R (-1) (-1) r4 := lt_hi f8 (⟨by decide, by decide⟩ : R 0 0 (0 : Int32)) c9 (by decide)
        exact s_some (r_w (⟨by decide, by decide⟩ : R 4 4 (4 : Int32)) (by decide))
      ·
        have f11 : R 0 9 r4 := le_lo (⟨by decide, by decide⟩ : R 0 0 (0 : Int32)) f8 (nlt_le c9)
        exact s_some (r_w (⟨by decide, by decide⟩ : R 3 3 (3 : Int32)) (by decide))
    ·
      have f12 : R 1 1 r3 := r_ne_lo f5 (⟨by decide, by decide⟩ : R 0 0 (0 : Int32)) c6 (by decide)
      refine s_if (fun c13 => ?_) (fun c13 => ?_)
      ·
        have f14 : R 5 401 (p3 - p2) := lt_lo (⟨by decide, by decide⟩ : R 4 4 (4 : Int32)) (r_sub f_p3 f_p2 (by decide) : R (-400) 401 (p3 - p2)) c13 (by decide)
        exact s_some (r_w (⟨by decide, by decide⟩ : R 4 4 (4 : Int32)) (by decide))
      ·
        have f15 : R (-400) 4 (p3 - p2) := le_hi (r_sub f_p3 f_p2 (by decide) : R (-400) 401 (p3 - p2)) (⟨by decide, by decide⟩ : R 4 4 (4 : Int32)) (nlt_le c13)
        exact s_some (r_w (⟨by decide, by decide⟩ : R 2 2 (2 : Int32)) (by decide))
  ·
    have f16 : R 1 1 r2 := r_ne_lo f2 (⟨by decide, by decide⟩ : R 0 0 (0 : Int32)) c3 (by decide)
    refine s_bd (sf_A_wordNumber_2 p2 p3 (r_w f_p2 (by decide)) (r_w f_p3 (by decide)) i_h0) (fun r5 f17 => ?_)
    refine s_if (fun c18 => ?_) (fun c18 => ?_)
    ·
      have f19 : R (-1) (-1) r5 := r_eq (⟨by decide, by decide⟩ : R (-1) (-1) (-1 : Int32)) c18
      exact s_some (r_w (⟨by decide, by decide⟩ : R 4 4 (4 : Int32)) (by decide))
    ·
      exact s_some (r_w (⟨by decide, by decide⟩ : R 1 1 (1 : Int32)) (by decide))
theorem sf_A_valueOf_2 (p2 : Int32) (p3 : Int32) (p4 : Int32) (f_p3 : R 0 400 p3) (f_p4 : R 0 401 p4) {h0 : PH} (i_h0 : Inv h0) : Sf (mA_valueOf 2 p2 p3 p4 h0) (fun r => R (-2147483648) 2147483647 r) := by
  unfold mA_valueOf
  refine s_if (fun c1 => ?_) (fun c1 => ?_)
  ·
    have f2 : R 1 1 p2 := r_eq (⟨by decide, by decide⟩ : R 1 1 (1 : Int32)) c1
    refine s_bd (sf_A_wordNumber_2 p3 p4 (r_w f_p3 (by decide)) (r_w f_p4 (by decide)) i_h0) (fun r1 f3 => ?_)
    exact s_some (r_w (r_full r1) (by decide))
  ·
    refine s_if (fun c4 => ?_) (fun c4 => ?_)
    ·
      have f5 : R 2 2 p2 := r_eq (⟨by decide, by decide⟩ : R 2 2 (2 : Int32)) c4
      refine s_bd (sf_A_numberAt p3 p4 (r_w f_p3 (by decide)) (r_w f_p4 (by decide)) i_h0) (fun r2 f6 => ?_)
      exact s_some (r_w (r_full r2) (by decide))
    ·
      refine s_bd (sf_A_byteAt p3 i_h0) (fun r3 f7 => ?_)
      exact s_some (r_w f7 (by decide))
theorem sl_A_scan_L9_2 (k0 : PH → Option (PH)) (hk_k0 : ∀ (y0 : PH), Inv y0 → Sf (k0 y0) (fun h => Inv h)) : ∀ (n : Nat) (v2 : Int32) (v3 : Int32) (hv : PH), 400 - v3.toInt < (n : Int) → R 0 401 v2 → R 0 400 v3 → Inv hv → Sf (mA_scan_L9 2 k0 n v2 v3 hv) (fun h => Inv h) := by
  intro n
  induction n with
  | zero =>
    intro v2 v3 hv hfu f_v2 f_v3 i_hv
    have := f_v3.2
    omega
  | succ n ih =>
    intro v2 v3 hv hfu f_v2 f_v3 i_hv
    rw [mA_scan_L9]
    refine s_if (fun c1 => ?_) (fun c1 => ?_)
    ·
      have f2 : R 400 400 v3 := le_lo (⟨by decide, by decide⟩ : R 400 400 (400 : Int32)) f_v3 c1
      exact hk_k0 _ (i_hv)
    ·
      have f3 : R 0 399 v3 := lt_hi f_v3 (⟨by decide, by decide⟩ : R 400 400 (400 : Int32)) (nle_lt c1) (by decide)
      refine s_if (fun c4 => ?_) (fun c4 => ?_)
      ·
        exact hk_k0 _ (i_hv)
      ·
        have f5 : R 0 399 v2 := lt_hi f_v2 (inv_rng i_hv rfl : R 0 400 (hv 85 4)) (nle_lt c4) (by decide)
        have f6 : R 1 400 (hv 85 4) := lt_lo f_v2 (inv_rng i_hv rfl : R 0 400 (hv 85 4)) (nle_lt c4) (by decide)
        refine s_bd (sf_A_behindToken v2 (r_w f5 (by decide)) i_hv) (fun r2 f7 => ?_)
        refine s_bd (sf_A_byteAt v2 i_hv) (fun r3 f8 => ?_)
        refine s_bd (sf_A_isBlank r3 i_hv) (fun r4 f9 => ?_)
        refine s_if (fun c10 => ?_) (fun c10 => ?_)
        ·
          have f11 : R 0 0 r4 := r_eq (⟨by decide, by decide⟩ : R 0 0 (0 : Int32)) c10
          refine s_bd (sf_A_kindOf_2 v2 r2 (r_w f5 (by decide)) (r_w f7 (by decide)) i_hv) (fun r5 f12 => ?_)
          refine s_bd (sf_A_valueOf_2 r5 v2 r2 (r_w f5 (by decide)) (r_w f7 (by decide)) i_hv) (fun r6 f13 => ?_)
          refine s_bd (sf_A_keepToken r5 r6 v2 i_hv) (fun h7 f14 => ?_)
          exact ih r2 (v3 + 1) h7 (fu_su hfu (i_inc f3 (k := 1) rfl (by decide)) (by decide)) (r_w f7 (by decide)) (r_w (r_add f3 (⟨by decide, by decide⟩ : R 1 1 (1 : Int32)) (by decide) : R 1 400 (v3 + 1)) (by decide)) f14
        ·
          have f15 : R 1 1 r4 := r_ne_lo f9 (⟨by decide, by decide⟩ : R 0 0 (0 : Int32)) c10 (by decide)
          exact ih r2 (v3 + 1) hv (fu_su hfu (i_inc f3 (k := 1) rfl (by decide)) (by decide)) (r_w f7 (by decide)) (r_w (r_add f3 (⟨by decide, by decide⟩ : R 1 1 (1 : Int32)) (by decide) : R 1 400 (v3 + 1)) (by decide)) i_hv
theorem sf_A_scan_2 {h0 : PH} (i_h0 : Inv h0) : Sf (mA_scan 2 h0) (fun h => Inv h) := by
  unfold mA_scan
  refine s_lt (fun h1 e1 => ?_)
  have i2 : Inv h1 := by rw [e1]; exact inv_put i_h0 rfl (r_w (⟨by decide, by decide⟩ : R 0 0 (0 : Int32)) (by decide))
  refine sl_A_scan_L9_2 _ ?_ FU 0 0 h1 (fu_up (⟨by decide, by decide⟩ : R 0 0 (0 : Int32)) (by decide)) (r_w (⟨by decide, by decide⟩ : R 0 0 (0 : Int32)) (by decide)) (r_w (⟨by decide, by decide⟩ : R 0 0 (0 : Int32)) (by decide)) i2
  ·
    intro h8 f3
    refine s_bd (sf_A_keepToken 0 0 (h8 85 4) f3) (fun h9 f4 => ?_)
    exact s_some f4
theorem sl_A_wordNumber_L9_3 (p2 : Int32) (p3 : Int32) (h0 : PH) (f_p2 : R 0 400 p2) (f_p3 : R 0 401 p3) (i_h0 : Inv h0) : ∀ (n : Nat) (v4 : Int32) (v5 : Int32) (v6 : Int32), 11 - v6.toInt < (n : Int) → R (-2147483648) 2147483647 v4 → R 0 11 v5 → R 0 11 v6 → Sf (mA_wordNumber_L9 3 p2 p3 h0 n v4 v5 v6) (fun r => R (-2147483648) 2147483647 r) := by
  intro n
  induction n with
  | zero =>
    intro v4 v5 v6 hfu f_v4 f_v5 f_v6
    have := f_v6.2
    omega
  | succ n ih =>
    intro v4 v5 v6 hfu f_v4 f_v5 f_v6
    rw [mA_wordNumber_L9]
    refine s_bd (sf_G_length_3 i_h0) (fun r1 f1 => ?_)
    refine s_if (fun c2 => ?_) (fun c2 => ?_)
    ·
      have f3 : R 11 11 v6 := lt_lo f1 f_v6 c2 (by decide)
      exact s_some (r_w (⟨by decide, by decide⟩ : R (-1) (-1) (-1 : Int32)) (by decide))
    ·
      have f4 : R 0 10 v6 := le_hi f_v6 f1 (nlt_le c2)
      refine s_bd (sf_G_length_3 i_h0) (fun r2 f5 => ?_)
      refine s_jn0 ?_ (fun j3 kj3 => ?_)
      ·
        refine s_if (fun c12 => ?_) (fun c12 => ?_)
        ·
          have f13 : R (-11) 10 (p3 - p2) := r_eq (r_sub f4 f_v5 (by decide) : R (-11) 10 (v6 - v5)) c12.symm
          refine s_bd (sf_A_isSame_3 v5 p2 p3 (r_w f_v5 (by decide)) (r_w f_p2 (by decide)) (r_w f_p3 (by decide)) i_h0) (fun r4 f14 => ?_)
          refine s_if (fun c15 => ?_) (fun c15 => ?_)
          ·
            have f16 : R 0 0 r4 := r_eq (⟨by decide, by decide⟩ : R 0 0 (0 : Int32)) c15
            refine s_lt (fun x5 e17 => ?_)
            have f18 : R 1 11 x5 := by rw [e17]; exact (r_add f4 (⟨by decide, by decide⟩ : R 1 1 (1 : Int32)) (by decide) : R 1 11 (v6 + 1))
            exact ih (v4 + 1) x5 (v6 + 1) (fu_su hfu (i_inc f4 (k := 1) rfl (by decide)) (by decide)) (r_w (r_full (v4 + 1)) (by decide)) (r_w f18 (by decide)) (r_w (r_add f4 (⟨by decide, by decide⟩ : R 1 1 (1 : Int32)) (by decide) : R 1 11 (v6 + 1)) (by decide))
          ·
            have f19 : R 1 1 r4 := r_ne_lo f14 (⟨by decide, by decide⟩ : R 0 0 (0 : Int32)) c15 (by decide)
            exact s_some (r_w f_v4 (by decide))
        ·
          refine s_lt (fun x6 e20 => ?_)
          have f21 : R 1 11 x6 := by rw [e20]; exact (r_add f4 (⟨by decide, by decide⟩ : R 1 1 (1 : Int32)) (by decide) : R 1 11 (v6 + 1))
          exact ih (v4 + 1) x6 (v6 + 1) (fu_su hfu (i_inc f4 (k := 1) rfl (by decide)) (by decide)) (r_w (r_full (v4 + 1)) (by decide)) (r_w f21 (by decide)) (r_w (r_add f4 (⟨by decide, by decide⟩ : R 1 1 (1 : Int32)) (by decide) : R 1 11 (v6 + 1)) (by decide))
      ·
        refine s_if (fun c22 => ?_) (fun c22 => ?_)
        ·
          have f23 : R 10 10 v6 := r_eq f5 c22
          exact kj3
        ·
          have f24 : R 0 9 v6 := r_ne_hi f4 f5 c22 (by decide)
          refine s_bd (sf_G_charAt_3 v6 (r_w f24 (by decide)) i_h0) (fun r7 f25 => ?_)
          refine s_if (fun c26 => ?_) (fun c26 => ?_)
          ·
            have f27 : R 32 32 r7 := r_eq (⟨by decide, by decide⟩ : R 32 32 (32 : Int32)) c26
            exact kj3
          ·
            exact ih v4 v5 (v6 + 1) (fu_su hfu (i_inc f24 (k := 1) rfl (by decide)) (by decide)) (r_w f_v4 (by decide)) (r_w f_v5 (by decide)) (r_w (r_add f24 (⟨by decide, by decide⟩ : R 1 1 (1 : Int32)) (by decide) : R 1 10 (v6 + 1)) (by decide))
theorem sf_A_wordNumber_3 (p2 : Int32) (p3 : Int32) (f_p2 : R 0 400 p2) (f_p3 : R 0 401 p3) {h0 : PH} (i_h0 : Inv h0) : Sf (mA_wordNumber 3 p2 p3 h0) (fun r => R (-2147483648) 2147483647 r) := by
  unfold mA_wordNumber
  refine sl_A_wordNumber_L9_3 p2 p3 h0 (r_w f_p2 (by decide)) (r_w f_p3 (by decide)) i_h0 FU 0 0 0 (fu_up (⟨by decide, by decide⟩ : R 0 0 (0 : Int32)) (by decide)) (r_w (⟨by decide, by decide⟩ : R 0 0 (0 : Int32)) (by decide)) (r_w (⟨by decide, by decide⟩ : R 0 0 (0 : Int32)) (by decide)) (r_w (⟨by decide, by decide⟩ : R 0 0 (0 : Int32)) (by decide))
theorem sf_A_kindOf_3 (p2 : Int32) (p3 : Int32) (f_p2 : R 0 400 p2) (f_p3 : R 0 401 p3) {h0 : PH} (i_h0 : Inv h0) : Sf (mA_kindOf 3 p2 p3 h0) (fun r => R 1 4 r) := by
  unfold mA_kindOf
  refine s_bd (sf_A_byteAt p2 i_h0) (fun r1 f1 => ?_)
  refine s_bd (sf_A_isLetter r1 i_h0) (fun r2 f2 => ?_)
  refine s_if (fun c3 => ?_) (fun c3 => ?_)
  ·
    have f4 : R 0 0 r2 := r_eq (⟨by decide, by decide⟩ : R 0 0 (0 : Int32)) c3
    refine s_bd (sf_A_isDigit r1 i_h0) (fun r3 f5 => ?_)
    refine s_if (fun c6 => ?_) (fun c6 => ?_)
    ·
      have f7 : R 0 0 r3 := r_eq (⟨by decide, by decide⟩ : R 0 0 (0 : Int32)) c6
      refine s_bd (sf_G_indexOf_4 (i2c r1) i_h0) (fun r4 f8 => ?_)
      refine s_if (fun c9 => ?_) (fun c9 => ?_)
      ·
        have f10 : R (-1) (-1) r4 := lt_hi f8 (⟨by decide, by decide⟩ : R 0 0 (0 : Int32)) c9 (by decide)
        exact s_some (r_w (⟨by decide, by decide⟩ : R 4 4 (4 : Int32)) (by decide))
      ·
        have f11 : R 0 9 r4 := le_lo (⟨by decide, by decide⟩ : R 0 0 (0 : Int32)) f8 (nlt_le c9)
        exact s_some (r_w (⟨by decide, by decide⟩ : R 3 3 (3 : Int32)) (by decide))
    ·
      have f12 : R 1 1 r3 := r_ne_lo f5 (⟨by decide, by decide⟩ : R 0 0 (0 : Int32)) c6 (by decide)
      refine s_if (fun c13 => ?_) (fun c13 => ?_)
      ·
        have f14 : R 5 401 (p3 - p2) := lt_lo (⟨by decide, by decide⟩ : R 4 4 (4 : Int32)) (r_sub f_p3 f_p2 (by decide) : R (-400) 401 (p3 - p2)) c13 (by decide)
        exact s_some (r_w (⟨by decide, by decide⟩ : R 4 4 (4 : Int32)) (by decide))
      ·
        have f15 : R (-400) 4 (p3 - p2) := le_hi (r_sub f_p3 f_p2 (by decide) : R (-400) 401 (p3 - p2)) (⟨by decide, by decide⟩ : R 4 4 (4 : Int32)) (nlt_le c13)
        exact s_some (r_w (⟨by decide, by decide⟩ : R 2 2 (2 : Int32)) (by decide))
  ·
    have f16 : R 1 1 r2 := r_ne_lo f2 (⟨by decide, by decide⟩ : R 0 0 (0 : Int32)) c3 (by decide)
    refine s_bd (sf_A_wordNumber_3 p2 p3 (r_w f_p2 (by decide)) (r_w f_p3 (by decide)) i_h0) (fun r5 f17 => ?_)
    refine s_if (fun c18 => ?_) (fun c18 => ?_)
    ·
      have f19 : R (-1) (-1) r5 := r_eq (⟨by decide, by decide⟩ : R (-1) (-1) (-1 : Int32)) c18
      exact s_some (r_w (⟨by decide, by decide⟩ : R 4 4 (4 : Int32)) (by decide))
    ·
      exact s_some (r_w (⟨by decide, by decide⟩ : R 1 1 (1 : Int32)) (by decide))
theorem sf_A_valueOf_3 (p2 : Int32) (p3 : Int32) (p4 : Int32) (f_p3 : R 0 400 p3) (f_p4 : R 0 401 p4) {h0 : PH} (i_h0 : Inv h0) : Sf (mA_valueOf 3 p2 p3 p4 h0) (fun r => R (-2147483648) 2147483647 r) := by
  unfold mA_valueOf
  refine s_if (fun c1 => ?_) (fun c1 => ?_)
  ·
    have f2 : R 1 1 p2 := r_eq (⟨by decide, by decide⟩ : R 1 1 (1 : Int32)) c1
    refine s_bd (sf_A_wordNumber_3 p3 p4 (r_w f_p3 (by decide)) (r_w f_p4 (by decide)) i_h0) (fun r1 f3 => ?_)
    exact s_some (r_w (r_full r1) (by decide))
  ·
    refine s_if (fun c4 => ?_) (fun c4 => ?_)
    ·
      have f5 : R 2 2 p2 := r_eq (⟨by decide, by decide⟩ : R 2 2 (2 : Int32)) c4
      refine s_bd (sf_A_numberAt p3 p4 (r_w f_p3 (by decide)) (r_w f_p4 (by decide)) i_h0) (fun r2 f6 => ?_)
      exact s_some (r_w (r_full r2) (by decide))
    ·
      refine s_bd (sf_A_byteAt p3 i_h0) (fun r3 f7 => ?_)
      exact s_some (r_w f7 (by decide))
theorem sl_A_scan_L9_3 (k0 : PH → Option (PH)) (hk_k0 : ∀ (y0 : PH), Inv y0 → Sf (k0 y0) (fun h => Inv h)) : ∀ (n : Nat) (v2 : Int32) (v3 : Int32) (hv : PH), 400 - v3.toInt < (n : Int) → R 0 401 v2 → R 0 400 v3 → Inv hv → Sf (mA_scan_L9 3 k0 n v2 v3 hv) (fun h => Inv h) := by
  intro n
  induction n with
  | zero =>
    intro v2 v3 hv hfu f_v2 f_v3 i_hv
    have := f_v3.2
    omega
  | succ n ih =>
    intro v2 v3 hv hfu f_v2 f_v3 i_hv
    rw [mA_scan_L9]
    refine s_if (fun c1 => ?_) (fun c1 => ?_)
    ·
      have f2 : R 400 400 v3 := le_lo (⟨by decide, by decide⟩ : R 400 400 (400 : Int32)) f_v3 c1
      exact hk_k0 _ (i_hv)
    ·
      have f3 : R 0 399 v3 := lt_hi f_v3 (⟨by decide, by decide⟩ : R 400 400 (400 : Int32)) (nle_lt c1) (by decide)
      refine s_if (fun c4 => ?_) (fun c4 => ?_)
      ·
        exact hk_k0 _ (i_hv)
      ·
        have f5 : R 0 399 v2 := lt_hi f_v2 (inv_rng i_hv rfl : R 0 400 (hv 85 4)) (nle_lt c4) (by decide)
        have f6 : R 1 400 (hv 85 4) := lt_lo f_v2 (inv_rng i_hv rfl : R 0 400 (hv 85 4)) (nle_lt c4) (by decide)
        refine s_bd (sf_A_behindToken v2 (r_w f5 (by decide)) i_hv) (fun r2 f7 => ?_)
        refine s_bd (sf_A_byteAt v2 i_hv) (fun r3 f8 => ?_)
        refine s_bd (sf_A_isBlank r3 i_hv) (fun r4 f9 => ?_)
        refine s_if (fun c10 => ?_) (fun c10 => ?_)
        ·
          have f11 : R 0 0 r4 := r_eq (⟨by decide, by decide⟩ : R 0 0 (0 : Int32)) c10
          refine s_bd (sf_A_kindOf_3 v2 r2 (r_w f5 (by decide)) (r_w f7 (by decide)) i_hv) (fun r5 f12 => ?_)
          refine s_bd (sf_A_valueOf_3 r5 v2 r2 (r_w f5 (by decide)) (r_w f7 (by decide)) i_hv) (fun r6 f13 => ?_)
          refine s_bd (sf_A_keepToken r5 r6 v2 i_hv) (fun h7 f14 => ?_)
          exact ih r2 (v3 + 1) h7 (fu_su hfu (i_inc f3 (k := 1) rfl (by decide)) (by decide)) (r_w f7 (by decide)) (r_w (r_add f3 (⟨by decide, by decide⟩ : R 1 1 (1 : Int32)) (by decide) : R 1 400 (v3 + 1)) (by decide)) f14
        ·
          have f15 : R 1 1 r4 := r_ne_lo f9 (⟨by decide, by decide⟩ : R 0 0 (0 : Int32)) c10 (by decide)
          exact ih r2 (v3 + 1) hv (fu_su hfu (i_inc f3 (k := 1) rfl (by decide)) (by decide)) (r_w f7 (by decide)) (r_w (r_add f3 (⟨by decide, by decide⟩ : R 1 1 (1 : Int32)) (by decide) : R 1 400 (v3 + 1)) (by decide)) i_hv
theorem sf_A_scan_3 {h0 : PH} (i_h0 : Inv h0) : Sf (mA_scan 3 h0) (fun h => Inv h) := by
  unfold mA_scan
  refine s_lt (fun h1 e1 => ?_)
  have i2 : Inv h1 := by rw [e1]; exact inv_put i_h0 rfl (r_w (⟨by decide, by decide⟩ : R 0 0 (0 : Int32)) (by decide))
  refine sl_A_scan_L9_3 _ ?_ FU 0 0 h1 (fu_up (⟨by decide, by decide⟩ : R 0 0 (0 : Int32)) (by decide)) (r_w (⟨by decide, by decide⟩ : R 0 0 (0 : Int32)) (by decide)) (r_w (⟨by decide, by decide⟩ : R 0 0 (0 : Int32)) (by decide)) i2
  ·
    intro h8 f3
    refine s_bd (sf_A_keepToken 0 0 (h8 85 4) f3) (fun h9 f4 => ?_)
    exact s_some f4
theorem sl_K_secondShare_L19 (a0 : Nat) (p1 : Int32) (p2 : Int32) (h0 : PH) (hb_a0 : isR a0) (f_p1 : R 2 9 p1) (f_p2 : R (-2147483648) 2147483647 p2) (i_h0 : Inv h0) : ∀ (n : Nat) (v3 : Int32) (v4 : Int32), 400 - v4.toInt < (n : Int) → R (-2147483648) 2147483647 v3 → R 1 400 v4 → Sf (mK_secondShare_L19 a0 p1 p2 h0 n v3 v4) (fun r => R (-1) 399 r) := by
  intro n
  induction n with
  | zero =>
    intro v3 v4 hfu f_v3 f_v4
    have := f_v4.2
    omega
  | succ n ih =>
    intro v3 v4 hfu f_v3 f_v4
    rw [mK_secondShare_L19]
    refine s_if (fun c1 => ?_) (fun c1 => ?_)
    ·
      exact s_some (r_w (⟨by decide, by decide⟩ : R (-1) (-1) (-1 : Int32)) (by decide))
    ·
      have f2 : R 1 399 v4 := lt_hi f_v4 (rows_rng hb_a0 i_h0) (nle_lt c1) (by decide)
      have f3 : R 2 400 (h0 a0 3) := lt_lo f_v4 (rows_rng hb_a0 i_h0) (nle_lt c1) (by decide)
      refine s_bd (sf_R_at (a0) (v4 - 1) 0 hb_a0 i_h0) (fun r2 f4 => ?_)
      refine s_lt (fun x3 e5 => ?_)
      refine s_bd (sf_K_leastShare (a0) v4 (p1 - 1) (r_w f2 (by decide)) (r_w (r_sub f_p1 (⟨by decide, by decide⟩ : R 1 1 (1 : Int32)) (by decide) : R 1 8 (p1 - 1)) (by decide)) hb_a0 i_h0) (fun r4 f6 => ?_)
      refine s_if (fun c7 => ?_) (fun c7 => ?_)
      ·
        exact s_some (r_w f2 (by decide))
      ·
        exact ih x3 (v4 + 1) (fu_su hfu (i_inc f2 (k := 1) rfl (by decide)) (by decide)) (r_w (r_full x3) (by decide)) (r_w (r_add f2 (⟨by decide, by decide⟩ : R 1 1 (1 : Int32)) (by decide) : R 2 400 (v4 + 1)) (by decide))
theorem sf_K_secondShare (a0 : Nat) (p1 : Int32) (f_p1 : R 1 9 p1) (hb_a0 : isR a0) {h0 : PH} (i_h0 : Inv h0) : Sf (mK_secondShare a0 p1 h0) (fun r => R (-1) 399 r) := by
  unfold mK_secondShare
  refine s_if (fun c1 => ?_) (fun c1 => ?_)
  ·
    have f2 : R 2 9 p1 := lt_lo (⟨by decide, by decide⟩ : R 1 1 (1 : Int32)) f_p1 c1 (by decide)
    refine s_bd (sf_K_leastShare (a0) 0 p1 (r_w (⟨by decide, by decide⟩ : R 0 0 (0 : Int32)) (by decide)) (r_w f2 (by decide)) hb_a0 i_h0) (fun r1 f3 => ?_)
    refine sl_K_secondShare_L19 (a0) p1 r1 h0 hb_a0 (r_w f2 (by decide)) (r_w (r_full r1) (by decide)) i_h0 FU 0 1 (fu_up (⟨by decide, by decide⟩ : R 1 1 (1 : Int32)) (by decide)) (r_w (⟨by decide, by decide⟩ : R 0 0 (0 : Int32)) (by decide)) (r_w (⟨by decide, by decide⟩ : R 1 1 (1 : Int32)) (by decide))
  ·
    have f4 : R 1 1 p1 := le_hi f_p1 (⟨by decide, by decide⟩ : R 1 1 (1 : Int32)) (nlt_le c1)
    exact s_some (r_w (⟨by decide, by decide⟩ : R (-1) (-1) (-1 : Int32)) (by decide))
theorem sf_K_fewestPans_20 (p2 : Int32) {h0 : PH} (i_h0 : Inv h0) : Sf (mK_fewestPans 20 p2 h0) (fun r => R (-2147483648) 2147483647 r.1 ∧ Inv r.2) := by
  unfold mK_fewestPans
  refine s_bd2 (sf_K_fewestFrom p2 0 0 (r_w (⟨by decide, by decide⟩ : R 0 0 (0 : Int32)) (by decide)) i_h0) (fun r1 h2 f1 => ?_)
  exact s_some ⟨r_w f1.1 (by decide), f1.2⟩
theorem sl_K_firstThatKeeps_L3_28 (p1 : Int32) (p2 : Int32) (p3 : Int32) (p4 : Int32) (h0 : PH) (f_p1 : R 0 63 p1) (f_p2 : R (-2147483648) 2147483647 p2) (f_p3 : R (-2147483648) 2147483647 p3) (f_p4 : R (-2147483648) 2147483647 p4) (i_h0 : Inv h0) : ∀ (n : Nat) (v5 : Int32), 6 - v5.toInt < (n : Int) → R 0 6 v5 → Sf (mK_firstThatKeeps_L3 28 p1 p2 p3 p4 h0 n v5) (fun r => R (-1) 5 r) := by
  intro n
  induction n with
  | zero =>
    intro v5 hfu f_v5
    have := f_v5.2
    omega
  | succ n ih =>
    intro v5 hfu f_v5
    rw [mK_firstThatKeeps_L3]
    refine s_if (fun c1 => ?_) (fun c1 => ?_)
    ·
      exact s_some (r_w (⟨by decide, by decide⟩ : R (-1) (-1) (-1 : Int32)) (by decide))
    ·
      have f2 : R 0 5 v5 := lt_hi f_v5 (inv_rng i_h0 rfl : R 0 6 (h0 28 3)) (nle_lt c1) (by decide)
      have f3 : R 1 6 (h0 28 3) := lt_lo f_v5 (inv_rng i_h0 rfl : R 0 6 (h0 28 3)) (nle_lt c1) (by decide)
      refine s_if (fun c4 => ?_) (fun c4 => ?_)
      ·
        have f5 : R 0 0 ((p1 >>> (v5 &&& 31)) &&& 1) := r_eq (⟨by decide, by decide⟩ : R 0 0 (0 : Int32)) c4
        refine s_bd (sf_R_at (28) v5 0 isR_28 i_h0) (fun r1 f6 => ?_)
        refine s_lt (fun x2 e7 => ?_)
        refine s_bd (sf_R_at (28) v5 1 isR_28 i_h0) (fun r3 f8 => ?_)
        refine s_lt (fun x4 e9 => ?_)
        refine s_bd (sf_K_doneBy (p1 ||| (1 <<< (v5 &&& 31))) x2 x4 (r_w (r_or 6 (r_w f_p1 (by decide)) (r_w (r_shl f2 (by decide) : R 1 32 (1 <<< (v5 &&& 31))) (by decide)) (by decide) : R 0 63 (p1 ||| (1 <<< (v5 &&& 31)))) (by decide)) i_h0) (fun r5 f10 => ?_)
        refine s_if (fun c11 => ?_) (fun c11 => ?_)
        ·
          exact s_some (r_w f2 (by decide))
        ·
          exact ih (v5 + 1) (fu_su hfu (i_inc f2 (k := 1) rfl (by decide)) (by decide)) (r_w (r_add f2 (⟨by decide, by decide⟩ : R 1 1 (1 : Int32)) (by decide) : R 1 6 (v5 + 1)) (by decide))
      ·
        have f12 : R 1 1 ((p1 >>> (v5 &&& 31)) &&& 1) := r_ne_lo (r_and (⟨by decide, by decide⟩ : R 1 1 (1 : Int32)) (by decide) : R 0 1 ((p1 >>> (v5 &&& 31)) &&& 1)) (⟨by decide, by decide⟩ : R 0 0 (0 : Int32)) c4 (by decide)
        exact ih (v5 + 1) (fu_su hfu (i_inc f2 (k := 1) rfl (by decide)) (by decide)) (r_w (r_add f2 (⟨by decide, by decide⟩ : R 1 1 (1 : Int32)) (by decide) : R 1 6 (v5 + 1)) (by decide))
theorem sf_K_firstThatKeeps_28 (p1 : Int32) (p2 : Int32) (p3 : Int32) (p4 : Int32) (f_p1 : R 0 63 p1) {h0 : PH} (i_h0 : Inv h0) : Sf (mK_firstThatKeeps 28 p1 p2 p3 p4 h0) (fun r => R (-1) 5 r) := by
  unfold mK_firstThatKeeps
  refine sl_K_firstThatKeeps_L3_28 p1 p2 p3 p4 h0 (r_w f_p1 (by decide)) (r_w (r_full p2) (by decide)) (r_w (r_full p3) (by decide)) (r_w (r_full p4) (by decide)) i_h0 FU 0 (fu_up (⟨by decide, by decide⟩ : R 0 0 (0 : Int32)) (by decide)) (r_w (⟨by decide, by decide⟩ : R 0 0 (0 : Int32)) (by decide))
theorem sl_K_loafAt_L22_28 (p1 : Int32) (p2 : Int32) (h0 : PH) (f_p1 : R 0 5 p1) (f_p2 : R (-2147483648) 2147483647 p2) (i_h0 : Inv h0) : ∀ (n : Nat) (v3 : Int32) (v4 : Int32) (v5 : Int32) (v6 : Int32) (v7 : Int32), 6 - v7.toInt < (n : Int) → R 0 63 v3 → R (-2147483648) 2147483647 v4 → R (-2147483648) 2147483647 v5 → R (-1) 5 v6 → R 0 6 v7 → Sf (mK_loafAt_L22 28 p1 p2 h0 n v3 v4 v5 v6 v7) (fun r => R (-1) 5 r) := by
  intro n
  induction n with
  | zero =>
    intro v3 v4 v5 v6 v7 hfu f_v3 f_v4 f_v5 f_v6 f_v7
    have := f_v7.2
    omega
  | succ n ih =>
    intro v3 v4 v5 v6 v7 hfu f_v3 f_v4 f_v5 f_v6 f_v7
    rw [mK_loafAt_L22]
    refine s_if (fun c1 => ?_) (fun c1 => ?_)
    ·
      have f2 : R 1 6 v7 := lt_lo f_p1 f_v7 c1 (by decide)
      exact s_some (r_w f_v6 (by decide))
    ·
      have f3 : R 0 5 v7 := le_hi f_v7 f_p1 (nlt_le c1)
      refine s_bd (sf_K_firstThatKeeps_28 v3 v4 v5 p2 (r_w f_v3 (by decide)) i_h0) (fun r2 f4 => ?_)
      refine s_if (fun c5 => ?_) (fun c5 => ?_)
      ·
        have f6 : R (-1) (-1) r2 := r_eq (⟨by decide, by decide⟩ : R (-1) (-1) (-1 : Int32)) c5
        exact s_some (r_w (⟨by decide, by decide⟩ : R (-1) (-1) (-1 : Int32)) (by decide))
      ·
        have f7 : R 0 5 r2 := r_ne_lo f4 (⟨by decide, by decide⟩ : R (-1) (-1) (-1 : Int32)) c5 (by decide)
        refine s_lt (fun x3 e8 => ?_)
        have f9 : R 0 63 x3 := by rw [e8]; exact (r_or 6 (r_w f_v3 (by decide)) (r_w (r_shl f7 (by decide) : R 1 32 (1 <<< (r2 &&& 31))) (by decide)) (by decide) : R 0 63 (v3 ||| (1 <<< (r2 &&& 31))))
        refine s_bd (sf_R_at (28) r2 0 isR_28 i_h0) (fun r4 f10 => ?_)
        refine s_lt (fun x5 e11 => ?_)
        refine s_bd (sf_R_at (28) r2 1 isR_28 i_h0) (fun r6 f12 => ?_)
        refine s_lt (fun x7 e13 => ?_)
        exact ih x3 x5 x7 r2 (v7 + 1) (fu_su hfu (i_inc f3 (k := 1) rfl (by decide)) (by decide)) (r_w f9 (by decide)) (r_w (r_full x5) (by decide)) (r_w (r_full x7) (by decide)) (r_w f7 (by decide)) (r_w (r_add f3 (⟨by decide, by decide⟩ : R 1 1 (1 : Int32)) (by decide) : R 1 6 (v7 + 1)) (by decide))
theorem sf_K_loafAt_28 (p1 : Int32) (f_p1 : R 0 5 p1) {h0 : PH} (i_h0 : Inv h0) : Sf (mK_loafAt 28 p1 h0) (fun r => R (-1) 5 r) := by
  unfold mK_loafAt
  refine s_bd (sf_K_doneBy 0 0 0 (r_w (⟨by decide, by decide⟩ : R 0 0 (0 : Int32)) (by decide)) i_h0) (fun r1 f1 => ?_)
  refine sl_K_loafAt_L22_28 p1 r1 h0 (r_w f_p1 (by decide)) (r_w (r_full r1) (by decide)) i_h0 FU 0 0 0 (-1) 0 (fu_up (⟨by decide, by decide⟩ : R 0 0 (0 : Int32)) (by decide)) (r_w (⟨by decide, by decide⟩ : R 0 0 (0 : Int32)) (by decide)) (r_w (⟨by decide, by decide⟩ : R 0 0 (0 : Int32)) (by decide)) (r_w (⟨by decide, by decide⟩ : R 0 0 (0 : Int32)) (by decide)) (r_w (⟨by decide, by decide⟩ : R (-1) (-1) (-1 : Int32)) (by decide)) (r_w (⟨by decide, by decide⟩ : R 0 0 (0 : Int32)) (by decide))
theorem sf_D_lawLine {h0 : PH} (i_h0 : Inv h0) : Sf (mD_lawLine h0) (fun r => R 0 1 r.1 ∧ Inv r.2) := by
  unfold mD_lawLine
  refine s_lt (fun x1 e1 => ?_)
  refine s_bd (sf_D_advance i_h0) (fun h2 f2 => ?_)
  refine s_lt (fun x3 e3 => ?_)
  have f4 : R 0 400 x3 := by rw [e3]; exact (inv_rng f2 rfl : R 0 400 (h2 93 3))
  refine s_bd2 (sf_D_expression f2) (fun r4 h5 f5 => ?_)
  refine s_if (fun c6 => ?_) (fun c6 => ?_)
  ·
    have f7 : R 0 0 r4 := r_eq (⟨by decide, by decide⟩ : R 0 0 (0 : Int32)) c6
    exact s_some ⟨r_w (⟨by decide, by decide⟩ : R 0 0 (0 : Int32)) (by decide), f5.2⟩
  ·
    have f8 : R 1 1 r4 := r_ne_lo f5.1 (⟨by decide, by decide⟩ : R 0 0 (0 : Int32)) c6 (by decide)
    refine s_lt (fun x6 e9 => ?_)
    have f10 : R 0 400 x6 := by rw [e9]; exact (inv_rng f5.2 rfl : R 0 400 (h5 93 3))
    refine s_bd (sf_D_isWord 3 f5.2) (fun r7 f11 => ?_)
    refine s_jn1 (P := fun (h9 : PH) => Inv h9) (fun h9 f20 => ?_) (fun j8 kj8 => ?_)
    ·
      refine s_bd2 (sf_D_takesSign 59 f20) (fun r10 h11 f21 => ?_)
      refine s_if (fun c22 => ?_) (fun c22 => ?_)
      ·
        have f23 : R 0 0 r10 := r_eq (⟨by decide, by decide⟩ : R 0 0 (0 : Int32)) c22
        exact s_some ⟨r_w (⟨by decide, by decide⟩ : R 0 0 (0 : Int32)) (by decide), f21.2⟩
      ·
        have f24 : R 1 1 r10 := r_ne_lo f21.1 (⟨by decide, by decide⟩ : R 0 0 (0 : Int32)) c22 (by decide)
        refine s_bd2 (sf_R_add_91 x1 x3 x6 (h11 93 3) 0 (r_w f4 (by decide)) (r_w f10 (by decide)) (r_w (inv_rng f21.2 rfl : R 0 400 (h11 93 3)) (by decide)) f21.2) (fun r12 h13 f25 => ?_)
        refine s_if (fun c26 => ?_) (fun c26 => ?_)
        ·
          have f27 : R 0 0 r12 := r_eq (⟨by decide, by decide⟩ : R 0 0 (0 : Int32)) c26
          exact s_some ⟨r_w (⟨by decide, by decide⟩ : R 0 0 (0 : Int32)) (by decide), f25.2⟩
        ·
          have f28 : R 1 1 r12 := r_ne_lo f25.1 (⟨by decide, by decide⟩ : R 0 0 (0 : Int32)) c26 (by decide)
          exact s_some ⟨r_w (⟨by decide, by decide⟩ : R 1 1 (1 : Int32)) (by decide), f25.2⟩
    ·
      refine s_if (fun c29 => ?_) (fun c29 => ?_)
      ·
        have f30 : R 0 0 r7 := r_eq (⟨by decide, by decide⟩ : R 0 0 (0 : Int32)) c29
        exact kj8 _ (f5.2)
      ·
        have f31 : R 1 1 r7 := r_ne_lo f11 (⟨by decide, by decide⟩ : R 0 0 (0 : Int32)) c29 (by decide)
        refine s_bd (sf_D_advance f5.2) (fun h14 f32 => ?_)
        refine s_bd2 (sf_D_condition 0 (r_w (⟨by decide, by decide⟩ : R 0 0 (0 : Int32)) (by decide)) f32) (fun r15 h16 f33 => ?_)
        refine s_if (fun c34 => ?_) (fun c34 => ?_)
        ·
          have f35 : R 0 0 r15 := r_eq (⟨by decide, by decide⟩ : R 0 0 (0 : Int32)) c34
          exact s_some ⟨r_w (⟨by decide, by decide⟩ : R 0 0 (0 : Int32)) (by decide), f33.2⟩
        ·
          have f36 : R 1 1 r15 := r_ne_lo f33.1 (⟨by decide, by decide⟩ : R 0 0 (0 : Int32)) c34 (by decide)
          exact kj8 _ (f33.2)
theorem sf_A_scan (s1 : Nat) (hs : s1 < 4) {h0 : PH} (i : Inv h0) : Sf (mA_scan s1 h0) (fun h => Inv h) := by
  match s1, hs with
  | 0, _ => exact sf_A_scan_0 i
  | 1, _ => exact sf_A_scan_1 i
  | 2, _ => exact sf_A_scan_2 i
  | 3, _ => exact sf_A_scan_3 i
  | s + 4, h => omega
theorem sl_D_reads_L43 (p1 : Int32) (k0 : PH → Option (Int32 × PH)) (k1 : PH → Option (Int32 × PH)) (f_p1 : R (-2147483648) 2147483647 p1) (hk_k0 : ∀ (y0 : PH), Inv y0 → Sf (k0 y0) (fun r => R 0 1 r.1 ∧ Inv r.2)) (hk_k1 : ∀ (y0 : PH), Inv y0 → R 1 1 (y0 90 6) → R (-2147483648) 2 (y0 90 7) → Sf (k1 y0) (fun r => R 0 1 r.1 ∧ Inv r.2)) : ∀ (n : Nat) (v3 : Int32) (hv : PH), 16 - v3.toInt < (n : Int) → R 0 16 v3 → Inv hv → Sf (mD_reads_L43 p1 k0 k1 n v3 hv) (fun r => R 0 1 r.1 ∧ Inv r.2) := by
  intro n
  induction n with
  | zero =>
    intro v3 hv hfu f_v3 i_hv
    have := f_v3.2
    omega
  | succ n ih =>
    intro v3 hv hfu f_v3 i_hv
    rw [mD_reads_L43]
    refine s_if (fun c1 => ?_) (fun c1 => ?_)
    ·
      have f2 : R 16 15 16 := lt_hi (⟨by decide, by decide⟩ : R 16 16 (16 : Int32)) f_v3 c1 (by decide)
      exact r_no f2 (by decide)
    ·
      refine s_if (fun c3 => ?_) (fun c3 => ?_)
      ·
        have f4 : R 0 0 (hv 90 6) := r_eq (⟨by decide, by decide⟩ : R 0 0 (0 : Int32)) c3
        exact s_some ⟨r_w (⟨by decide, by decide⟩ : R 1 1 (1 : Int32)) (by decide), i_hv⟩
      ·
        refine s_if (fun c5 => ?_) (fun c5 => ?_)
        ·
          have f6 : R 1 1 (hv 90 6) := r_eq (⟨by decide, by decide⟩ : R 1 1 (1 : Int32)) c5
          refine s_jn1 (P := fun (x9 : Int32) => R 0 2 x9) (fun x9 f9 => ?_) (fun j8 kj8 => ?_)
          ·
            refine s_if (fun c10 => ?_) (fun c10 => ?_)
            ·
              have f11 : R (-2147483648) 2 (hv 90 7) := le_hi (r_full (hv 90 7)) f9 c10
              refine s_if (fun c12 => ?_) (fun c12 => ?_)
              ·
                have f13 : R 16 16 v3 := r_eq (⟨by decide, by decide⟩ : R 16 16 (16 : Int32)) c12
                exact hk_k1 _ (i_hv) ((r_w f6 (by decide))) ((r_w f11 (by decide)))
              ·
                have f14 : R 0 15 v3 := r_ne_hi f_v3 (⟨by decide, by decide⟩ : R 16 16 (16 : Int32)) c12 (by decide)
                refine s_jn2 (P := fun (x11 : Int32) (h12 : PH) => R 0 1 x11 ∧ Inv h12) (fun x11 h12 f25 => ?_) (fun j10 kj10 => ?_)
                ·
                  refine s_if (fun c26 => ?_) (fun c26 => ?_)
                  ·
                    have f27 : R 0 0 x11 := r_eq (⟨by decide, by decide⟩ : R 0 0 (0 : Int32)) c26
                    exact s_some ⟨r_w (⟨by decide, by decide⟩ : R 0 0 (0 : Int32)) (by decide), f25.2⟩
                  ·
                    have f28 : R 1 1 x11 := r_ne_lo f25.1 (⟨by decide, by decide⟩ : R 0 0 (0 : Int32)) c26 (by decide)
                    exact ih (v3 + 1) h12 (fu_su hfu (i_inc f14 (k := 1) rfl (by decide)) (by decide)) (r_w (r_add f14 (⟨by decide, by decide⟩ : R 1 1 (1 : Int32)) (by decide) : R 1 16 (v3 + 1)) (by decide)) f25.2
                ·
                  refine s_if (fun c29 => ?_) (fun c29 => ?_)
                  ·
                    have f30 : R 0 0 p1 := r_eq (⟨by decide, by decide⟩ : R 0 0 (0 : Int32)) c29
                    refine s_bd2 (sf_D_lawLine i_hv) (fun r13 h14 f31 => ?_)
                    exact kj10 _ _ ⟨r_w f31.1 (by decide), f31.2⟩
                  ·
                    refine s_if (fun c32 => ?_) (fun c32 => ?_)
                    ·
                      have f33 : R 1 1 p1 := r_eq (⟨by decide, by decide⟩ : R 1 1 (1 : Int32)) c32
                      refine s_bd2 (sf_D_skyLine i_hv) (fun r15 h16 f34 => ?_)
                      exact kj10 _ _ ⟨r_w f34.1 (by decide), f34.2⟩
                    ·
                      refine s_if (fun c35 => ?_) (fun c35 => ?_)
                      ·
                        have f36 : R 2 2 p1 := r_eq (⟨by decide, by decide⟩ : R 2 2 (2 : Int32)) c35
                        refine s_bd2 (sf_D_officeLine i_hv) (fun r17 h18 f37 => ?_)
                        exact kj10 _ _ ⟨r_w f37.1 (by decide), f37.2⟩
                      ·
                        refine s_bd2 (sf_D_nextLine i_hv) (fun r19 h20 f38 => ?_)
                        exact kj10 _ _ ⟨r_w f38.1 (by decide), f38.2⟩
            ·
              have f39 : R 1 2147483647 (hv 90 7) := lt_lo f9 (r_full (hv 90 7)) (nle_lt c10) (by decide)
              exact hk_k0 _ (i_hv)
          ·
            refine s_if (fun c40 => ?_) (fun c40 => ?_)
            ·
              have f41 : R 0 0 p1 := r_eq (⟨by decide, by decide⟩ : R 0 0 (0 : Int32)) c40
              exact kj8 _ (r_w (⟨by decide, by decide⟩ : R 2 2 (2 : Int32)) (by decide))
            ·
              exact kj8 _ (r_w (⟨by decide, by decide⟩ : R 0 0 (0 : Int32)) (by decide))
        ·
          exact hk_k0 _ (i_hv)
theorem sf_D_reads (p1 : Int32) (p2 : Int32) (f_p2 : R 0 12 p2) {h0 : PH} (i_h0 : Inv h0) : Sf (mD_reads p1 p2 h0) (fun r => R 0 1 r.1 ∧ Inv r.2) := by
  unfold mD_reads
  refine s_bd (sf_D_wordsOf p1 h0) (fun r1 hT => ?_)
  refine s_bd (sf_A_scan (r1) hT i_h0) (fun h2 f1 => ?_)
  refine s_lt (fun h3 e2 => ?_)
  have i3 : Inv h3 := by rw [e2]; exact inv_put f1 rfl (r_w f_p2 (by decide))
  refine s_lt (fun h4 e4 => ?_)
  have i5 : Inv h4 := by rw [e4]; exact inv_put i3 rfl (r_w (⟨by decide, by decide⟩ : R 0 0 (0 : Int32)) (by decide))
  refine s_lt (fun h5 e6 => ?_)
  have i7 : Inv h5 := by rw [e6]; exact inv_put i5 rfl (r_w (⟨by decide, by decide⟩ : R 0 0 (0 : Int32)) (by decide))
  refine s_lt (fun h6 e8 => ?_)
  have i9 : Inv h6 := by rw [e8]; exact inv_put i7 rfl (r_w (⟨by decide, by decide⟩ : R (-1) (-1) (-1 : Int32)) (by decide))
  refine s_bd (sf_D_advance i9) (fun h7 f10 => ?_)
  refine sl_D_reads_L43 p1 _ _ (r_w (r_full p1) (by decide)) ?_ ?_ FU 0 h7 (fu_up (⟨by decide, by decide⟩ : R 0 0 (0 : Int32)) (by decide)) (r_w (⟨by decide, by decide⟩ : R 0 0 (0 : Int32)) (by decide)) f10
  ·
    intro h21 f11
    refine s_bd2 (sf_D_refuse 1 f11) (fun r22 h23 f12 => ?_)
    exact s_some ⟨r_w (r_nb r22) (by decide), f12.2⟩
  ·
    intro h24 f13 f14 f15
    refine s_bd2 (sf_D_refuse 3 f13) (fun r25 h26 f16 => ?_)
    exact s_some ⟨r_w (r_nb r25) (by decide), f16.2⟩
theorem sf_X_text (p1 : Int32) {h0 : PH} (i_h0 : Inv h0) : Sf (mX_text p1 h0) (fun r => R (-1) 16 r.1 ∧ Inv r.2) := by
  unfold mX_text
  refine s_bd (sf_D_forgetFault i_h0) (fun h1 f1 => ?_)
  refine s_win (fun r2 f3 c2 => ?_)
  refine s_jn2 (P := fun (x4 : Int32) (h5 : PH) => R 0 1 x4 ∧ Inv h5) (fun x4 h5 f14 => ?_) (fun j3 kj3 => ?_)
  ·
    refine s_lt (fun h6 e15 => ?_)
    have i16 : Inv h6 := by rw [e15]; exact inv_put f14.2 rfl (r_w (⟨by decide, by decide⟩ : R 0 0 (0 : Int32)) (by decide))
    refine s_if (fun c17 => ?_) (fun c17 => ?_)
    ·
      have f18 : R 0 0 x4 := r_eq (⟨by decide, by decide⟩ : R 0 0 (0 : Int32)) c17
      exact s_some ⟨r_w (⟨by decide, by decide⟩ : R (-1) (-1) (-1 : Int32)) (by decide), i16⟩
    ·
      have f19 : R 1 1 x4 := r_ne_lo f14.1 (⟨by decide, by decide⟩ : R 0 0 (0 : Int32)) c17 (by decide)
      refine s_bd2 (sf_X_keepText p1 i16) (fun r7 h8 f20 => ?_)
      exact s_some ⟨r_w f20.1 (by decide), f20.2⟩
  ·
    refine s_if (fun c21 => ?_) (fun c21 => ?_)
    ·
      have f22 : R 0 0 r2 := r_eq (⟨by decide, by decide⟩ : R 0 0 (0 : Int32)) c21
      exact kj3 _ _ ⟨r_w (⟨by decide, by decide⟩ : R 0 0 (0 : Int32)) (by decide), f1⟩
    ·
      have f23 : R 1 1 r2 := r_ne_lo f3 (⟨by decide, by decide⟩ : R 0 0 (0 : Int32)) c21 (by decide)
      have q24 := c2 c21
      have f25 : R 0 2147483647 p1 := le_lo (⟨by decide, by decide⟩ : R 0 0 (0 : Int32)) (r_full p1) q24.1
      have f26 : R 0 3 p1 := le_hi f25 (⟨by decide, by decide⟩ : R 3 3 (3 : Int32)) q24.2
      refine s_bd2 (sf_D_reads p1 (h1 1 1) (r_w (inv_rng f1 rfl : R 0 12 (h1 1 1)) (by decide)) f1) (fun r9 h10 f27 => ?_)
      refine s_if (fun c28 => ?_) (fun c28 => ?_)
      ·
        have f29 : R 0 0 r9 := r_eq (⟨by decide, by decide⟩ : R 0 0 (0 : Int32)) c28
        exact kj3 _ _ ⟨r_w (⟨by decide, by decide⟩ : R 0 0 (0 : Int32)) (by decide), f27.2⟩
      ·
        have f30 : R 1 1 r9 := r_ne_lo f27.1 (⟨by decide, by decide⟩ : R 0 0 (0 : Int32)) c28 (by decide)
        exact kj3 _ _ ⟨r_w (⟨by decide, by decide⟩ : R 1 1 (1 : Int32)) (by decide), f27.2⟩
theorem sf_X_plate (p1 : Int32) (p2 : Int32) {h0 : PH} (i_h0 : Inv h0) : Sf (mX_plate p1 p2 h0) (fun r => R (-2147483648) 2147483647 r) := by
  unfold mX_plate
  refine s_win (fun r1 f2 c1 => ?_)
  refine s_if (fun c3 => ?_) (fun c3 => ?_)
  ·
    have f4 : R 0 0 r1 := r_eq (⟨by decide, by decide⟩ : R 0 0 (0 : Int32)) c3
    exact s_some (r_w (⟨by decide, by decide⟩ : R (-1) (-1) (-1 : Int32)) (by decide))
  ·
    have f5 : R 1 1 r1 := r_ne_lo f2 (⟨by decide, by decide⟩ : R 0 0 (0 : Int32)) c3 (by decide)
    have q6 := c1 c3
    have f7 : R 1 2147483647 p1 := le_lo (⟨by decide, by decide⟩ : R 1 1 (1 : Int32)) (r_full p1) q6.1
    have f8 : R 1 9 p1 := le_hi f7 (inv_rng i_h0 rfl : R 0 9 (h0 18 3)) q6.2
    have f9 : R 1 9 (h0 18 3) := le_lo f7 (inv_rng i_h0 rfl : R 0 9 (h0 18 3)) q6.2
    refine s_win (fun r2 f11 c10 => ?_)
    refine s_if (fun c12 => ?_) (fun c12 => ?_)
    ·
      have f13 : R 0 0 r2 := r_eq (⟨by decide, by decide⟩ : R 0 0 (0 : Int32)) c12
      exact s_some (r_w (⟨by decide, by decide⟩ : R (-1) (-1) (-1 : Int32)) (by decide))
    ·
      have f14 : R 1 1 r2 := r_ne_lo f11 (⟨by decide, by decide⟩ : R 0 0 (0 : Int32)) c12 (by decide)
      have q15 := c10 c12
      have f16 : R 0 2147483647 p2 := le_lo (⟨by decide, by decide⟩ : R 0 0 (0 : Int32)) (r_full p2) q15.1
      have f17 : R 0 1 p2 := le_hi f16 (⟨by decide, by decide⟩ : R 1 1 (1 : Int32)) q15.2
      refine s_if (fun c18 => ?_) (fun c18 => ?_)
      ·
        have f19 : R 0 0 p2 := r_eq (⟨by decide, by decide⟩ : R 0 0 (0 : Int32)) c18
        refine s_bd (sf_K_leastShare (18) 0 p1 (r_w (⟨by decide, by decide⟩ : R 0 0 (0 : Int32)) (by decide)) (r_w f8 (by decide)) isR_18 i_h0) (fun r3 f20 => ?_)
        exact s_some (r_w (r_full r3) (by decide))
      ·
        have f21 : R 1 1 p2 := r_ne_lo f17 (⟨by decide, by decide⟩ : R 0 0 (0 : Int32)) c18 (by decide)
        refine s_bd (sf_K_secondShare (18) p1 (r_w f8 (by decide)) isR_18 i_h0) (fun r4 f22 => ?_)
        exact s_some (r_w f22 (by decide))
theorem sf_X_pans (p1 : Int32) (p2 : Int32) {h0 : PH} (i_h0 : Inv h0) : Sf (mX_pans p1 p2 h0) (fun r => R (-2147483648) 2147483647 r.1 ∧ Inv r.2) := by
  unfold mX_pans
  refine s_win (fun r1 f2 c1 => ?_)
  refine s_if (fun c3 => ?_) (fun c3 => ?_)
  ·
    have f4 : R 0 0 r1 := r_eq (⟨by decide, by decide⟩ : R 0 0 (0 : Int32)) c3
    exact s_some ⟨r_w (⟨by decide, by decide⟩ : R (-1) (-1) (-1 : Int32)) (by decide), i_h0⟩
  ·
    have f5 : R 1 1 r1 := r_ne_lo f2 (⟨by decide, by decide⟩ : R 0 0 (0 : Int32)) c3 (by decide)
    have q6 := c1 c3
    have f7 : R 1 2147483647 p1 := le_lo (⟨by decide, by decide⟩ : R 1 1 (1 : Int32)) (r_full p1) q6.1
    have f8 : R 1 60 p1 := le_hi f7 (⟨by decide, by decide⟩ : R 60 60 (60 : Int32)) q6.2
    refine s_win (fun r2 f10 c9 => ?_)
    refine s_if (fun c11 => ?_) (fun c11 => ?_)
    ·
      have f12 : R 0 0 r2 := r_eq (⟨by decide, by decide⟩ : R 0 0 (0 : Int32)) c11
      exact s_some ⟨r_w (⟨by decide, by decide⟩ : R (-1) (-1) (-1 : Int32)) (by decide), i_h0⟩
    ·
      have f13 : R 1 1 r2 := r_ne_lo f10 (⟨by decide, by decide⟩ : R 0 0 (0 : Int32)) c11 (by decide)
      have q14 := c9 c11
      have f15 : R 0 2147483647 p2 := le_lo (⟨by decide, by decide⟩ : R 0 0 (0 : Int32)) (r_full p2) q14.1
      have f16 : R 0 1 p2 := le_hi f15 (⟨by decide, by decide⟩ : R 1 1 (1 : Int32)) q14.2
      refine s_bd (sf_K_greatest (20) isR_20 i_h0) (fun r3 f17 => ?_)
      refine s_if (fun c18 => ?_) (fun c18 => ?_)
      ·
        have f19 : R 0 60 r3 := le_hi f17 f8 c18
        refine s_if (fun c20 => ?_) (fun c20 => ?_)
        ·
          have f21 : R 0 0 p2 := r_eq (⟨by decide, by decide⟩ : R 0 0 (0 : Int32)) c20
          refine s_bd2 (sf_K_fewestPans_20 p1 i_h0) (fun r4 h5 f22 => ?_)
          exact s_some ⟨r_w f22.1 (by decide), f22.2⟩
        ·
          have f23 : R 1 1 p2 := r_ne_lo f16 (⟨by decide, by decide⟩ : R 0 0 (0 : Int32)) c20 (by decide)
          refine s_bd2 (sf_K_firstFitPans (20) p1 isR_20 i_h0) (fun r6 h7 f24 => ?_)
          exact s_some ⟨r_w f24.1 (by decide), f24.2⟩
      ·
        have f25 : R 2 2147483647 r3 := lt_lo f8 f17 (nle_lt c18) (by decide)
        exact s_some ⟨r_w (⟨by decide, by decide⟩ : R (-1) (-1) (-1 : Int32)) (by decide), i_h0⟩
theorem sf_X_measures (p1 : Int32) {h0 : PH} (i_h0 : Inv h0) : Sf (mX_measures p1 h0) (fun r => R (-2147483648) 2147483647 r) := by
  unfold mX_measures
  refine s_win (fun r1 f2 c1 => ?_)
  refine s_if (fun c3 => ?_) (fun c3 => ?_)
  ·
    have f4 : R 0 0 r1 := r_eq (⟨by decide, by decide⟩ : R 0 0 (0 : Int32)) c3
    exact s_some (r_w (⟨by decide, by decide⟩ : R (-1) (-1) (-1 : Int32)) (by decide))
  ·
    have f5 : R 1 1 r1 := r_ne_lo f2 (⟨by decide, by decide⟩ : R 0 0 (0 : Int32)) c3 (by decide)
    have q6 := c1 c3
    have f7 : R 0 2147483647 p1 := le_lo (⟨by decide, by decide⟩ : R 0 0 (0 : Int32)) (r_full p1) q6.1
    have f8 : R 0 1 p1 := le_hi f7 (⟨by decide, by decide⟩ : R 1 1 (1 : Int32)) q6.2
    refine s_if (fun c9 => ?_) (fun c9 => ?_)
    ·
      have f10 : R 0 0 p1 := r_eq (⟨by decide, by decide⟩ : R 0 0 (0 : Int32)) c9
      refine s_bd (sf_K_countLengths (22) isR_22 i_h0) (fun r2 f11 => ?_)
      exact s_some (r_w (r_full r2) (by decide))
    ·
      have f12 : R 1 1 p1 := r_ne_lo f8 (⟨by decide, by decide⟩ : R 0 0 (0 : Int32)) c9 (by decide)
      refine s_bd (sf_K_leastMissing (22) isR_22 i_h0) (fun r3 f13 => ?_)
      exact s_some (r_w (r_full r3) (by decide))
theorem sf_X_ovens (p1 : Int32) {h0 : PH} (i_h0 : Inv h0) : Sf (mX_ovens p1 h0) (fun r => R (-2147483648) 2147483647 r) := by
  unfold mX_ovens
  refine s_if (fun c1 => ?_) (fun c1 => ?_)
  ·
    have f2 : R 0 0 p1 := r_eq (⟨by decide, by decide⟩ : R 0 0 (0 : Int32)) c1
    refine s_bd (sf_K_doneBy 0 0 0 (r_w (⟨by decide, by decide⟩ : R 0 0 (0 : Int32)) (by decide)) i_h0) (fun r1 f3 => ?_)
    exact s_some (r_w (r_full r1) (by decide))
  ·
    refine s_if (fun c4 => ?_) (fun c4 => ?_)
    ·
      have f5 : R (-2147483648) 9 p1 := lt_hi (r_full p1) (⟨by decide, by decide⟩ : R 10 10 (10 : Int32)) c4 (by decide)
      exact s_some (r_w (⟨by decide, by decide⟩ : R (-1) (-1) (-1 : Int32)) (by decide))
    ·
      have f6 : R 10 2147483647 p1 := le_lo (⟨by decide, by decide⟩ : R 10 10 (10 : Int32)) (r_full p1) (nlt_le c4)
      refine s_if (fun c7 => ?_) (fun c7 => ?_)
      ·
        have f8 : R 0 5 (p1 - 10) := lt_hi (r_sub f6 (⟨by decide, by decide⟩ : R 10 10 (10 : Int32)) (by decide) : R 0 2147483637 (p1 - 10)) (inv_rng i_h0 rfl : R 0 6 (h0 28 3)) c7 (by decide)
        have f9 : R 1 6 (h0 28 3) := lt_lo (r_sub f6 (⟨by decide, by decide⟩ : R 10 10 (10 : Int32)) (by decide) : R 0 2147483637 (p1 - 10)) (inv_rng i_h0 rfl : R 0 6 (h0 28 3)) c7 (by decide)
        refine s_bd (sf_K_loafAt_28 (p1 - 10) (r_w f8 (by decide)) i_h0) (fun r2 f10 => ?_)
        exact s_some (r_w f10 (by decide))
      ·
        exact s_some (r_w (⟨by decide, by decide⟩ : R (-1) (-1) (-1 : Int32)) (by decide))
end
