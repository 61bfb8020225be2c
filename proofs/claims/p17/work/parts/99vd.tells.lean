/-! THE TELLS: both sides, step by step. Printed by wip/gen/prel2.py -/
theorem tell_no {a0 : Nat} {x f p3 p4 : Int32} {h : PH} (hx : ¬ x = 0) : mX_tell a0 x f p3 p4 h = some (0, up h a0 3 0) := by
  unfold mX_tell
  rw [if_neg hx, lt_e]
theorem tell_un {a0 : Nat} {x f p3 p4 : Int32} {h : PH} (hx : x = 0) (hf : f = 0) : mX_tell a0 x f p3 p4 h = some (-1, h) := by
  unfold mX_tell
  rw [if_pos hx, if_pos hf]
theorem rows_n {a m w : Nat} (hs : sp a = spR (m : Int) (w : Int)) (hm : m ≤ 400) (hw : w ≤ 5) {h : PH} (i : Inv h) : h a 0 = nI m ∧ h a 1 = nI w := by
  obtain ⟨q0, q1, q2, q3⟩ := rows_i hs i
  exact ⟨Int32.toInt_inj.mp (by rw [q0, nI_toInt (by omega)]), Int32.toInt_inj.mp (by rw [q1, nI_toInt (by omega)])⟩
theorem tell_full {a0 m w : Nat} (hs : sp a0 = spR (m : Int) (w : Int)) (hm : m ≤ 400) (hw : w ≤ 5) {x f p3 p4 : Int32} {h : PH} (i : Inv h) (hx : x = 0) (hf : ¬ f = 0) (hn : h a0 3 = nI m) : mX_tell a0 x f p3 p4 h = some (-1, h) := by
  obtain ⟨r0, r1⟩ := rows_n hs hm hw i
  unfold mX_tell mR_add
  rw [if_pos hx, if_neg hf, hn, r0, if_neg (by rw [Int32.lt_iff_toInt_lt]; omega), bd2_e, if_pos rfl]
theorem tell_1 {a0 m : Nat} (hs : sp a0 = spR (m : Int) ((1 : Nat) : Int)) (hl : ln (a0 + 1) = m * 1) (hm : m ≤ 400) {x f p3 p4 : Int32} {h : PH} (i : Inv h) (hx : x = 0) (hf : ¬ f = 0) (n : Nat) (hn : h a0 3 = nI n) (nm : n < m) : mX_tell a0 x f p3 p4 h = some (nI (n + 1), up (up h (a0 + 1) n p3) a0 3 (nI (n + 1))) := by
  obtain ⟨r0, r1⟩ := rows_n hs hm (by decide) i
  have ne : a0 ≠ a0 + 1 := by omega
  unfold mX_tell
  rw [if_pos hx, if_neg hf]
  have k1 : up h (a0 + 1) n p3 a0 1 = nI 1 := by rw [up_oc ne]; exact r1
  have k3 : up h (a0 + 1) n p3 a0 3 = nI n := by rw [up_oc ne]; exact hn
  have add : mR_add a0 p3 p4 0 0 0 h = some (1, up (up h (a0 + 1) n p3) a0 3 (nI (n + 1))) := by
    unfold mR_add
    rw [hn, r0, if_pos (nI_lt nm (by omega)), lt_e, r1, nI_mul, Nat.mul_one, ck_nI (by omega) (by omega), lt_e, show ix (nI n) = n from nI_clamp (by omega), jn1_e, if_pos (by rw [k1]; decide)]
    dsimp only
    rw [jn1_e, if_pos (by rw [k1]; decide)]
    dsimp only
    rw [jn1_e, if_pos (by rw [k1]; decide)]
    dsimp only
    rw [jn1_e, if_pos (by rw [k1]; decide)]
    dsimp only
    rw [lt_e, k3, nI_1]
  rw [add, bd2_e, if_neg (by decide), up_same]
theorem tell_2 {a0 m : Nat} (hs : sp a0 = spR (m : Int) ((2 : Nat) : Int)) (hl : ln (a0 + 1) = m * 2) (hm : m ≤ 400) {x f p3 p4 : Int32} {h : PH} (i : Inv h) (hx : x = 0) (hf : ¬ f = 0) (n : Nat) (hn : h a0 3 = nI n) (nm : n < m) : mX_tell a0 x f p3 p4 h = some (nI (n + 1), up (up (up h (a0 + 1) (2 * n) p3) (a0 + 1) (2 * n + 1) p4) a0 3 (nI (n + 1))) := by
  obtain ⟨r0, r1⟩ := rows_n hs hm (by decide) i
  have ne : a0 ≠ a0 + 1 := by omega
  unfold mX_tell
  rw [if_pos hx, if_neg hf]
  have k1 : up h (a0 + 1) (2 * n) p3 a0 1 = nI 2 := by rw [up_oc ne]; exact r1
  have k2 : up (up h (a0 + 1) (2 * n) p3) (a0 + 1) (2 * n + 1) p4 a0 1 = nI 2 := by rw [up_oc ne]; exact k1
  have k3 : up (up h (a0 + 1) (2 * n) p3) (a0 + 1) (2 * n + 1) p4 a0 3 = nI n := by rw [up_oc ne, up_oc ne]; exact hn
  have add : mR_add a0 p3 p4 0 0 0 h = some (1, up (up (up h (a0 + 1) (2 * n) p3) (a0 + 1) (2 * n + 1) p4) a0 3 (nI (n + 1))) := by
    unfold mR_add
    rw [hn, r0, if_pos (nI_lt nm (by omega)), lt_e, r1, nI_mul, Nat.mul_comm n 2, ck_nI (by omega) (by omega), lt_e, show ix (nI (2 * n)) = 2 * n from nI_clamp (by omega), jn1_e, if_neg (by rw [k1]; decide), nI_1, ck_nI (by omega) (by omega), lt_e, show ix (nI (2 * n + 1)) = 2 * n + 1 from nI_clamp (by omega)]
    dsimp only
    rw [jn1_e, if_pos (by rw [k2]; decide)]
    dsimp only
    rw [jn1_e, if_pos (by rw [k2]; decide)]
    dsimp only
    rw [jn1_e, if_pos (by rw [k2]; decide)]
    dsimp only
    rw [lt_e, k3, nI_1]
  rw [add, bd2_e, if_neg (by decide), up_same]
theorem rng_of {a b v : Int32} {x y : Int} (hx : a.toInt = x) (hy : b.toInt = y) (h : a ≤ v ∧ v ≤ b) : R x y v := le_rng hx hy h.1 h.2
theorem within_n {v a b : Int32} {h : PH} (c : ¬ (a ≤ v ∧ v ≤ b)) : mX_within v a b h = some 0 := by rw [within_eq, if_neg c]
theorem within_y {v a b : Int32} {h : PH} (c : a ≤ v ∧ v ≤ b) : mX_within v a b h = some 1 := by rw [within_eq, if_pos c]
theorem isIn_n {v a b : Int32} {h : PH} (c : ¬ (a ≤ v ∧ v ≤ b)) : mm_isIn v a b h = some 0 := by rw [isIn_eq, if_neg c]
theorem isIn_y {v a b : Int32} {h : PH} (c : a ≤ v ∧ v ≤ b) : mm_isIn v a b h = some 1 := by rw [isIn_eq, if_pos c]
theorem mh17 : ∀ (n k : Nat) (h : PH), 12 < n + k → k ≤ 12 → (∀ j, j < k → h 141 j = 0) → ∃ g, mm_heir_L17 n (nI k) h = some (0, g) ∧ ∀ j, j < 12 → g 141 j = 0 := by
  intro n
  induction n with
  | zero => intro k h h1 h2; omega
  | succ n ih =>
    intro k h h1 h2 hz
    rw [mm_heir_L17]
    by_cases e : k = 12
    · subst e
      rw [if_pos (by decide)]
      exact ⟨h, rfl, hz⟩
    · rw [if_neg (show ¬ (12 : Int32) ≤ nI k from nI_ge (b := 12) (by omega) (by omega)), ck_nI (by omega) (by decide), lt_e, nI_1, show ix (nI k) = k from nI_clamp (by omega)]
      exact ih (k + 1) _ (by omega) (by omega) (fun j hj => by
        by_cases e2 : j = k
        · subst e2; exact up_same
        · rw [up_oj e2]; exact hz j (by omega))
theorem xt_piece (a1 : Int32) (h : PH) (i : Inv h) (n : Nat) (hn : n ≤ 9) (en : h 18 3 = nI n) : mX_piece a1 h = if a1 = -1 then some (0, up h 18 3 0) else if (0 ≤ a1 ∧ a1 ≤ 99) ∧ n < 9 then some (nI (n + 1), up (up h 19 n a1) 18 3 (nI (n + 1))) else some (-1, h) := by
  have z01 : ¬ (1 : Int32) = 0 := by decide
  unfold mX_piece
  by_cases c1 : a1 = -1
  · rw [if_pos c1, jn1_e, if_pos c1]
    dsimp only
    rw [within_eq, bd_e, tell_no z01, bd2_e]
  · rw [if_neg c1, jn1_e, if_neg c1]
    dsimp only
    by_cases f1 : 0 ≤ a1 ∧ a1 ≤ 99
    · rw [within_y f1, bd_e]
      by_cases c3 : n < 9
      · rw [if_pos ⟨f1, c3⟩, tell_1 (m := 9) rfl rfl (by decide) i rfl z01 n en c3, bd2_e]
      · rw [if_neg (fun q => c3 q.2), tell_full (m := 9) (w := 1) rfl (by decide) (by decide) i rfl z01 (by rw [en]; congr 1; omega), bd2_e]
    · rw [if_neg (fun q => f1 q.1), within_n f1, bd_e, tell_un rfl rfl, bd2_e]
theorem mt_piece (a1 : Int32) (h : PH) (n : Nat) (hn : n ≤ 9) (en : h 104 42 = nI n) : mm_piece a1 h = if a1 = -1 then some (0, up (up h 104 0 0) 104 42 0) else if (0 ≤ a1 ∧ a1 ≤ 99) ∧ n < 9 then some (nI (n + 1), up (up (up h 104 0 0) 127 n a1) 104 42 (nI (n + 1))) else some (-1, up h 104 0 0) := by
  have z01 : ¬ (1 : Int32) = 0 := by decide
  have k : up h 104 0 0 104 42 = nI n := by rw [up_oj (by decide)]; exact en
  unfold mm_piece
  rw [lt_e]
  by_cases c1 : a1 = -1
  · rw [if_pos c1, if_pos c1, lt_e]
  · rw [if_neg c1, if_neg c1]
    by_cases f1 : 0 ≤ a1 ∧ a1 ≤ 99
    · rw [isIn_y f1, bd_e, if_neg z01]
      by_cases c3 : n < 9
      · have nM : ¬ nI n = 9 := fun q => by
          have : (nI n).toInt = 9 := by rw [q]; rfl
          rw [nI_toInt (by omega)] at this
          omega
        have ixn : ix (nI n) = n := nI_clamp (by omega)
        rw [k, if_neg nM, ck_nI (by omega) (by decide), lt_e, ixn, lt_e, if_pos ⟨f1, c3⟩]
        rw [show up (up h 104 0 0) 127 n a1 104 42 = nI n by rw [up_oc (by decide)]; exact k, nI_1, up_same]
      · have eM : nI n = 9 := by rw [show n = 9 by omega]; rfl
        rw [k, if_pos eM, if_neg (fun q => c3 q.2)]
    · rw [isIn_n f1, bd_e, if_pos rfl, if_neg (fun q => f1 q.1)]
theorem rla_but_piece {h g : PH} (hc : ∀ b, b < 104 → b ≠ 18 → b ≠ 19 → g b = h b) (h4 : ∀ j, j ≠ 0 → j ≠ 42 → g 104 j = h 104 j) (hm : ∀ b, 104 < b → b < 1000 → b ≠ 127 → g b = h b) (own : LS_piece h → LS_piece g) (rl : RLA h) : RLA g := by
  obtain ⟨q, qi, qf, qt⟩ := rl
  refine ⟨⟨own q.1, ls_fr_dough (hc 20 (by decide) (by decide) (by decide)) (hc 21 (by decide) (by decide) (by decide)) (h4 45 (by decide) (by decide)) (hm 129 (by decide) (by decide) (by decide)) q.2.1, ls_fr_mark (hc 22 (by decide) (by decide) (by decide)) (hc 23 (by decide) (by decide) (by decide)) (h4 49 (by decide) (by decide)) (hm 132 (by decide) (by decide) (by decide)) q.2.2.1, ls_fr_bite (hc 24 (by decide) (by decide) (by decide)) (hc 25 (by decide) (by decide) (by decide)) (h4 51 (by decide) (by decide)) (hm 133 (by decide) (by decide) (by decide)) (hm 134 (by decide) (by decide) (by decide)) q.2.2.2.1, ls_fr_crumb (hc 26 (by decide) (by decide) (by decide)) (hc 27 (by decide) (by decide) (by decide)) (h4 54 (by decide) (by decide)) (hm 135 (by decide) (by decide) (by decide)) q.2.2.2.2.1, ls_fr_loaf (hc 28 (by decide) (by decide) (by decide)) (hc 29 (by decide) (by decide) (by decide)) (h4 57 (by decide) (by decide)) (hm 137 (by decide) (by decide) (by decide)) (hm 138 (by decide) (by decide) (by decide)) q.2.2.2.2.2.1, ls_fr_heir (hc 30 (by decide) (by decide) (by decide)) (hc 31 (by decide) (by decide) (by decide)) (h4 62 (by decide) (by decide)) (hm 141 (by decide) (by decide) (by decide)) q.2.2.2.2.2.2.1, ls_fr_member (hc 32 (by decide) (by decide) (by decide)) (hc 33 (by decide) (by decide) (by decide)) (h4 66 (by decide) (by decide)) (hm 144 (by decide) (by decide) (by decide)) (hm 145 (by decide) (by decide) (by decide)) q.2.2.2.2.2.2.2⟩, fun z => lia_fr (fun b h1 h2 => hc b (by omega) (by omega) (by omega)) (hm 148 (by decide) (by decide) (by decide)) (qi (by rw [h4 72 (by decide) (by decide)] at z; exact z)), by rw [hc 0 (by decide) (by decide) (by decide), h4 72 (by decide) (by decide)]; exact qf, by rw [hc 85 (by decide) (by decide) (by decide), h4 11 (by decide) (by decide)]; exact qt⟩
theorem rl_piece (a1 : Int32) (h : PH) (i : IM h) (gi : GI h) (rl : RLA h) : ∃ rX h1 rm h2, mX_piece a1 h = some (rX, h1) ∧ mm_piece a1 h1 = some (rm, h2) ∧ CS h h1 h2 ∧ RLA h2 ∧ rX = rm := by
  obtain ⟨rX, h1, rm, h2, e1, e2, cs⟩ := cs_piece a1 h i gi
  refine ⟨rX, h1, rm, h2, e1, e2, cs, ?_⟩
  obtain ⟨n, n1, n2, en⟩ := nat_of (show R 0 9 (h 18 3) from inv_rng i.1 rfl) (by decide)
  have own : LS_piece h := rl.1.1
  have em : h1 104 42 = nI n := by rw [cs.2.2.2.1 104 (by decide), ← own.1]; exact en
  have f1 : Fr [18, 19] h1 h := fun b hb => fpX_piece a1 h e1 b (fun q => hb (by revert q; simp [FPdX_piece]; try omega))
  have f2 : Fk [1000, 1042, 127] h2 h1 := fun b j hb => fkm_piece a1 h1 e2 b j (fun q => hb (by revert q; simp [FKdm_piece]; try omega))
  have but : (LS_piece h → LS_piece h2) → RLA h2 := fun w => rla_but_piece (fun b h1 h2 h3 => by
      rw [← f1 b (by simp; omega)]
      funext j
      exact f2 b j (by unfold kk; rw [if_neg (by omega)]; simp; omega)) (fun j j1 j2 => by
      rw [← f1 104 (by decide)]
      exact f2 104 j (by unfold kk; rw [if_pos rfl]; simp; omega)) (fun b hb hb2 w0 => by
      rw [← f1 b (by simp; omega)]
      funext j
      exact f2 b j (by unfold kk; rw [if_neg (by omega)]; simp; omega)) w rl
  rw [xt_piece a1 h i.1 n (by omega) en] at e1
  by_cases c1 : a1 = -1
  · rw [if_pos c1] at e1
    cases e1
    rw [mt_piece a1 _ n (by omega) em, if_pos c1] at e2
    cases e2
    refine ⟨but (fun _ => ?_), rfl⟩
    unfold LS_piece
    rw [cs.2.2.2.2 18 (by decide), up_same, up_same]
    exact w1_0
  · rw [if_neg c1] at e1
    rw [mt_piece a1 _ n (by omega) em, if_neg c1] at e2
    by_cases c2 : (0 ≤ a1 ∧ a1 ≤ 99) ∧ n < 9
    · rw [if_pos c2] at e1 e2
      cases e1
      cases e2
      refine ⟨but (fun w => ?_), rfl⟩
      have s0 := cs.2.2.2.2 18 (by decide)
      have s1 := cs.2.2.2.2 19 (by decide)
      unfold LS_piece at w ⊢
      rw [← w.1, en] at w
      rw [s0, s1, up_same]
      rw [up_same]
      refine w1_add w (by omega) (rng_of rfl rfl c2.1) ?_ (fun k hk => ?_) ?_ (fun k hk => ?_)
      · rw [up_oc (by decide), up_same]
      · rw [up_oc (by decide), up_oj (by omega)]
      · rw [up_oc (by decide), up_same]
      · rw [up_oc (by decide), up_oj (by omega), up_oc (by decide), up_oc (by decide), up_oc (by decide)]
    · rw [if_neg c2] at e1 e2
      cases e1
      cases e2
      exact ⟨but (fun w => ls_fr_piece (up_cell (by decide)) (up_cell (by decide)) (up_oj (by decide)) (up_cell (by decide)) w), rfl⟩
theorem xt_dough (a1 : Int32) (h : PH) (i : Inv h) (n : Nat) (hn : n ≤ 8) (en : h 20 3 = nI n) : mX_dough a1 h = if a1 = -1 then some (0, up h 20 3 0) else if (1 ≤ a1 ∧ a1 ≤ 30) ∧ n < 8 then some (nI (n + 1), up (up h 21 n a1) 20 3 (nI (n + 1))) else some (-1, h) := by
  have z01 : ¬ (1 : Int32) = 0 := by decide
  unfold mX_dough
  by_cases c1 : a1 = -1
  · rw [if_pos c1, jn1_e, if_pos c1]
    dsimp only
    rw [within_eq, bd_e, tell_no z01, bd2_e]
  · rw [if_neg c1, jn1_e, if_neg c1]
    dsimp only
    by_cases f1 : 1 ≤ a1 ∧ a1 ≤ 30
    · rw [within_y f1, bd_e]
      by_cases c3 : n < 8
      · rw [if_pos ⟨f1, c3⟩, tell_1 (m := 8) rfl rfl (by decide) i rfl z01 n en c3, bd2_e]
      · rw [if_neg (fun q => c3 q.2), tell_full (m := 8) (w := 1) rfl (by decide) (by decide) i rfl z01 (by rw [en]; congr 1; omega), bd2_e]
    · rw [if_neg (fun q => f1 q.1), within_n f1, bd_e, tell_un rfl rfl, bd2_e]
theorem mt_dough (a1 : Int32) (h : PH) (n : Nat) (hn : n ≤ 8) (en : h 104 45 = nI n) : mm_dough a1 h = if a1 = -1 then some (0, up (up h 104 0 0) 104 45 0) else if (1 ≤ a1 ∧ a1 ≤ 30) ∧ n < 8 then some (nI (n + 1), up (up (up h 104 0 0) 129 n a1) 104 45 (nI (n + 1))) else some (-1, up h 104 0 0) := by
  have z01 : ¬ (1 : Int32) = 0 := by decide
  have k : up h 104 0 0 104 45 = nI n := by rw [up_oj (by decide)]; exact en
  unfold mm_dough
  rw [lt_e]
  by_cases c1 : a1 = -1
  · rw [if_pos c1, if_pos c1, lt_e]
  · rw [if_neg c1, if_neg c1]
    by_cases f1 : 1 ≤ a1 ∧ a1 ≤ 30
    · rw [isIn_y f1, bd_e, if_neg z01]
      by_cases c3 : n < 8
      · have nM : ¬ nI n = 8 := fun q => by
          have : (nI n).toInt = 8 := by rw [q]; rfl
          rw [nI_toInt (by omega)] at this
          omega
        have ixn : ix (nI n) = n := nI_clamp (by omega)
        rw [k, if_neg nM, ck_nI (by omega) (by decide), lt_e, ixn, lt_e, if_pos ⟨f1, c3⟩]
        rw [show up (up h 104 0 0) 129 n a1 104 45 = nI n by rw [up_oc (by decide)]; exact k, nI_1, up_same]
      · have eM : nI n = 8 := by rw [show n = 8 by omega]; rfl
        rw [k, if_pos eM, if_neg (fun q => c3 q.2)]
    · rw [isIn_n f1, bd_e, if_pos rfl, if_neg (fun q => f1 q.1)]
theorem rla_but_dough {h g : PH} (hc : ∀ b, b < 104 → b ≠ 20 → b ≠ 21 → g b = h b) (h4 : ∀ j, j ≠ 0 → j ≠ 45 → g 104 j = h 104 j) (hm : ∀ b, 104 < b → b < 1000 → b ≠ 129 → g b = h b) (own : LS_dough h → LS_dough g) (rl : RLA h) : RLA g := by
  obtain ⟨q, qi, qf, qt⟩ := rl
  refine ⟨⟨ls_fr_piece (hc 18 (by decide) (by decide) (by decide)) (hc 19 (by decide) (by decide) (by decide)) (h4 42 (by decide) (by decide)) (hm 127 (by decide) (by decide) (by decide)) q.1, own q.2.1, ls_fr_mark (hc 22 (by decide) (by decide) (by decide)) (hc 23 (by decide) (by decide) (by decide)) (h4 49 (by decide) (by decide)) (hm 132 (by decide) (by decide) (by decide)) q.2.2.1, ls_fr_bite (hc 24 (by decide) (by decide) (by decide)) (hc 25 (by decide) (by decide) (by decide)) (h4 51 (by decide) (by decide)) (hm 133 (by decide) (by decide) (by decide)) (hm 134 (by decide) (by decide) (by decide)) q.2.2.2.1, ls_fr_crumb (hc 26 (by decide) (by decide) (by decide)) (hc 27 (by decide) (by decide) (by decide)) (h4 54 (by decide) (by decide)) (hm 135 (by decide) (by decide) (by decide)) q.2.2.2.2.1, ls_fr_loaf (hc 28 (by decide) (by decide) (by decide)) (hc 29 (by decide) (by decide) (by decide)) (h4 57 (by decide) (by decide)) (hm 137 (by decide) (by decide) (by decide)) (hm 138 (by decide) (by decide) (by decide)) q.2.2.2.2.2.1, ls_fr_heir (hc 30 (by decide) (by decide) (by decide)) (hc 31 (by decide) (by decide) (by decide)) (h4 62 (by decide) (by decide)) (hm 141 (by decide) (by decide) (by decide)) q.2.2.2.2.2.2.1, ls_fr_member (hc 32 (by decide) (by decide) (by decide)) (hc 33 (by decide) (by decide) (by decide)) (h4 66 (by decide) (by decide)) (hm 144 (by decide) (by decide) (by decide)) (hm 145 (by decide) (by decide) (by decide)) q.2.2.2.2.2.2.2⟩, fun z => lia_fr (fun b h1 h2 => hc b (by omega) (by omega) (by omega)) (hm 148 (by decide) (by decide) (by decide)) (qi (by rw [h4 72 (by decide) (by decide)] at z; exact z)), by rw [hc 0 (by decide) (by decide) (by decide), h4 72 (by decide) (by decide)]; exact qf, by rw [hc 85 (by decide) (by decide) (by decide), h4 11 (by decide) (by decide)]; exact qt⟩
theorem rl_dough (a1 : Int32) (h : PH) (i : IM h) (gi : GI h) (rl : RLA h) : ∃ rX h1 rm h2, mX_dough a1 h = some (rX, h1) ∧ mm_dough a1 h1 = some (rm, h2) ∧ CS h h1 h2 ∧ RLA h2 ∧ rX = rm := by
  obtain ⟨rX, h1, rm, h2, e1, e2, cs⟩ := cs_dough a1 h i gi
  refine ⟨rX, h1, rm, h2, e1, e2, cs, ?_⟩
  obtain ⟨n, n1, n2, en⟩ := nat_of (show R 0 8 (h 20 3) from inv_rng i.1 rfl) (by decide)
  have own : LS_dough h := rl.1.2.1
  have em : h1 104 45 = nI n := by rw [cs.2.2.2.1 104 (by decide), ← own.1]; exact en
  have f1 : Fr [20, 21] h1 h := fun b hb => fpX_dough a1 h e1 b (fun q => hb (by revert q; simp [FPdX_dough]; try omega))
  have f2 : Fk [1000, 1045, 129] h2 h1 := fun b j hb => fkm_dough a1 h1 e2 b j (fun q => hb (by revert q; simp [FKdm_dough]; try omega))
  have but : (LS_dough h → LS_dough h2) → RLA h2 := fun w => rla_but_dough (fun b h1 h2 h3 => by
      rw [← f1 b (by simp; omega)]
      funext j
      exact f2 b j (by unfold kk; rw [if_neg (by omega)]; simp; omega)) (fun j j1 j2 => by
      rw [← f1 104 (by decide)]
      exact f2 104 j (by unfold kk; rw [if_pos rfl]; simp; omega)) (fun b hb hb2 w0 => by
      rw [← f1 b (by simp; omega)]
      funext j
      exact f2 b j (by unfold kk; rw [if_neg (by omega)]; simp; omega)) w rl
  rw [xt_dough a1 h i.1 n (by omega) en] at e1
  by_cases c1 : a1 = -1
  · rw [if_pos c1] at e1
    cases e1
    rw [mt_dough a1 _ n (by omega) em, if_pos c1] at e2
    cases e2
    refine ⟨but (fun _ => ?_), rfl⟩
    unfold LS_dough
    rw [cs.2.2.2.2 20 (by decide), up_same, up_same]
    exact w1_0
  · rw [if_neg c1] at e1
    rw [mt_dough a1 _ n (by omega) em, if_neg c1] at e2
    by_cases c2 : (1 ≤ a1 ∧ a1 ≤ 30) ∧ n < 8
    · rw [if_pos c2] at e1 e2
      cases e1
      cases e2
      refine ⟨but (fun w => ?_), rfl⟩
      have s0 := cs.2.2.2.2 20 (by decide)
      have s1 := cs.2.2.2.2 21 (by decide)
      unfold LS_dough at w ⊢
      rw [← w.1, en] at w
      rw [s0, s1, up_same]
      rw [up_same]
      refine w1_add w (by omega) (rng_of rfl rfl c2.1) ?_ (fun k hk => ?_) ?_ (fun k hk => ?_)
      · rw [up_oc (by decide), up_same]
      · rw [up_oc (by decide), up_oj (by omega)]
      · rw [up_oc (by decide), up_same]
      · rw [up_oc (by decide), up_oj (by omega), up_oc (by decide), up_oc (by decide), up_oc (by decide)]
    · rw [if_neg c2] at e1 e2
      cases e1
      cases e2
      exact ⟨but (fun w => ls_fr_dough (up_cell (by decide)) (up_cell (by decide)) (up_oj (by decide)) (up_cell (by decide)) w), rfl⟩
theorem xt_mark (a1 : Int32) (h : PH) (i : Inv h) (n : Nat) (hn : n ≤ 5) (en : h 22 3 = nI n) : mX_mark a1 h = if a1 = -1 then some (0, up h 22 3 0) else if (1 ≤ a1 ∧ a1 ≤ 60) ∧ n < 5 then some (nI (n + 1), up (up h 23 n a1) 22 3 (nI (n + 1))) else some (-1, h) := by
  have z01 : ¬ (1 : Int32) = 0 := by decide
  unfold mX_mark
  by_cases c1 : a1 = -1
  · rw [if_pos c1, jn1_e, if_pos c1]
    dsimp only
    rw [within_eq, bd_e, tell_no z01, bd2_e]
  · rw [if_neg c1, jn1_e, if_neg c1]
    dsimp only
    by_cases f1 : 1 ≤ a1 ∧ a1 ≤ 60
    · rw [within_y f1, bd_e]
      by_cases c3 : n < 5
      · rw [if_pos ⟨f1, c3⟩, tell_1 (m := 5) rfl rfl (by decide) i rfl z01 n en c3, bd2_e]
      · rw [if_neg (fun q => c3 q.2), tell_full (m := 5) (w := 1) rfl (by decide) (by decide) i rfl z01 (by rw [en]; congr 1; omega), bd2_e]
    · rw [if_neg (fun q => f1 q.1), within_n f1, bd_e, tell_un rfl rfl, bd2_e]
theorem mt_mark (a1 : Int32) (h : PH) (n : Nat) (hn : n ≤ 5) (en : h 104 49 = nI n) : mm_mark a1 h = if a1 = -1 then some (0, up (up h 104 0 0) 104 49 0) else if (1 ≤ a1 ∧ a1 ≤ 60) ∧ n < 5 then some (nI (n + 1), up (up (up h 104 0 0) 132 n a1) 104 49 (nI (n + 1))) else some (-1, up h 104 0 0) := by
  have z01 : ¬ (1 : Int32) = 0 := by decide
  have k : up h 104 0 0 104 49 = nI n := by rw [up_oj (by decide)]; exact en
  unfold mm_mark
  rw [lt_e]
  by_cases c1 : a1 = -1
  · rw [if_pos c1, if_pos c1, lt_e]
  · rw [if_neg c1, if_neg c1]
    by_cases f1 : 1 ≤ a1 ∧ a1 ≤ 60
    · rw [isIn_y f1, bd_e, if_neg z01]
      by_cases c3 : n < 5
      · have nM : ¬ nI n = 5 := fun q => by
          have : (nI n).toInt = 5 := by rw [q]; rfl
          rw [nI_toInt (by omega)] at this
          omega
        have ixn : ix (nI n) = n := nI_clamp (by omega)
        rw [k, if_neg nM, ck_nI (by omega) (by decide), lt_e, ixn, lt_e, if_pos ⟨f1, c3⟩]
        rw [show up (up h 104 0 0) 132 n a1 104 49 = nI n by rw [up_oc (by decide)]; exact k, nI_1, up_same]
      · have eM : nI n = 5 := by rw [show n = 5 by omega]; rfl
        rw [k, if_pos eM, if_neg (fun q => c3 q.2)]
    · rw [isIn_n f1, bd_e, if_pos rfl, if_neg (fun q => f1 q.1)]
theorem rla_but_mark {h g : PH} (hc : ∀ b, b < 104 → b ≠ 22 → b ≠ 23 → g b = h b) (h4 : ∀ j, j ≠ 0 → j ≠ 49 → g 104 j = h 104 j) (hm : ∀ b, 104 < b → b < 1000 → b ≠ 132 → g b = h b) (own : LS_mark h → LS_mark g) (rl : RLA h) : RLA g := by
  obtain ⟨q, qi, qf, qt⟩ := rl
  refine ⟨⟨ls_fr_piece (hc 18 (by decide) (by decide) (by decide)) (hc 19 (by decide) (by decide) (by decide)) (h4 42 (by decide) (by decide)) (hm 127 (by decide) (by decide) (by decide)) q.1, ls_fr_dough (hc 20 (by decide) (by decide) (by decide)) (hc 21 (by decide) (by decide) (by decide)) (h4 45 (by decide) (by decide)) (hm 129 (by decide) (by decide) (by decide)) q.2.1, own q.2.2.1, ls_fr_bite (hc 24 (by decide) (by decide) (by decide)) (hc 25 (by decide) (by decide) (by decide)) (h4 51 (by decide) (by decide)) (hm 133 (by decide) (by decide) (by decide)) (hm 134 (by decide) (by decide) (by decide)) q.2.2.2.1, ls_fr_crumb (hc 26 (by decide) (by decide) (by decide)) (hc 27 (by decide) (by decide) (by decide)) (h4 54 (by decide) (by decide)) (hm 135 (by decide) (by decide) (by decide)) q.2.2.2.2.1, ls_fr_loaf (hc 28 (by decide) (by decide) (by decide)) (hc 29 (by decide) (by decide) (by decide)) (h4 57 (by decide) (by decide)) (hm 137 (by decide) (by decide) (by decide)) (hm 138 (by decide) (by decide) (by decide)) q.2.2.2.2.2.1, ls_fr_heir (hc 30 (by decide) (by decide) (by decide)) (hc 31 (by decide) (by decide) (by decide)) (h4 62 (by decide) (by decide)) (hm 141 (by decide) (by decide) (by decide)) q.2.2.2.2.2.2.1, ls_fr_member (hc 32 (by decide) (by decide) (by decide)) (hc 33 (by decide) (by decide) (by decide)) (h4 66 (by decide) (by decide)) (hm 144 (by decide) (by decide) (by decide)) (hm 145 (by decide) (by decide) (by decide)) q.2.2.2.2.2.2.2⟩, fun z => lia_fr (fun b h1 h2 => hc b (by omega) (by omega) (by omega)) (hm 148 (by decide) (by decide) (by decide)) (qi (by rw [h4 72 (by decide) (by decide)] at z; exact z)), by rw [hc 0 (by decide) (by decide) (by decide), h4 72 (by decide) (by decide)]; exact qf, by rw [hc 85 (by decide) (by decide) (by decide), h4 11 (by decide) (by decide)]; exact qt⟩
theorem rl_mark (a1 : Int32) (h : PH) (i : IM h) (gi : GI h) (rl : RLA h) : ∃ rX h1 rm h2, mX_mark a1 h = some (rX, h1) ∧ mm_mark a1 h1 = some (rm, h2) ∧ CS h h1 h2 ∧ RLA h2 ∧ rX = rm := by
  obtain ⟨rX, h1, rm, h2, e1, e2, cs⟩ := cs_mark a1 h i gi
  refine ⟨rX, h1, rm, h2, e1, e2, cs, ?_⟩
  obtain ⟨n, n1, n2, en⟩ := nat_of (show R 0 5 (h 22 3) from inv_rng i.1 rfl) (by decide)
  have own : LS_mark h := rl.1.2.2.1
  have em : h1 104 49 = nI n := by rw [cs.2.2.2.1 104 (by decide), ← own.1]; exact en
  have f1 : Fr [22, 23] h1 h := fun b hb => fpX_mark a1 h e1 b (fun q => hb (by revert q; simp [FPdX_mark]; try omega))
  have f2 : Fk [1000, 1049, 132] h2 h1 := fun b j hb => fkm_mark a1 h1 e2 b j (fun q => hb (by revert q; simp [FKdm_mark]; try omega))
  have but : (LS_mark h → LS_mark h2) → RLA h2 := fun w => rla_but_mark (fun b h1 h2 h3 => by
      rw [← f1 b (by simp; omega)]
      funext j
      exact f2 b j (by unfold kk; rw [if_neg (by omega)]; simp; omega)) (fun j j1 j2 => by
      rw [← f1 104 (by decide)]
      exact f2 104 j (by unfold kk; rw [if_pos rfl]; simp; omega)) (fun b hb hb2 w0 => by
      rw [← f1 b (by simp; omega)]
      funext j
      exact f2 b j (by unfold kk; rw [if_neg (by omega)]; simp; omega)) w rl
  rw [xt_mark a1 h i.1 n (by omega) en] at e1
  by_cases c1 : a1 = -1
  · rw [if_pos c1] at e1
    cases e1
    rw [mt_mark a1 _ n (by omega) em, if_pos c1] at e2
    cases e2
    refine ⟨but (fun _ => ?_), rfl⟩
    unfold LS_mark
    rw [cs.2.2.2.2 22 (by decide), up_same, up_same]
    exact w1_0
  · rw [if_neg c1] at e1
    rw [mt_mark a1 _ n (by omega) em, if_neg c1] at e2
    by_cases c2 : (1 ≤ a1 ∧ a1 ≤ 60) ∧ n < 5
    · rw [if_pos c2] at e1 e2
      cases e1
      cases e2
      refine ⟨but (fun w => ?_), rfl⟩
      have s0 := cs.2.2.2.2 22 (by decide)
      have s1 := cs.2.2.2.2 23 (by decide)
      unfold LS_mark at w ⊢
      rw [← w.1, en] at w
      rw [s0, s1, up_same]
      rw [up_same]
      refine w1_add w (by omega) (rng_of rfl rfl c2.1) ?_ (fun k hk => ?_) ?_ (fun k hk => ?_)
      · rw [up_oc (by decide), up_same]
      · rw [up_oc (by decide), up_oj (by omega)]
      · rw [up_oc (by decide), up_same]
      · rw [up_oc (by decide), up_oj (by omega), up_oc (by decide), up_oc (by decide), up_oc (by decide)]
    · rw [if_neg c2] at e1 e2
      cases e1
      cases e2
      exact ⟨but (fun w => ls_fr_mark (up_cell (by decide)) (up_cell (by decide)) (up_oj (by decide)) (up_cell (by decide)) w), rfl⟩
theorem xt_bite (a1 a2 : Int32) (h : PH) (i : Inv h) (n : Nat) (hn : n ≤ 8) (en : h 24 3 = nI n) : mX_bite a1 a2 h = if a1 = -1 then some (0, up h 24 3 0) else if ((0 ≤ a1 ∧ a1 ≤ 255) ∧ (0 ≤ a2 ∧ a2 ≤ 9)) ∧ n < 8 then some (nI (n + 1), up (up (up h 25 (2 * n) a1) 25 (2 * n + 1) a2) 24 3 (nI (n + 1))) else some (-1, h) := by
  have z01 : ¬ (1 : Int32) = 0 := by decide
  unfold mX_bite
  by_cases c1 : a1 = -1
  · have nf : ¬ (0 ≤ a1 ∧ a1 ≤ 255) := by rw [c1]; decide
    rw [if_pos c1, jn1_e, if_pos c1]
    dsimp only
    rw [within_n nf, bd_e, jn1_e, if_pos rfl]
    dsimp only
    rw [tell_no z01, bd2_e]
  · rw [if_neg c1, jn1_e, if_neg c1]
    dsimp only
    by_cases f1 : 0 ≤ a1 ∧ a1 ≤ 255
    · by_cases f2 : 0 ≤ a2 ∧ a2 ≤ 9
      · rw [within_y f1, bd_e, jn1_e, if_neg z01, within_y f2, bd_e, if_neg z01]
        dsimp only
        by_cases c3 : n < 8
        · rw [if_pos ⟨⟨f1, f2⟩, c3⟩, tell_2 (m := 8) rfl rfl (by decide) i rfl z01 n en c3, bd2_e]
        · rw [if_neg (fun q => c3 q.2), tell_full (m := 8) (w := 2) rfl (by decide) (by decide) i rfl z01 (by rw [en]; congr 1; omega), bd2_e]
      · rw [if_neg (fun q => f2 q.1.2), within_y f1, bd_e, jn1_e, if_neg z01, within_n f2, bd_e, if_pos rfl]
        dsimp only
        rw [tell_un rfl rfl, bd2_e]
    · rw [if_neg (fun q => f1 q.1.1), within_n f1, bd_e, jn1_e, if_pos rfl]
      dsimp only
      rw [tell_un rfl rfl, bd2_e]
theorem mt_bite (a1 a2 : Int32) (h : PH) (n : Nat) (hn : n ≤ 8) (en : h 104 51 = nI n) : mm_bite a1 a2 h = if a1 = -1 then some (0, up (up h 104 0 0) 104 51 0) else if ((0 ≤ a1 ∧ a1 ≤ 255) ∧ (0 ≤ a2 ∧ a2 ≤ 9)) ∧ n < 8 then some (nI (n + 1), up (up (up (up h 104 0 0) 133 n a1) 134 n a2) 104 51 (nI (n + 1))) else some (-1, up h 104 0 0) := by
  have z01 : ¬ (1 : Int32) = 0 := by decide
  have k : up h 104 0 0 104 51 = nI n := by rw [up_oj (by decide)]; exact en
  unfold mm_bite
  rw [lt_e]
  by_cases c1 : a1 = -1
  · rw [if_pos c1, if_pos c1, lt_e]
  · rw [if_neg c1, if_neg c1]
    by_cases f1 : 0 ≤ a1 ∧ a1 ≤ 255
    · rw [isIn_y f1, bd_e, if_neg z01]
      by_cases f2 : 0 ≤ a2 ∧ a2 ≤ 9
      · rw [isIn_y f2, bd_e, if_neg z01]
        by_cases c3 : n < 8
        · have nM : ¬ nI n = 8 := fun q => by
            have : (nI n).toInt = 8 := by rw [q]; rfl
            rw [nI_toInt (by omega)] at this
            omega
          have ixn : ix (nI n) = n := nI_clamp (by omega)
          rw [k, if_neg nM, ck_nI (by omega) (by decide), lt_e, ixn, up_oc (by decide), k, ck_nI (by omega) (by decide), lt_e, ixn, lt_e, if_pos ⟨⟨f1, f2⟩, c3⟩]
          rw [show up (up (up h 104 0 0) 133 n a1) 134 n a2 104 51 = nI n by rw [up_oc (by decide), up_oc (by decide)]; exact k, nI_1, up_same]
        · have eM : nI n = 8 := by rw [show n = 8 by omega]; rfl
          rw [k, if_pos eM, if_neg (fun q => c3 q.2)]
      · rw [isIn_n f2, bd_e, if_pos rfl, if_neg (fun q => f2 q.1.2)]
    · rw [isIn_n f1, bd_e, if_pos rfl, if_neg (fun q => f1 q.1.1)]
theorem rla_but_bite {h g : PH} (hc : ∀ b, b < 104 → b ≠ 24 → b ≠ 25 → g b = h b) (h4 : ∀ j, j ≠ 0 → j ≠ 51 → g 104 j = h 104 j) (hm : ∀ b, 104 < b → b < 1000 → b ≠ 133 → b ≠ 134 → g b = h b) (own : LS_bite h → LS_bite g) (rl : RLA h) : RLA g := by
  obtain ⟨q, qi, qf, qt⟩ := rl
  refine ⟨⟨ls_fr_piece (hc 18 (by decide) (by decide) (by decide)) (hc 19 (by decide) (by decide) (by decide)) (h4 42 (by decide) (by decide)) (hm 127 (by decide) (by decide) (by decide) (by decide)) q.1, ls_fr_dough (hc 20 (by decide) (by decide) (by decide)) (hc 21 (by decide) (by decide) (by decide)) (h4 45 (by decide) (by decide)) (hm 129 (by decide) (by decide) (by decide) (by decide)) q.2.1, ls_fr_mark (hc 22 (by decide) (by decide) (by decide)) (hc 23 (by decide) (by decide) (by decide)) (h4 49 (by decide) (by decide)) (hm 132 (by decide) (by decide) (by decide) (by decide)) q.2.2.1, own q.2.2.2.1, ls_fr_crumb (hc 26 (by decide) (by decide) (by decide)) (hc 27 (by decide) (by decide) (by decide)) (h4 54 (by decide) (by decide)) (hm 135 (by decide) (by decide) (by decide) (by decide)) q.2.2.2.2.1, ls_fr_loaf (hc 28 (by decide) (by decide) (by decide)) (hc 29 (by decide) (by decide) (by decide)) (h4 57 (by decide) (by decide)) (hm 137 (by decide) (by decide) (by decide) (by decide)) (hm 138 (by decide) (by decide) (by decide) (by decide)) q.2.2.2.2.2.1, ls_fr_heir (hc 30 (by decide) (by decide) (by decide)) (hc 31 (by decide) (by decide) (by decide)) (h4 62 (by decide) (by decide)) (hm 141 (by decide) (by decide) (by decide) (by decide)) q.2.2.2.2.2.2.1, ls_fr_member (hc 32 (by decide) (by decide) (by decide)) (hc 33 (by decide) (by decide) (by decide)) (h4 66 (by decide) (by decide)) (hm 144 (by decide) (by decide) (by decide) (by decide)) (hm 145 (by decide) (by decide) (by decide) (by decide)) q.2.2.2.2.2.2.2⟩, fun z => lia_fr (fun b h1 h2 => hc b (by omega) (by omega) (by omega)) (hm 148 (by decide) (by decide) (by decide) (by decide)) (qi (by rw [h4 72 (by decide) (by decide)] at z; exact z)), by rw [hc 0 (by decide) (by decide) (by decide), h4 72 (by decide) (by decide)]; exact qf, by rw [hc 85 (by decide) (by decide) (by decide), h4 11 (by decide) (by decide)]; exact qt⟩
theorem rl_bite (a1 a2 : Int32) (h : PH) (i : IM h) (gi : GI h) (rl : RLA h) : ∃ rX h1 rm h2, mX_bite a1 a2 h = some (rX, h1) ∧ mm_bite a1 a2 h1 = some (rm, h2) ∧ CS h h1 h2 ∧ RLA h2 ∧ rX = rm := by
  obtain ⟨rX, h1, rm, h2, e1, e2, cs⟩ := cs_bite a1 a2 h i gi
  refine ⟨rX, h1, rm, h2, e1, e2, cs, ?_⟩
  obtain ⟨n, n1, n2, en⟩ := nat_of (show R 0 8 (h 24 3) from inv_rng i.1 rfl) (by decide)
  have own : LS_bite h := rl.1.2.2.2.1
  have em : h1 104 51 = nI n := by rw [cs.2.2.2.1 104 (by decide), ← own.1]; exact en
  have f1 : Fr [24, 25] h1 h := fun b hb => fpX_bite a1 a2 h e1 b (fun q => hb (by revert q; simp [FPdX_bite]; try omega))
  have f2 : Fk [1000, 1051, 133, 134] h2 h1 := fun b j hb => fkm_bite a1 a2 h1 e2 b j (fun q => hb (by revert q; simp [FKdm_bite]; try omega))
  have but : (LS_bite h → LS_bite h2) → RLA h2 := fun w => rla_but_bite (fun b h1 h2 h3 => by
      rw [← f1 b (by simp; omega)]
      funext j
      exact f2 b j (by unfold kk; rw [if_neg (by omega)]; simp; omega)) (fun j j1 j2 => by
      rw [← f1 104 (by decide)]
      exact f2 104 j (by unfold kk; rw [if_pos rfl]; simp; omega)) (fun b hb hb2 w0 w1 => by
      rw [← f1 b (by simp; omega)]
      funext j
      exact f2 b j (by unfold kk; rw [if_neg (by omega)]; simp; omega)) w rl
  rw [xt_bite a1 a2 h i.1 n (by omega) en] at e1
  by_cases c1 : a1 = -1
  · rw [if_pos c1] at e1
    cases e1
    rw [mt_bite a1 a2 _ n (by omega) em, if_pos c1] at e2
    cases e2
    refine ⟨but (fun _ => ?_), rfl⟩
    unfold LS_bite
    rw [cs.2.2.2.2 24 (by decide), up_same, up_same]
    exact w2_0
  · rw [if_neg c1] at e1
    rw [mt_bite a1 a2 _ n (by omega) em, if_neg c1] at e2
    by_cases c2 : ((0 ≤ a1 ∧ a1 ≤ 255) ∧ (0 ≤ a2 ∧ a2 ≤ 9)) ∧ n < 8
    · rw [if_pos c2] at e1 e2
      cases e1
      cases e2
      refine ⟨but (fun w => ?_), rfl⟩
      have s0 := cs.2.2.2.2 24 (by decide)
      have s1 := cs.2.2.2.2 25 (by decide)
      unfold LS_bite at w ⊢
      rw [← w.1, en] at w
      rw [s0, s1, up_same]
      rw [up_same]
      refine w2_add w (by omega) (rng_of rfl rfl c2.1.1) (rng_of rfl rfl c2.1.2) ?_ ?_ (fun k hk => ?_) ?_ (fun k hk => ?_) ?_ (fun k hk => ?_)
      · rw [up_oc (by decide), up_oj (by omega), up_same]
      · rw [up_oc (by decide), up_same]
      · rw [up_oc (by decide), up_oj (by omega), up_oj (by omega)]
      · rw [up_oc (by decide), up_oc (by decide), up_same]
      · rw [up_oc (by decide), up_oc (by decide), up_oj (by omega), up_oc (by decide), up_oc (by decide), up_oc (by decide), up_oc (by decide)]
      · rw [up_oc (by decide), up_same]
      · rw [up_oc (by decide), up_oj (by omega), up_oc (by decide), up_oc (by decide), up_oc (by decide), up_oc (by decide), up_oc (by decide)]
    · rw [if_neg c2] at e1 e2
      cases e1
      cases e2
      exact ⟨but (fun w => ls_fr_bite (up_cell (by decide)) (up_cell (by decide)) (up_oj (by decide)) (up_cell (by decide)) (up_cell (by decide)) w), rfl⟩
theorem xt_crumb (a1 : Int32) (h : PH) (i : Inv h) (n : Nat) (hn : n ≤ 16) (en : h 26 3 = nI n) : mX_crumb a1 h = if a1 = -1 then some (0, up h 26 3 0) else if (0 ≤ a1 ∧ a1 ≤ 3) ∧ n < 16 then some (nI (n + 1), up (up h 27 n a1) 26 3 (nI (n + 1))) else some (-1, h) := by
  have z01 : ¬ (1 : Int32) = 0 := by decide
  unfold mX_crumb
  by_cases c1 : a1 = -1
  · rw [if_pos c1, jn1_e, if_pos c1]
    dsimp only
    rw [within_eq, bd_e, tell_no z01, bd2_e]
  · rw [if_neg c1, jn1_e, if_neg c1]
    dsimp only
    by_cases f1 : 0 ≤ a1 ∧ a1 ≤ 3
    · rw [within_y f1, bd_e]
      by_cases c3 : n < 16
      · rw [if_pos ⟨f1, c3⟩, tell_1 (m := 16) rfl rfl (by decide) i rfl z01 n en c3, bd2_e]
      · rw [if_neg (fun q => c3 q.2), tell_full (m := 16) (w := 1) rfl (by decide) (by decide) i rfl z01 (by rw [en]; congr 1; omega), bd2_e]
    · rw [if_neg (fun q => f1 q.1), within_n f1, bd_e, tell_un rfl rfl, bd2_e]
theorem mt_crumb (a1 : Int32) (h : PH) (n : Nat) (hn : n ≤ 16) (en : h 104 54 = nI n) : mm_crumb a1 h = if a1 = -1 then some (0, up (up h 104 0 0) 104 54 0) else if (0 ≤ a1 ∧ a1 ≤ 3) ∧ n < 16 then some (nI (n + 1), up (up (up h 104 0 0) 135 n a1) 104 54 (nI (n + 1))) else some (-1, up h 104 0 0) := by
  have z01 : ¬ (1 : Int32) = 0 := by decide
  have k : up h 104 0 0 104 54 = nI n := by rw [up_oj (by decide)]; exact en
  unfold mm_crumb
  rw [lt_e]
  by_cases c1 : a1 = -1
  · rw [if_pos c1, if_pos c1, lt_e]
  · rw [if_neg c1, if_neg c1]
    by_cases f1 : 0 ≤ a1 ∧ a1 ≤ 3
    · rw [isIn_y f1, bd_e, if_neg z01]
      by_cases c3 : n < 16
      · have nM : ¬ nI n = 16 := fun q => by
          have : (nI n).toInt = 16 := by rw [q]; rfl
          rw [nI_toInt (by omega)] at this
          omega
        have ixn : ix (nI n) = n := nI_clamp (by omega)
        rw [k, if_neg nM, ck_nI (by omega) (by decide), lt_e, ixn, lt_e, if_pos ⟨f1, c3⟩]
        rw [show up (up h 104 0 0) 135 n a1 104 54 = nI n by rw [up_oc (by decide)]; exact k, nI_1, up_same]
      · have eM : nI n = 16 := by rw [show n = 16 by omega]; rfl
        rw [k, if_pos eM, if_neg (fun q => c3 q.2)]
    · rw [isIn_n f1, bd_e, if_pos rfl, if_neg (fun q => f1 q.1)]
theorem rla_but_crumb {h g : PH} (hc : ∀ b, b < 104 → b ≠ 26 → b ≠ 27 → g b = h b) (h4 : ∀ j, j ≠ 0 → j ≠ 54 → g 104 j = h 104 j) (hm : ∀ b, 104 < b → b < 1000 → b ≠ 135 → g b = h b) (own : LS_crumb h → LS_crumb g) (rl : RLA h) : RLA g := by
  obtain ⟨q, qi, qf, qt⟩ := rl
  refine ⟨⟨ls_fr_piece (hc 18 (by decide) (by decide) (by decide)) (hc 19 (by decide) (by decide) (by decide)) (h4 42 (by decide) (by decide)) (hm 127 (by decide) (by decide) (by decide)) q.1, ls_fr_dough (hc 20 (by decide) (by decide) (by decide)) (hc 21 (by decide) (by decide) (by decide)) (h4 45 (by decide) (by decide)) (hm 129 (by decide) (by decide) (by decide)) q.2.1, ls_fr_mark (hc 22 (by decide) (by decide) (by decide)) (hc 23 (by decide) (by decide) (by decide)) (h4 49 (by decide) (by decide)) (hm 132 (by decide) (by decide) (by decide)) q.2.2.1, ls_fr_bite (hc 24 (by decide) (by decide) (by decide)) (hc 25 (by decide) (by decide) (by decide)) (h4 51 (by decide) (by decide)) (hm 133 (by decide) (by decide) (by decide)) (hm 134 (by decide) (by decide) (by decide)) q.2.2.2.1, own q.2.2.2.2.1, ls_fr_loaf (hc 28 (by decide) (by decide) (by decide)) (hc 29 (by decide) (by decide) (by decide)) (h4 57 (by decide) (by decide)) (hm 137 (by decide) (by decide) (by decide)) (hm 138 (by decide) (by decide) (by decide)) q.2.2.2.2.2.1, ls_fr_heir (hc 30 (by decide) (by decide) (by decide)) (hc 31 (by decide) (by decide) (by decide)) (h4 62 (by decide) (by decide)) (hm 141 (by decide) (by decide) (by decide)) q.2.2.2.2.2.2.1, ls_fr_member (hc 32 (by decide) (by decide) (by decide)) (hc 33 (by decide) (by decide) (by decide)) (h4 66 (by decide) (by decide)) (hm 144 (by decide) (by decide) (by decide)) (hm 145 (by decide) (by decide) (by decide)) q.2.2.2.2.2.2.2⟩, fun z => lia_fr (fun b h1 h2 => hc b (by omega) (by omega) (by omega)) (hm 148 (by decide) (by decide) (by decide)) (qi (by rw [h4 72 (by decide) (by decide)] at z; exact z)), by rw [hc 0 (by decide) (by decide) (by decide), h4 72 (by decide) (by decide)]; exact qf, by rw [hc 85 (by decide) (by decide) (by decide), h4 11 (by decide) (by decide)]; exact qt⟩
theorem rl_crumb (a1 : Int32) (h : PH) (i : IM h) (gi : GI h) (rl : RLA h) : ∃ rX h1 rm h2, mX_crumb a1 h = some (rX, h1) ∧ mm_crumb a1 h1 = some (rm, h2) ∧ CS h h1 h2 ∧ RLA h2 ∧ rX = rm := by
  obtain ⟨rX, h1, rm, h2, e1, e2, cs⟩ := cs_crumb a1 h i gi
  refine ⟨rX, h1, rm, h2, e1, e2, cs, ?_⟩
  obtain ⟨n, n1, n2, en⟩ := nat_of (show R 0 16 (h 26 3) from inv_rng i.1 rfl) (by decide)
  have own : LS_crumb h := rl.1.2.2.2.2.1
  have em : h1 104 54 = nI n := by rw [cs.2.2.2.1 104 (by decide), ← own.1]; exact en
  have f1 : Fr [26, 27] h1 h := fun b hb => fpX_crumb a1 h e1 b (fun q => hb (by revert q; simp [FPdX_crumb]; try omega))
  have f2 : Fk [1000, 1054, 135] h2 h1 := fun b j hb => fkm_crumb a1 h1 e2 b j (fun q => hb (by revert q; simp [FKdm_crumb]; try omega))
  have but : (LS_crumb h → LS_crumb h2) → RLA h2 := fun w => rla_but_crumb (fun b h1 h2 h3 => by
      rw [← f1 b (by simp; omega)]
      funext j
      exact f2 b j (by unfold kk; rw [if_neg (by omega)]; simp; omega)) (fun j j1 j2 => by
      rw [← f1 104 (by decide)]
      exact f2 104 j (by unfold kk; rw [if_pos rfl]; simp; omega)) (fun b hb hb2 w0 => by
      rw [← f1 b (by simp; omega)]
      funext j
      exact f2 b j (by unfold kk; rw [if_neg (by omega)]; simp; omega)) w rl
  rw [xt_crumb a1 h i.1 n (by omega) en] at e1
  by_cases c1 : a1 = -1
  · rw [if_pos c1] at e1
    cases e1
    rw [mt_crumb a1 _ n (by omega) em, if_pos c1] at e2
    cases e2
    refine ⟨but (fun _ => ?_), rfl⟩
    unfold LS_crumb
    rw [cs.2.2.2.2 26 (by decide), up_same, up_same]
    exact w1_0
  · rw [if_neg c1] at e1
    rw [mt_crumb a1 _ n (by omega) em, if_neg c1] at e2
    by_cases c2 : (0 ≤ a1 ∧ a1 ≤ 3) ∧ n < 16
    · rw [if_pos c2] at e1 e2
      cases e1
      cases e2
      refine ⟨but (fun w => ?_), rfl⟩
      have s0 := cs.2.2.2.2 26 (by decide)
      have s1 := cs.2.2.2.2 27 (by decide)
      unfold LS_crumb at w ⊢
      rw [← w.1, en] at w
      rw [s0, s1, up_same]
      rw [up_same]
      refine w1_add w (by omega) (rng_of rfl rfl c2.1) ?_ (fun k hk => ?_) ?_ (fun k hk => ?_)
      · rw [up_oc (by decide), up_same]
      · rw [up_oc (by decide), up_oj (by omega)]
      · rw [up_oc (by decide), up_same]
      · rw [up_oc (by decide), up_oj (by omega), up_oc (by decide), up_oc (by decide), up_oc (by decide)]
    · rw [if_neg c2] at e1 e2
      cases e1
      cases e2
      exact ⟨but (fun w => ls_fr_crumb (up_cell (by decide)) (up_cell (by decide)) (up_oj (by decide)) (up_cell (by decide)) w), rfl⟩
theorem xt_loaf (a1 a2 : Int32) (h : PH) (i : Inv h) (n : Nat) (hn : n ≤ 6) (en : h 28 3 = nI n) : mX_loaf a1 a2 h = if a1 = -1 then some (0, up h 28 3 0) else if ((1 ≤ a1 ∧ a1 ≤ 30) ∧ (1 ≤ a2 ∧ a2 ≤ 30)) ∧ n < 6 then some (nI (n + 1), up (up (up h 29 (2 * n) a1) 29 (2 * n + 1) a2) 28 3 (nI (n + 1))) else some (-1, h) := by
  have z01 : ¬ (1 : Int32) = 0 := by decide
  unfold mX_loaf
  by_cases c1 : a1 = -1
  · have nf : ¬ (1 ≤ a1 ∧ a1 ≤ 30) := by rw [c1]; decide
    rw [if_pos c1, jn1_e, if_pos c1]
    dsimp only
    rw [within_n nf, bd_e, jn1_e, if_pos rfl]
    dsimp only
    rw [tell_no z01, bd2_e]
  · rw [if_neg c1, jn1_e, if_neg c1]
    dsimp only
    by_cases f1 : 1 ≤ a1 ∧ a1 ≤ 30
    · by_cases f2 : 1 ≤ a2 ∧ a2 ≤ 30
      · rw [within_y f1, bd_e, jn1_e, if_neg z01, within_y f2, bd_e, if_neg z01]
        dsimp only
        by_cases c3 : n < 6
        · rw [if_pos ⟨⟨f1, f2⟩, c3⟩, tell_2 (m := 6) rfl rfl (by decide) i rfl z01 n en c3, bd2_e]
        · rw [if_neg (fun q => c3 q.2), tell_full (m := 6) (w := 2) rfl (by decide) (by decide) i rfl z01 (by rw [en]; congr 1; omega), bd2_e]
      · rw [if_neg (fun q => f2 q.1.2), within_y f1, bd_e, jn1_e, if_neg z01, within_n f2, bd_e, if_pos rfl]
        dsimp only
        rw [tell_un rfl rfl, bd2_e]
    · rw [if_neg (fun q => f1 q.1.1), within_n f1, bd_e, jn1_e, if_pos rfl]
      dsimp only
      rw [tell_un rfl rfl, bd2_e]
theorem mt_loaf (a1 a2 : Int32) (h : PH) (n : Nat) (hn : n ≤ 6) (en : h 104 57 = nI n) : mm_loaf a1 a2 h = if a1 = -1 then some (0, up (up h 104 0 0) 104 57 0) else if ((1 ≤ a1 ∧ a1 ≤ 30) ∧ (1 ≤ a2 ∧ a2 ≤ 30)) ∧ n < 6 then some (nI (n + 1), up (up (up (up h 104 0 0) 137 n a1) 138 n a2) 104 57 (nI (n + 1))) else some (-1, up h 104 0 0) := by
  have z01 : ¬ (1 : Int32) = 0 := by decide
  have k : up h 104 0 0 104 57 = nI n := by rw [up_oj (by decide)]; exact en
  unfold mm_loaf
  rw [lt_e]
  by_cases c1 : a1 = -1
  · rw [if_pos c1, if_pos c1, lt_e]
  · rw [if_neg c1, if_neg c1]
    by_cases f1 : 1 ≤ a1 ∧ a1 ≤ 30
    · rw [isIn_y f1, bd_e, if_neg z01]
      by_cases f2 : 1 ≤ a2 ∧ a2 ≤ 30
      · rw [isIn_y f2, bd_e, if_neg z01]
        by_cases c3 : n < 6
        · have nM : ¬ nI n = 6 := fun q => by
            have : (nI n).toInt = 6 := by rw [q]; rfl
            rw [nI_toInt (by omega)] at this
            omega
          have ixn : ix (nI n) = n := nI_clamp (by omega)
          rw [k, if_neg nM, ck_nI (by omega) (by decide), lt_e, ixn, up_oc (by decide), k, ck_nI (by omega) (by decide), lt_e, ixn, lt_e, if_pos ⟨⟨f1, f2⟩, c3⟩]
          rw [show up (up (up h 104 0 0) 137 n a1) 138 n a2 104 57 = nI n by rw [up_oc (by decide), up_oc (by decide)]; exact k, nI_1, up_same]
        · have eM : nI n = 6 := by rw [show n = 6 by omega]; rfl
          rw [k, if_pos eM, if_neg (fun q => c3 q.2)]
      · rw [isIn_n f2, bd_e, if_pos rfl, if_neg (fun q => f2 q.1.2)]
    · rw [isIn_n f1, bd_e, if_pos rfl, if_neg (fun q => f1 q.1.1)]
theorem rla_but_loaf {h g : PH} (hc : ∀ b, b < 104 → b ≠ 28 → b ≠ 29 → g b = h b) (h4 : ∀ j, j ≠ 0 → j ≠ 57 → g 104 j = h 104 j) (hm : ∀ b, 104 < b → b < 1000 → b ≠ 137 → b ≠ 138 → g b = h b) (own : LS_loaf h → LS_loaf g) (rl : RLA h) : RLA g := by
  obtain ⟨q, qi, qf, qt⟩ := rl
  refine ⟨⟨ls_fr_piece (hc 18 (by decide) (by decide) (by decide)) (hc 19 (by decide) (by decide) (by decide)) (h4 42 (by decide) (by decide)) (hm 127 (by decide) (by decide) (by decide) (by decide)) q.1, ls_fr_dough (hc 20 (by decide) (by decide) (by decide)) (hc 21 (by decide) (by decide) (by decide)) (h4 45 (by decide) (by decide)) (hm 129 (by decide) (by decide) (by decide) (by decide)) q.2.1, ls_fr_mark (hc 22 (by decide) (by decide) (by decide)) (hc 23 (by decide) (by decide) (by decide)) (h4 49 (by decide) (by decide)) (hm 132 (by decide) (by decide) (by decide) (by decide)) q.2.2.1, ls_fr_bite (hc 24 (by decide) (by decide) (by decide)) (hc 25 (by decide) (by decide) (by decide)) (h4 51 (by decide) (by decide)) (hm 133 (by decide) (by decide) (by decide) (by decide)) (hm 134 (by decide) (by decide) (by decide) (by decide)) q.2.2.2.1, ls_fr_crumb (hc 26 (by decide) (by decide) (by decide)) (hc 27 (by decide) (by decide) (by decide)) (h4 54 (by decide) (by decide)) (hm 135 (by decide) (by decide) (by decide) (by decide)) q.2.2.2.2.1, own q.2.2.2.2.2.1, ls_fr_heir (hc 30 (by decide) (by decide) (by decide)) (hc 31 (by decide) (by decide) (by decide)) (h4 62 (by decide) (by decide)) (hm 141 (by decide) (by decide) (by decide) (by decide)) q.2.2.2.2.2.2.1, ls_fr_member (hc 32 (by decide) (by decide) (by decide)) (hc 33 (by decide) (by decide) (by decide)) (h4 66 (by decide) (by decide)) (hm 144 (by decide) (by decide) (by decide) (by decide)) (hm 145 (by decide) (by decide) (by decide) (by decide)) q.2.2.2.2.2.2.2⟩, fun z => lia_fr (fun b h1 h2 => hc b (by omega) (by omega) (by omega)) (hm 148 (by decide) (by decide) (by decide) (by decide)) (qi (by rw [h4 72 (by decide) (by decide)] at z; exact z)), by rw [hc 0 (by decide) (by decide) (by decide), h4 72 (by decide) (by decide)]; exact qf, by rw [hc 85 (by decide) (by decide) (by decide), h4 11 (by decide) (by decide)]; exact qt⟩
theorem rl_loaf (a1 a2 : Int32) (h : PH) (i : IM h) (gi : GI h) (rl : RLA h) : ∃ rX h1 rm h2, mX_loaf a1 a2 h = some (rX, h1) ∧ mm_loaf a1 a2 h1 = some (rm, h2) ∧ CS h h1 h2 ∧ RLA h2 ∧ rX = rm := by
  obtain ⟨rX, h1, rm, h2, e1, e2, cs⟩ := cs_loaf a1 a2 h i gi
  refine ⟨rX, h1, rm, h2, e1, e2, cs, ?_⟩
  obtain ⟨n, n1, n2, en⟩ := nat_of (show R 0 6 (h 28 3) from inv_rng i.1 rfl) (by decide)
  have own : LS_loaf h := rl.1.2.2.2.2.2.1
  have em : h1 104 57 = nI n := by rw [cs.2.2.2.1 104 (by decide), ← own.1]; exact en
  have f1 : Fr [28, 29] h1 h := fun b hb => fpX_loaf a1 a2 h e1 b (fun q => hb (by revert q; simp [FPdX_loaf]; try omega))
  have f2 : Fk [1000, 1057, 137, 138] h2 h1 := fun b j hb => fkm_loaf a1 a2 h1 e2 b j (fun q => hb (by revert q; simp [FKdm_loaf]; try omega))
  have but : (LS_loaf h → LS_loaf h2) → RLA h2 := fun w => rla_but_loaf (fun b h1 h2 h3 => by
      rw [← f1 b (by simp; omega)]
      funext j
      exact f2 b j (by unfold kk; rw [if_neg (by omega)]; simp; omega)) (fun j j1 j2 => by
      rw [← f1 104 (by decide)]
      exact f2 104 j (by unfold kk; rw [if_pos rfl]; simp; omega)) (fun b hb hb2 w0 w1 => by
      rw [← f1 b (by simp; omega)]
      funext j
      exact f2 b j (by unfold kk; rw [if_neg (by omega)]; simp; omega)) w rl
  rw [xt_loaf a1 a2 h i.1 n (by omega) en] at e1
  by_cases c1 : a1 = -1
  · rw [if_pos c1] at e1
    cases e1
    rw [mt_loaf a1 a2 _ n (by omega) em, if_pos c1] at e2
    cases e2
    refine ⟨but (fun _ => ?_), rfl⟩
    unfold LS_loaf
    rw [cs.2.2.2.2 28 (by decide), up_same, up_same]
    exact w2_0
  · rw [if_neg c1] at e1
    rw [mt_loaf a1 a2 _ n (by omega) em, if_neg c1] at e2
    by_cases c2 : ((1 ≤ a1 ∧ a1 ≤ 30) ∧ (1 ≤ a2 ∧ a2 ≤ 30)) ∧ n < 6
    · rw [if_pos c2] at e1 e2
      cases e1
      cases e2
      refine ⟨but (fun w => ?_), rfl⟩
      have s0 := cs.2.2.2.2 28 (by decide)
      have s1 := cs.2.2.2.2 29 (by decide)
      unfold LS_loaf at w ⊢
      rw [← w.1, en] at w
      rw [s0, s1, up_same]
      rw [up_same]
      refine w2_add w (by omega) (rng_of rfl rfl c2.1.1) (rng_of rfl rfl c2.1.2) ?_ ?_ (fun k hk => ?_) ?_ (fun k hk => ?_) ?_ (fun k hk => ?_)
      · rw [up_oc (by decide), up_oj (by omega), up_same]
      · rw [up_oc (by decide), up_same]
      · rw [up_oc (by decide), up_oj (by omega), up_oj (by omega)]
      · rw [up_oc (by decide), up_oc (by decide), up_same]
      · rw [up_oc (by decide), up_oc (by decide), up_oj (by omega), up_oc (by decide), up_oc (by decide), up_oc (by decide), up_oc (by decide)]
      · rw [up_oc (by decide), up_same]
      · rw [up_oc (by decide), up_oj (by omega), up_oc (by decide), up_oc (by decide), up_oc (by decide), up_oc (by decide), up_oc (by decide)]
    · rw [if_neg c2] at e1 e2
      cases e1
      cases e2
      exact ⟨but (fun w => ls_fr_loaf (up_cell (by decide)) (up_cell (by decide)) (up_oj (by decide)) (up_cell (by decide)) (up_cell (by decide)) w), rfl⟩
theorem xt_heir (a1 a2 : Int32) (h : PH) (i : Inv h) (n : Nat) (hn : n ≤ 12) (en : h 30 3 = nI n) : mX_heir a1 a2 h = if a1 = -1 then some (0, up h 30 3 0) else if (((0 ≤ a1 ∧ a1 ≤ 11) ∧ (0 ≤ a2 ∧ a2 ≤ 11)) ∧ ¬ a1 = a2) ∧ n < 12 then some (nI (n + 1), up (up (up h 31 (2 * n) a1) 31 (2 * n + 1) a2) 30 3 (nI (n + 1))) else some (-1, h) := by
  have z01 : ¬ (1 : Int32) = 0 := by decide
  unfold mX_heir
  by_cases c1 : a1 = -1
  · have nf : ¬ (0 ≤ a1 ∧ a1 ≤ 11) := by rw [c1]; decide
    rw [if_pos c1, within_n nf, bd_e, jn1_e, if_pos rfl]
    dsimp only
    rw [jn1_e, if_pos c1]
    dsimp only
    rw [tell_no z01, bd2_e]
  · rw [if_neg c1]
    have un : Sf (some (0 : Int32)) (fun _ => True) := s_some trivial
    by_cases f1 : 0 ≤ a1 ∧ a1 ≤ 11
    · by_cases f2 : 0 ≤ a2 ∧ a2 ≤ 11
      · by_cases f3 : a1 = a2
        · rw [if_neg (fun q => q.1.2 f3), within_y f1, bd_e, jn1_e, if_neg z01, within_y f2, bd_e, if_neg z01, if_pos f3]
          dsimp only
          rw [jn1_e, if_neg c1]
          dsimp only
          rw [tell_un rfl rfl, bd2_e]
        · rw [within_y f1, bd_e, jn1_e, if_neg z01, within_y f2, bd_e, if_neg z01, if_neg f3]
          dsimp only
          rw [jn1_e, if_neg c1]
          dsimp only
          by_cases c3 : n < 12
          · rw [if_pos ⟨⟨⟨f1, f2⟩, f3⟩, c3⟩, tell_2 (m := 12) rfl rfl (by decide) i rfl z01 n en c3, bd2_e]
          · rw [if_neg (fun q => c3 q.2), tell_full (m := 12) (w := 2) rfl (by decide) (by decide) i rfl z01 (by rw [en]; congr 1; omega), bd2_e]
      · rw [if_neg (fun q => f2 q.1.1.2), within_y f1, bd_e, jn1_e, if_neg z01, within_n f2, bd_e, if_pos rfl]
        dsimp only
        rw [jn1_e, if_neg c1]
        dsimp only
        rw [tell_un rfl rfl, bd2_e]
    · rw [if_neg (fun q => f1 q.1.1.1), within_n f1, bd_e, jn1_e, if_pos rfl]
      dsimp only
      rw [jn1_e, if_neg c1]
      dsimp only
      rw [tell_un rfl rfl, bd2_e]
theorem mt_heir_0 (a2 : Int32) (h : PH) : ∃ g, mm_heir (-1) a2 h = some (0, g) ∧ g 104 62 = 0 ∧ ∀ j, j < 12 → g 141 j = 0 := by
  have e : mm_heir (-1) a2 h = mm_heir_L17 FU 0 (up (up h 104 0 0) 104 62 0) := by
    unfold mm_heir
    rw [lt_e, if_pos rfl, lt_e]
  obtain ⟨g, e2, q⟩ := mh17 FU 0 (up (up h 104 0 0) 104 62 0) (by unfold FU; omega) (by omega) (fun j hj => by omega)
  rw [nI_0] at e2
  refine ⟨g, e.trans e2, ?_, q⟩
  have f := wk_m_heir_L17 [141] (up (up h 104 0 0) 104 62 0) (0, g) (fun b hb => hb) FU 0 _ e2 (fun _ _ _ => rfl)
  have f2 : g 104 62 = up (up h 104 0 0) 104 62 0 104 62 := f 104 62 (by decide)
  rw [f2, up_same]
theorem mt_heir (a1 a2 : Int32) (h : PH) (n : Nat) (hn : n ≤ 12) (en : h 104 62 = nI n) (c1 : ¬ a1 = -1) : mm_heir a1 a2 h = if (((0 ≤ a1 ∧ a1 ≤ 11) ∧ (0 ≤ a2 ∧ a2 ≤ 11)) ∧ ¬ a1 = a2) ∧ n < 12 then some (nI (n + 1), up (if h 141 (ix a1) = 0 then up (up h 104 0 0) 141 (ix a1) (a2 + 1) else up h 104 0 0) 104 62 (nI (n + 1))) else some (-1, up h 104 0 0) := by
  have z01 : ¬ (1 : Int32) = 0 := by decide
  have k : up h 104 0 0 104 62 = nI n := by rw [up_oj (by decide)]; exact en
  unfold mm_heir
  rw [lt_e, if_neg c1]
  by_cases f1 : 0 ≤ a1 ∧ a1 ≤ 11
  · rw [isIn_y f1, bd_e, if_neg z01]
    by_cases f2 : 0 ≤ a2 ∧ a2 ≤ 11
    · rw [isIn_y f2, bd_e, if_neg z01]
      by_cases f3 : a1 = a2
      · rw [if_pos f3, if_neg (fun q => q.1.2 f3)]
      · rw [if_neg f3, k]
        by_cases c3 : n < 12
        · have n12 : ¬ nI n = 12 := fun q => by
            have : (nI n).toInt = 12 := by rw [q]; rfl
            rw [nI_toInt (by omega)] at this
            omega
          have cka : ∀ {ρ : Type} (q : Option ρ), ck a1 12 q = q := fun q => by
            obtain ⟨m, m1, m2, rfl⟩ := nat_of (rng_of (x := 0) (y := 11) rfl rfl f1) (by decide)
            exact ck_nI (by omega) (by decide)
          have big : (((0 ≤ a1 ∧ a1 ≤ 11) ∧ (0 ≤ a2 ∧ a2 ≤ 11)) ∧ ¬ a1 = a2) ∧ n < 12 := ⟨⟨⟨f1, f2⟩, f3⟩, c3⟩
          have k141 : up h 104 0 0 141 (ix a1) = h 141 (ix a1) := up_oc (by decide)
          rw [if_neg n12, cka, jn1_e, if_pos big, k141]
          by_cases c4 : h 141 (ix a1) = 0
          · rw [if_pos c4, if_pos c4, cka, lt_e]
            dsimp only
            have k62 : up (up h 104 0 0) 141 (ix a1) (a2 + 1) 104 62 = nI n := by rw [up_oc (by decide)]; exact k
            rw [lt_e, k62, nI_1, up_same]
          · rw [if_neg c4, if_neg c4]
            dsimp only
            rw [lt_e, k, nI_1, up_same]
        · have e12 : nI n = 12 := by rw [show n = 12 by omega]; rfl
          rw [if_pos e12, if_neg (fun q => c3 q.2)]
    · rw [isIn_n f2, bd_e, if_pos rfl, if_neg (fun q => f2 q.1.1.2)]
  · rw [isIn_n f1, bd_e, if_pos rfl, if_neg (fun q => f1 q.1.1.1)]
theorem rla_but_heir {h g : PH} (hc : ∀ b, b < 104 → b ≠ 30 → b ≠ 31 → g b = h b) (h4 : ∀ j, j ≠ 0 → j ≠ 62 → g 104 j = h 104 j) (hm : ∀ b, 104 < b → b < 1000 → b ≠ 141 → g b = h b) (own : LS_heir h → LS_heir g) (rl : RLA h) : RLA g := by
  obtain ⟨q, qi, qf, qt⟩ := rl
  refine ⟨⟨ls_fr_piece (hc 18 (by decide) (by decide) (by decide)) (hc 19 (by decide) (by decide) (by decide)) (h4 42 (by decide) (by decide)) (hm 127 (by decide) (by decide) (by decide)) q.1, ls_fr_dough (hc 20 (by decide) (by decide) (by decide)) (hc 21 (by decide) (by decide) (by decide)) (h4 45 (by decide) (by decide)) (hm 129 (by decide) (by decide) (by decide)) q.2.1, ls_fr_mark (hc 22 (by decide) (by decide) (by decide)) (hc 23 (by decide) (by decide) (by decide)) (h4 49 (by decide) (by decide)) (hm 132 (by decide) (by decide) (by decide)) q.2.2.1, ls_fr_bite (hc 24 (by decide) (by decide) (by decide)) (hc 25 (by decide) (by decide) (by decide)) (h4 51 (by decide) (by decide)) (hm 133 (by decide) (by decide) (by decide)) (hm 134 (by decide) (by decide) (by decide)) q.2.2.2.1, ls_fr_crumb (hc 26 (by decide) (by decide) (by decide)) (hc 27 (by decide) (by decide) (by decide)) (h4 54 (by decide) (by decide)) (hm 135 (by decide) (by decide) (by decide)) q.2.2.2.2.1, ls_fr_loaf (hc 28 (by decide) (by decide) (by decide)) (hc 29 (by decide) (by decide) (by decide)) (h4 57 (by decide) (by decide)) (hm 137 (by decide) (by decide) (by decide)) (hm 138 (by decide) (by decide) (by decide)) q.2.2.2.2.2.1, own q.2.2.2.2.2.2.1, ls_fr_member (hc 32 (by decide) (by decide) (by decide)) (hc 33 (by decide) (by decide) (by decide)) (h4 66 (by decide) (by decide)) (hm 144 (by decide) (by decide) (by decide)) (hm 145 (by decide) (by decide) (by decide)) q.2.2.2.2.2.2.2⟩, fun z => lia_fr (fun b h1 h2 => hc b (by omega) (by omega) (by omega)) (hm 148 (by decide) (by decide) (by decide)) (qi (by rw [h4 72 (by decide) (by decide)] at z; exact z)), by rw [hc 0 (by decide) (by decide) (by decide), h4 72 (by decide) (by decide)]; exact qf, by rw [hc 85 (by decide) (by decide) (by decide), h4 11 (by decide) (by decide)]; exact qt⟩
theorem rl_heir (a1 a2 : Int32) (h : PH) (i : IM h) (gi : GI h) (rl : RLA h) : ∃ rX h1 rm h2, mX_heir a1 a2 h = some (rX, h1) ∧ mm_heir a1 a2 h1 = some (rm, h2) ∧ CS h h1 h2 ∧ RLA h2 ∧ rX = rm := by
  obtain ⟨rX, h1, rm, h2, e1, e2, cs⟩ := cs_heir a1 a2 h i gi
  refine ⟨rX, h1, rm, h2, e1, e2, cs, ?_⟩
  obtain ⟨n, n1, n2, en⟩ := nat_of (show R 0 12 (h 30 3) from inv_rng i.1 rfl) (by decide)
  have own : LS_heir h := rl.1.2.2.2.2.2.2.1
  have em : h1 104 62 = nI n := by rw [cs.2.2.2.1 104 (by decide), ← own.1]; exact en
  have f1 : Fr [30, 31] h1 h := fun b hb => fpX_heir a1 a2 h e1 b (fun q => hb (by revert q; simp [FPdX_heir]; try omega))
  have f2 : Fk [1000, 1062, 141] h2 h1 := fun b j hb => fkm_heir a1 a2 h1 e2 b j (fun q => hb (by revert q; simp [FKdm_heir]; try omega))
  have but : (LS_heir h → LS_heir h2) → RLA h2 := fun w => rla_but_heir (fun b h1 h2 h3 => by
      rw [← f1 b (by simp; omega)]
      funext j
      exact f2 b j (by unfold kk; rw [if_neg (by omega)]; simp; omega)) (fun j j1 j2 => by
      rw [← f1 104 (by decide)]
      exact f2 104 j (by unfold kk; rw [if_pos rfl]; simp; omega)) (fun b hb hb2 w0 => by
      rw [← f1 b (by simp; omega)]
      funext j
      exact f2 b j (by unfold kk; rw [if_neg (by omega)]; simp; omega)) w rl
  rw [xt_heir a1 a2 h i.1 n (by omega) en] at e1
  by_cases c1 : a1 = -1
  · rw [if_pos c1] at e1
    cases e1
    rw [c1] at e2
    obtain ⟨g, eg, g1, g2⟩ := mt_heir_0 a2 (up h 30 3 0)
    rw [eg] at e2
    cases e2
    refine ⟨but (fun _ => ?_), rfl⟩
    unfold LS_heir
    rw [cs.2.2.2.2 30 (by decide), up_same, g1]
    exact wh_0 g2
  · rw [if_neg c1] at e1
    rw [mt_heir a1 a2 _ n (by omega) em c1] at e2
    by_cases c2 : (((0 ≤ a1 ∧ a1 ≤ 11) ∧ (0 ≤ a2 ∧ a2 ≤ 11)) ∧ ¬ a1 = a2) ∧ n < 12
    · rw [if_pos c2] at e1 e2
      cases e1
      cases e2
      refine ⟨but (fun w => ?_), rfl⟩
      have s0 := cs.2.2.2.2 30 (by decide)
      have s1 := cs.2.2.2.2 31 (by decide)
      unfold LS_heir at w ⊢
      rw [← w.1, en] at w
      rw [s0, s1, up_same]
      rw [up_same]
      obtain ⟨m, m1, m2, em1⟩ := nat_of (rng_of (x := 0) (y := 11) rfl rfl c2.1.1.1) (by decide)
      refine wh_add w (by omega) (rng_of rfl rfl c2.1.1.1) (rng_of rfl rfl c2.1.1.2) ?_ ?_ (fun k hk => ?_) (fun q hq => ?_)
      · rw [up_oc (by decide), up_oj (by omega), up_same]
      · rw [up_oc (by decide), up_same]
      · rw [up_oc (by decide), up_oj (by omega), up_oj (by omega)]
      · have h141 : ∀ j, up (up (up h 31 (2 * n) a1) 31 (2 * n + 1) a2) 30 3 (nI (n + 1)) 141 j = h 141 j := fun j => by rw [up_oc (by decide), up_oc (by decide), up_oc (by decide)]
        have ixm : ix a1 = m := by rw [em1]; exact nI_clamp (by omega)
        rw [up_oc (by decide), h141, ixm]
        by_cases c4 : h 141 m = 0
        · rw [if_pos c4]
          by_cases c5 : q = m
          · subst c5
            rw [up_same, if_pos ⟨em1.symm, c4⟩]
          · rw [up_oj c5, up_oc (by decide), h141, if_neg (fun z => c5 ?_)]
            have z1 := z.1
            rw [em1] at z1
            exact (nI_eq (by omega) (by omega)).mp z1
        · rw [if_neg c4, up_oc (by decide), h141, if_neg (fun z => c4 ?_)]
          have z1 := z.1
          rw [em1] at z1
          have : q = m := (nI_eq (by omega) (by omega)).mp z1
          rw [← this]
          exact z.2
    · rw [if_neg c2] at e1 e2
      cases e1
      cases e2
      exact ⟨but (fun w => ls_fr_heir (up_cell (by decide)) (up_cell (by decide)) (up_oj (by decide)) (up_cell (by decide)) w), rfl⟩
theorem xt_member (a1 a2 : Int32) (h : PH) (i : Inv h) (n : Nat) (hn : n ≤ 8) (en : h 32 3 = nI n) : mX_member a1 a2 h = if a1 = -1 then some (0, up h 32 3 0) else if ((0 ≤ a1 ∧ a1 ≤ 4095) ∧ (1 ≤ a2 ∧ a2 ≤ 9)) ∧ n < 8 then some (nI (n + 1), up (up (up h 33 (2 * n) a1) 33 (2 * n + 1) a2) 32 3 (nI (n + 1))) else some (-1, h) := by
  have z01 : ¬ (1 : Int32) = 0 := by decide
  unfold mX_member
  by_cases c1 : a1 = -1
  · have nf : ¬ (0 ≤ a1 ∧ a1 ≤ 4095) := by rw [c1]; decide
    rw [if_pos c1, jn1_e, if_pos c1]
    dsimp only
    rw [within_n nf, bd_e, jn1_e, if_pos rfl]
    dsimp only
    rw [tell_no z01, bd2_e]
  · rw [if_neg c1, jn1_e, if_neg c1]
    dsimp only
    by_cases f1 : 0 ≤ a1 ∧ a1 ≤ 4095
    · by_cases f2 : 1 ≤ a2 ∧ a2 ≤ 9
      · rw [within_y f1, bd_e, jn1_e, if_neg z01, within_y f2, bd_e, if_neg z01]
        dsimp only
        by_cases c3 : n < 8
        · rw [if_pos ⟨⟨f1, f2⟩, c3⟩, tell_2 (m := 8) rfl rfl (by decide) i rfl z01 n en c3, bd2_e]
        · rw [if_neg (fun q => c3 q.2), tell_full (m := 8) (w := 2) rfl (by decide) (by decide) i rfl z01 (by rw [en]; congr 1; omega), bd2_e]
      · rw [if_neg (fun q => f2 q.1.2), within_y f1, bd_e, jn1_e, if_neg z01, within_n f2, bd_e, if_pos rfl]
        dsimp only
        rw [tell_un rfl rfl, bd2_e]
    · rw [if_neg (fun q => f1 q.1.1), within_n f1, bd_e, jn1_e, if_pos rfl]
      dsimp only
      rw [tell_un rfl rfl, bd2_e]
theorem mt_member (a1 a2 : Int32) (h : PH) (n : Nat) (hn : n ≤ 8) (en : h 104 66 = nI n) : mm_member a1 a2 h = if a1 = -1 then some (0, up (up h 104 0 0) 104 66 0) else if ((0 ≤ a1 ∧ a1 ≤ 4095) ∧ (1 ≤ a2 ∧ a2 ≤ 9)) ∧ n < 8 then some (nI (n + 1), up (up (up (up h 104 0 0) 144 n a1) 145 n a2) 104 66 (nI (n + 1))) else some (-1, up h 104 0 0) := by
  have z01 : ¬ (1 : Int32) = 0 := by decide
  have k : up h 104 0 0 104 66 = nI n := by rw [up_oj (by decide)]; exact en
  unfold mm_member
  rw [lt_e]
  by_cases c1 : a1 = -1
  · rw [if_pos c1, if_pos c1, lt_e]
  · rw [if_neg c1, if_neg c1]
    by_cases f1 : 0 ≤ a1 ∧ a1 ≤ 4095
    · rw [isIn_y f1, bd_e, if_neg z01]
      by_cases f2 : 1 ≤ a2 ∧ a2 ≤ 9
      · rw [isIn_y f2, bd_e, if_neg z01]
        by_cases c3 : n < 8
        · have nM : ¬ nI n = 8 := fun q => by
            have : (nI n).toInt = 8 := by rw [q]; rfl
            rw [nI_toInt (by omega)] at this
            omega
          have ixn : ix (nI n) = n := nI_clamp (by omega)
          rw [k, if_neg nM, ck_nI (by omega) (by decide), lt_e, ixn, up_oc (by decide), k, ck_nI (by omega) (by decide), lt_e, ixn, lt_e, if_pos ⟨⟨f1, f2⟩, c3⟩]
          rw [show up (up (up h 104 0 0) 144 n a1) 145 n a2 104 66 = nI n by rw [up_oc (by decide), up_oc (by decide)]; exact k, nI_1, up_same]
        · have eM : nI n = 8 := by rw [show n = 8 by omega]; rfl
          rw [k, if_pos eM, if_neg (fun q => c3 q.2)]
      · rw [isIn_n f2, bd_e, if_pos rfl, if_neg (fun q => f2 q.1.2)]
    · rw [isIn_n f1, bd_e, if_pos rfl, if_neg (fun q => f1 q.1.1)]
theorem rla_but_member {h g : PH} (hc : ∀ b, b < 104 → b ≠ 32 → b ≠ 33 → g b = h b) (h4 : ∀ j, j ≠ 0 → j ≠ 66 → g 104 j = h 104 j) (hm : ∀ b, 104 < b → b < 1000 → b ≠ 144 → b ≠ 145 → g b = h b) (own : LS_member h → LS_member g) (rl : RLA h) : RLA g := by
  obtain ⟨q, qi, qf, qt⟩ := rl
  refine ⟨⟨ls_fr_piece (hc 18 (by decide) (by decide) (by decide)) (hc 19 (by decide) (by decide) (by decide)) (h4 42 (by decide) (by decide)) (hm 127 (by decide) (by decide) (by decide) (by decide)) q.1, ls_fr_dough (hc 20 (by decide) (by decide) (by decide)) (hc 21 (by decide) (by decide) (by decide)) (h4 45 (by decide) (by decide)) (hm 129 (by decide) (by decide) (by decide) (by decide)) q.2.1, ls_fr_mark (hc 22 (by decide) (by decide) (by decide)) (hc 23 (by decide) (by decide) (by decide)) (h4 49 (by decide) (by decide)) (hm 132 (by decide) (by decide) (by decide) (by decide)) q.2.2.1, ls_fr_bite (hc 24 (by decide) (by decide) (by decide)) (hc 25 (by decide) (by decide) (by decide)) (h4 51 (by decide) (by decide)) (hm 133 (by decide) (by decide) (by decide) (by decide)) (hm 134 (by decide) (by decide) (by decide) (by decide)) q.2.2.2.1, ls_fr_crumb (hc 26 (by decide) (by decide) (by decide)) (hc 27 (by decide) (by decide) (by decide)) (h4 54 (by decide) (by decide)) (hm 135 (by decide) (by decide) (by decide) (by decide)) q.2.2.2.2.1, ls_fr_loaf (hc 28 (by decide) (by decide) (by decide)) (hc 29 (by decide) (by decide) (by decide)) (h4 57 (by decide) (by decide)) (hm 137 (by decide) (by decide) (by decide) (by decide)) (hm 138 (by decide) (by decide) (by decide) (by decide)) q.2.2.2.2.2.1, ls_fr_heir (hc 30 (by decide) (by decide) (by decide)) (hc 31 (by decide) (by decide) (by decide)) (h4 62 (by decide) (by decide)) (hm 141 (by decide) (by decide) (by decide) (by decide)) q.2.2.2.2.2.2.1, own q.2.2.2.2.2.2.2⟩, fun z => lia_fr (fun b h1 h2 => hc b (by omega) (by omega) (by omega)) (hm 148 (by decide) (by decide) (by decide) (by decide)) (qi (by rw [h4 72 (by decide) (by decide)] at z; exact z)), by rw [hc 0 (by decide) (by decide) (by decide), h4 72 (by decide) (by decide)]; exact qf, by rw [hc 85 (by decide) (by decide) (by decide), h4 11 (by decide) (by decide)]; exact qt⟩
theorem rl_member (a1 a2 : Int32) (h : PH) (i : IM h) (gi : GI h) (rl : RLA h) : ∃ rX h1 rm h2, mX_member a1 a2 h = some (rX, h1) ∧ mm_member a1 a2 h1 = some (rm, h2) ∧ CS h h1 h2 ∧ RLA h2 ∧ rX = rm := by
  obtain ⟨rX, h1, rm, h2, e1, e2, cs⟩ := cs_member a1 a2 h i gi
  refine ⟨rX, h1, rm, h2, e1, e2, cs, ?_⟩
  obtain ⟨n, n1, n2, en⟩ := nat_of (show R 0 8 (h 32 3) from inv_rng i.1 rfl) (by decide)
  have own : LS_member h := rl.1.2.2.2.2.2.2.2
  have em : h1 104 66 = nI n := by rw [cs.2.2.2.1 104 (by decide), ← own.1]; exact en
  have f1 : Fr [32, 33] h1 h := fun b hb => fpX_member a1 a2 h e1 b (fun q => hb (by revert q; simp [FPdX_member]; try omega))
  have f2 : Fk [1000, 1066, 144, 145] h2 h1 := fun b j hb => fkm_member a1 a2 h1 e2 b j (fun q => hb (by revert q; simp [FKdm_member]; try omega))
  have but : (LS_member h → LS_member h2) → RLA h2 := fun w => rla_but_member (fun b h1 h2 h3 => by
      rw [← f1 b (by simp; omega)]
      funext j
      exact f2 b j (by unfold kk; rw [if_neg (by omega)]; simp; omega)) (fun j j1 j2 => by
      rw [← f1 104 (by decide)]
      exact f2 104 j (by unfold kk; rw [if_pos rfl]; simp; omega)) (fun b hb hb2 w0 w1 => by
      rw [← f1 b (by simp; omega)]
      funext j
      exact f2 b j (by unfold kk; rw [if_neg (by omega)]; simp; omega)) w rl
  rw [xt_member a1 a2 h i.1 n (by omega) en] at e1
  by_cases c1 : a1 = -1
  · rw [if_pos c1] at e1
    cases e1
    rw [mt_member a1 a2 _ n (by omega) em, if_pos c1] at e2
    cases e2
    refine ⟨but (fun _ => ?_), rfl⟩
    unfold LS_member
    rw [cs.2.2.2.2 32 (by decide), up_same, up_same]
    exact w2_0
  · rw [if_neg c1] at e1
    rw [mt_member a1 a2 _ n (by omega) em, if_neg c1] at e2
    by_cases c2 : ((0 ≤ a1 ∧ a1 ≤ 4095) ∧ (1 ≤ a2 ∧ a2 ≤ 9)) ∧ n < 8
    · rw [if_pos c2] at e1 e2
      cases e1
      cases e2
      refine ⟨but (fun w => ?_), rfl⟩
      have s0 := cs.2.2.2.2 32 (by decide)
      have s1 := cs.2.2.2.2 33 (by decide)
      unfold LS_member at w ⊢
      rw [← w.1, en] at w
      rw [s0, s1, up_same]
      rw [up_same]
      refine w2_add w (by omega) (rng_of rfl rfl c2.1.1) (rng_of rfl rfl c2.1.2) ?_ ?_ (fun k hk => ?_) ?_ (fun k hk => ?_) ?_ (fun k hk => ?_)
      · rw [up_oc (by decide), up_oj (by omega), up_same]
      · rw [up_oc (by decide), up_same]
      · rw [up_oc (by decide), up_oj (by omega), up_oj (by omega)]
      · rw [up_oc (by decide), up_oc (by decide), up_same]
      · rw [up_oc (by decide), up_oc (by decide), up_oj (by omega), up_oc (by decide), up_oc (by decide), up_oc (by decide), up_oc (by decide)]
      · rw [up_oc (by decide), up_same]
      · rw [up_oc (by decide), up_oj (by omega), up_oc (by decide), up_oc (by decide), up_oc (by decide), up_oc (by decide), up_oc (by decide)]
    · rw [if_neg c2] at e1 e2
      cases e1
      cases e2
      exact ⟨but (fun w => ls_fr_member (up_cell (by decide)) (up_cell (by decide)) (up_oj (by decide)) (up_cell (by decide)) (up_cell (by decide)) w), rfl⟩
