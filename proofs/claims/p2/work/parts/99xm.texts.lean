/-! LINES of sky, office, next; NUMBERS and SIGNS on both sides -/
theorem m_nm {B : Nat → Nat} {L i : Nat} {h : PH} (m : MU B L i h) (x : (tt B L i).1 = 3) : h 104 14 = 3 ∧ h 104 15 = nI (tt B L i).2 ∧ (tt B L i).2 < 10000 := by
  have k : TkM (tt B L i) (h 104 14) (h 104 15) := m.2.2.2
  rcases k with ⟨a, _⟩ | ⟨a, _⟩ | ⟨a, _⟩ | ⟨_, b, e, e2⟩ | ⟨a, _⟩
  · omega
  · omega
  · omega
  · exact ⟨e, e2, b⟩
  · omega
theorem m_nn {B : Nat → Nat} {L i : Nat} {h : PH} (m : MU B L i h) (x : ¬ (tt B L i).1 = 3) : ¬ h 104 14 = 3 := fun z => by
  have k : TkM (tt B L i) (h 104 14) (h 104 15) := m.2.2.2
  rcases k with ⟨_, y⟩ | ⟨_, y⟩ | ⟨_, _, y, _⟩ | ⟨y, _⟩ | ⟨_, _, y, _⟩
  · rw [y] at z; exact absurd z (by decide)
  · rw [y] at z; exact absurd z (by decide)
  · rw [y] at z; exact absurd z (by decide)
  · exact x y
  · rw [y] at z; exact absurd z (by decide)
theorem c_nm {s : Nat} {B : Nat → Nat} {L N i : Nat} {h : PH} (c : CU s B L N i h) (x : (tt B L i).1 = 3) : h 90 6 = 2 ∧ h 90 7 = nI (tt B L i).2 := by
  rcases cu_tk c with ⟨a, _⟩ | ⟨a, _⟩ | ⟨a, _⟩ | ⟨_, b, e, e2⟩ | ⟨a, _⟩
  · omega
  · omega
  · omega
  · exact ⟨e, e2⟩
  · omega
theorem c_nn {s : Nat} {B : Nat → Nat} {L N i : Nat} {h : PH} (c : CU s B L N i h) (x : ¬ (tt B L i).1 = 3) : ¬ h 90 6 = 2 := fun z => by
  rcases cu_tk c with ⟨_, y⟩ | ⟨_, y⟩ | ⟨_, _, ⟨_, _, _, y, _⟩ | ⟨y, _⟩⟩ | ⟨y, _⟩ | ⟨_, _, y, _⟩
  · rw [y] at z; exact absurd z (by decide)
  · rw [y] at z; exact absurd z (by decide)
  · rw [y] at z; exact absurd z (by decide)
  · rw [y] at z; exact absurd z (by decide)
  · exact x y
  · rw [y] at z; exact absurd z (by decide)
def EX2 (hc hm : PH) (rc rm : Option (Int32 × PH)) : Prop := ∃ gc gm, rc = some (0, gc) ∧ rm = some (-1, gm) ∧ FF gc gm ∧ FC hc gc ∧ FX hm gm
theorem ex2_of {s : Nat} {B : Nat → Nat} {L N i w : Nat} {C : List (Nat × Nat)} {hc hm : PH} (j : JJ s B L N i w C hc hm) (p : Int32) {rc rm : Option (Int32 × PH)} (ec : rc = bd2 (mD_refuse p hc) fun r h => some (nb r, h)) (em : rm = bd2 (mm_errs p hm) fun r h => some (r, h)) : EX2 hc hm rc rm := by
  obtain ⟨gc, gm, r1, r2, r3, r4, r5⟩ := j_ref j p
  rw [r1, bd2_e] at ec
  rw [r2, bd2_e] at em
  exact ⟨gc, gm, ec, em, r3, r4, r5⟩
theorem nb_sim {s : Nat} {B : Nat → Nat} {L N i w : Nat} {C : List (Nat × Nat)} {hc hm : PH} (j : JJ s B L N i w C hc hm) (lo hi : Int32) : (∃ v gc gm, (tt B L i).1 = 3 ∧ (tt B L i).2 = v ∧ v < 10000 ∧ lo ≤ nI v ∧ nI v ≤ hi ∧ mD_takesNumber lo hi hc = some (1, gc) ∧ mm_readNumber lo hi hm = some (nI v, gm) ∧ gc 90 9 = nI v ∧ JJ s B L N (i + 1) (w + 1) C gc gm ∧ FC hc gc ∧ FR4 hm gm) ∨ EX2 hc hm (mD_takesNumber lo hi hc) (mm_readNumber lo hi hm) := by
  by_cases x : (tt B L i).1 = 3
  · obtain ⟨m1, m2, m3⟩ := m_nm j.2.1 x
    obtain ⟨c1, c2⟩ := c_nm j.1 x
    by_cases y : lo ≤ nI (tt B L i).2 ∧ nI (tt B L i).2 ≤ hi
    · obtain ⟨gm, g1, g2, g3⟩ := mu_adv j.2.1
      have l := cu_lt j.1 (by omega)
      obtain ⟨k1, k2⟩ := cu_adv (cu_9 j.1 (nI (tt B L i).2)) l
      refine Or.inl ⟨(tt B L i).2, avH (up hc 90 9 (nI (tt B L i).2)) (i + 1), gm, x, rfl, m3, y.1, y.2, ?_, ?_, ?_, ⟨k2, g3, cc_b (cc_b j.2.2.1 (up_cell (by decide)) (up_cell (by decide))) (avH_b _ _ 93 (by decide)) (avH_b _ _ 94 (by decide)), mc_4 j.2.2.2.1 g2, by have := j.2.2.2.2; omega⟩, fc_t ⟨fun b b1 _ _ => up_cell b1, up_oj (by decide)⟩ (fc_av _ _), g2⟩
      · unfold mD_takesNumber
        rw [if_pos c1, c2, within_y y, bd_e, if_neg no10, lt_e, k1, bd_e]
      · unfold mm_readNumber
        rw [if_pos m1, m2, isIn_y y, bd_e, if_neg no10, lt_e, g1, bd_e]
      · rw [avH_o _ _ 9 (by decide) (by decide) (by decide), up_same]
    · refine Or.inr (ex2_of j 2 ?_ ?_)
      · unfold mD_takesNumber
        rw [if_pos c1, c2, within_n y, bd_e, if_pos rfl]
      · unfold mm_readNumber
        rw [if_pos m1, m2, isIn_n y, bd_e, if_pos rfl]
  · refine Or.inr (ex2_of j 1 ?_ ?_)
    · unfold mD_takesNumber
      rw [if_neg (c_nn j.1 x)]
    · unfold mm_readNumber
      rw [if_neg (m_nn j.2.1 x)]
theorem sn_sim {s : Nat} {B : Nat → Nat} {L N i w : Nat} {C : List (Nat × Nat)} {hc hm : PH} (j : JJ s B L N i w C hc hm) : (∃ gm, mD_takesSign 59 hc = some (1, avH hc (i + 1)) ∧ mm_readMark 59 hm = some (0, gm) ∧ JJ s B L N (i + 1) (w + 1) C (avH hc (i + 1)) gm ∧ FR4 hm gm) ∨ EX2 hc hm (mD_takesSign 59 hc) (mm_readMark 59 hm) := by
  unfold mD_takesSign mm_readMark
  by_cases x : (tt B L i).1 = 4 ∧ (tt B L i).2 = 59
  · obtain ⟨gm, d1, d2, d3, d4, d5⟩ := j_adv j (by omega)
    rw [show mD_isSign 59 hc = some 1 from c_s1 (x := 59) j.1 x (by decide), bd_e, if_neg no10, d1, bd_e, show mm_isSign 59 hm = some 1 from m_s1 (x := 59) j.2.1 x (by decide), bd_e, if_neg no10, d2, bd_e]
    exact Or.inl ⟨gm, rfl, rfl, d3, d5⟩
  · rw [show mD_isSign 59 hc = some 0 from c_s0 (x := 59) j.1 x (by decide), bd_e, if_pos rfl, show mm_isSign 59 hm = some 0 from m_s0 (x := 59) j.2.1 x (by decide), bd_e, if_pos rfl]
    exact Or.inr (ex2_of j 1 rfl rfl)
theorem jj_u {s : Nat} {B : Nat → Nat} {L N i w : Nat} {C : List (Nat × Nat)} {hc hm : PH} (j : JJ s B L N i w C hc hm) {c k : Nat} (hk : 121 ≤ c) (v : Int32) : JJ s B L N i w C hc (up hm c k v) := ⟨j.1, mu_of j.2.1 (up_cell (by omega)) (up_cell (by omega)) (fun q _ _ => up_oc (by omega)), j.2.2.1, mc_of j.2.2.2.1 (up_cell (by omega)) (up_cell (by omega)) (up_oc (by omega)), j.2.2.2.2⟩
theorem ff_u {hc hm : PH} (f : FF hc hm) {c k : Nat} (hk : 121 ≤ c) (v : Int32) : FF hc (up hm c k v) := ⟨by rw [up_oc (by omega)]; exact f.1, by rw [up_oc (by omega)]; exact f.2⟩
/-- a word of the text's own list, on both sides -/
theorem c_wv {s : Nat} {B : Nat → Nat} {L N i : Nat} {h : PH} (c : CU s B L N i h) (x : (tt B L i).1 = 2) : (∃ w, w < (wv s).length ∧ (wv s).getD w 99 = (tt B L i).2 ∧ h 90 6 = 1 ∧ h 90 7 = nI w) ∨ (h 90 6 = 4 ∧ ∀ w, w < (wv s).length → (wv s).getD w 99 ≠ (tt B L i).2) := by
  rcases cu_tk c with ⟨a, _⟩ | ⟨a, _⟩ | ⟨_, _, k⟩ | ⟨a, _⟩ | ⟨a, _⟩
  · omega
  · omega
  · exact k
  · omega
  · omega
theorem c_nw {s : Nat} {B : Nat → Nat} {L N i : Nat} {h : PH} (c : CU s B L N i h) (x : ¬ (tt B L i).1 = 2) : ¬ h 90 6 = 1 := fun z => by
  rcases cu_tk c with ⟨_, y⟩ | ⟨_, y⟩ | ⟨y, _⟩ | ⟨_, _, y, _⟩ | ⟨_, _, y, _⟩
  · rw [y] at z; exact absurd z (by decide)
  · rw [y] at z; exact absurd z (by decide)
  · exact x y
  · rw [y] at z; exact absurd z (by decide)
  · rw [y] at z; exact absurd z (by decide)
/-- how lines end: the class's row is added -/
theorem rw_add {s : Nat} {B : Nat → Nat} {L N i r w : Nat} {hc hm : PH} (j : JJ s B L N i w [] hc hm) (cr : CR r hc) (hr : r < 16) (a b d e f : Int32) : ∃ gc, mR_add 91 a b d e f hc = some (1, gc) ∧ JJ s B L N i w [] gc hm ∧ CR (r + 1) gc ∧ (gc 92 (5 * r) = a ∧ gc 92 (5 * r + 1) = b ∧ gc 92 (5 * r + 2) = d ∧ gc 92 (5 * r + 3) = e ∧ gc 92 (5 * r + 4) = f) ∧ FL r hc gc := by
  obtain ⟨gc, a1, a2, a3, a4, a5⟩ := ad_91 cr hr a b d e f
  exact ⟨gc, a1, ⟨cu_of j.1 (fun b b1 b2 => a5 b (by omega) (by omega)), j.2.1, cc_b j.2.2.1 (a5 93 (by decide) (by decide)) (a5 94 (by decide) (by decide)), j.2.2.2.1, j.2.2.2.2⟩, a2, a3, ⟨fun x _ x2 x3 _ _ => a5 x x2 x3, by rw [a5 90 (by decide) (by decide)], a4⟩⟩
theorem cr_c {r : Nat} {h g : PH} (c : CR r h) (f : FC h g) : CR r g := by
  unfold CR
  rw [f.1 91 (by decide) (by decide) (by decide)]
  exact c
def LOK (s : Nat) (B : Nat → Nat) (L N i r : Nat) (hc hm : PH) (rc rm : Option (Int32 × PH)) (Q : PH → PH → Prop) : Prop := (∃ i2 gc gm, i < i2 ∧ rc = some (1, gc) ∧ rm = some (0, gm) ∧ JJ s B L N i2 0 [] gc gm ∧ CR (r + 1) gc ∧ Q gc gm ∧ FL r hc gc) ∨ ∃ gc gm, rc = some (0, gc) ∧ rm = some (-1, gm) ∧ FF gc gm
/-- sky: class row (q, w, n), the model's (q, w - 1, n) -/
def SKQ (r : Nat) (hm gc gm : PH) : Prop := (∃ q w n, q ≤ 999 ∧ 1 ≤ w ∧ w ≤ 3 ∧ n ≤ 9 ∧ gc 92 (5 * r) = nI q ∧ gc 92 (5 * r + 1) = nI w ∧ gc 92 (5 * r + 2) = nI n ∧ gm 121 (48 + 3 * r) = nI q ∧ gm 121 (48 + 3 * r + 1) = nI (w - 1) ∧ gm 121 (48 + 3 * r + 2) = nI n) ∧ ∀ j, j < 48 + 3 * r → gm 121 j = hm 121 j
theorem wv1l : (wv 1).length = 4 := by decide
theorem wv1m : ∀ w, w < 4 → (wv 1).getD w 99 = [19, 16, 17, 20].getD w 99 := by decide
theorem sk_sim {B : Nat → Nat} {L N i r : Nat} {hc hm : PH} (j : JJ 1 B L N i 0 [] hc hm) (cr : CR r hc) (hr : r < 16) (x : (tt B L i).1 = 2 ∧ (tt B L i).2 = 19) : LOK 1 B L N i r hc hm (mD_skyLine hc) (mm_readSkyLine (nI (48 + 3 * r)) hm) (SKQ r hm) := by
  have x48 : ∀ k, k < 3 → ix (nI (48 + 3 * r + k)) = 48 + 3 * r + k := fun k hk => nI_clamp (by omega)
  have ck0 : ∀ k, k < 3 → ∀ (q : Option (Int32 × PH)), ck (nI (48 + 3 * r + k)) 96 q = q := fun k hk q => ck_nI (by omega) (by decide)
  have x0 : ix (nI (48 + 3 * r)) = 48 + 3 * r := nI_clamp (by omega)
  have ck1 : ∀ (q : Option (Int32 × PH)), ck (nI (48 + 3 * r)) 96 q = q := fun q => ck_nI (by omega) (by decide)
  have a1e : nI (48 + 3 * r) + 1 = nI (48 + 3 * r + 1) := nI_1 _
  have a2e : nI (48 + 3 * r) + 2 = nI (48 + 3 * r + 2) := nI_add _ 2
  obtain ⟨gm1, d1, d2, d3, d4, d5⟩ := j_adv j (by omega)
  unfold mD_skyLine mm_readSkyLine mm_readTold
  rw [d1, bd_e, show mm_isWord 19 hm = some 1 from m_w1 (x := 19) j.2.1 x (by decide), bd_e, if_neg no10, d2, bd_e]
  rcases nb_sim d3 0 999 with ⟨q, gc2, gm2, n1, n2, n3, n4, n5, n6, n7, n8, n9, n10, n11⟩ | ⟨gc2, gm2, e1, e2, e3, e4, e5⟩
  · rw [n6, bd2_e, if_neg no10, lt_e, n8, n7, bd2_e, bd2_e, ck1, lt_e (up gm2 121 (ix (nI (48 + 3 * r))) (nI q)), ck1, x0, up_same, if_neg (nI_nm1 (by omega))]
    have q9 : q ≤ 999 := by
      rw [Int32.le_iff_toInt_le, nI_toInt (by omega)] at n5
      have : (999 : Int32).toInt = 999 := rfl
      omega
    have j3 := jj_u n9 (c := 121) (k := 48 + 3 * r) (by decide) (nI q)
    have fl2 : FL r hc gc2 := fl_t (fl_c d4) (fl_c n10)
    have cr2 : CR r gc2 := cr_c (cr_c cr d4) n10
    have k121 : ∀ k, k ≠ 48 + 3 * r → up gm2 121 (48 + 3 * r) (nI q) 121 k = hm 121 k := fun k hk => by rw [up_oj hk, n11.1 121 (by decide), d5.1 121 (by decide)]
    have kq : up gm2 121 (48 + 3 * r) (nI q) 121 (48 + 3 * r) = nI q := up_same
    generalize up gm2 121 (48 + 3 * r) (nI q) = hm3 at j3 k121 kq ⊢
    by_cases y : ∃ w m, 1 ≤ w ∧ w ≤ 3 ∧ (wv 1).getD w 99 = m ∧ (tt B L (i + 1 + 1)).1 = 2 ∧ (tt B L (i + 1 + 1)).2 = m
    · obtain ⟨w, m, w1, w2, w3, w4, w5⟩ := y
      have cw : gc2 90 6 = 1 ∧ gc2 90 7 = nI w := by
        rcases c_wv j3.1 w4 with ⟨w', y1, y2, y3, y4⟩ | ⟨_, y2⟩
        · rw [wv1l] at y1
          have : w' = w := wv_inj 1 (by decide) w' (by rw [wv1l]; exact y1) w (by rw [wv1l]; omega) (by rw [y2, w5, w3])
          rw [← this]
          exact ⟨y3, y4⟩
        · exact absurd (by rw [w3, w5]) (y2 w (by rw [wv1l]; omega))
      obtain ⟨gm4, g1, g2, g3, g4, g5⟩ := j_adv j3 (by omega)
      rw [jn0_e, if_pos cw.1, cw.2, within_y (show (1 : Int32) ≤ nI w ∧ nI w ≤ (3 : Int32) from ⟨nI_le (a := 1) w1 (by omega), nI_le (b := 3) w2 (by decide)⟩), bd_e, if_neg no10, lt_e, g1, bd_e]
      -- the model's word
      have mw : ∀ K : Int32 → Option (Int32 × PH), (bd (mm_isWord 16 hm3) fun r4 => jn1 K fun j5 => if r4 = 0 then bd (mm_isWord 17 hm3) fun r19 => if r19 = 0 then bd (mm_isWord 20 hm3) fun r20 => if r20 = 0 then j5 (-1) else j5 2 else j5 1 else j5 0) = K (nI (w - 1)) := fun K => by
        have h3 : w = 1 ∨ w = 2 ∨ w = 3 := by omega
        rcases h3 with h3 | h3 | h3
        · subst h3
          have : m = 16 := w3.symm
          subst this
          rw [show mm_isWord 16 hm3 = some 1 from m_w1 (x := 16) j3.2.1 ⟨w4, w5⟩ (by decide), bd_e, jn1_e, if_neg no10]
          rfl
        · subst h3
          have : m = 17 := w3.symm
          subst this
          rw [show mm_isWord 16 hm3 = some 0 from m_w0 (x := 16) j3.2.1 (by omega) (by decide), bd_e, jn1_e, if_pos rfl, show mm_isWord 17 hm3 = some 1 from m_w1 (x := 17) j3.2.1 ⟨w4, w5⟩ (by decide), bd_e, if_neg no10]
          rfl
        · subst h3
          have : m = 20 := w3.symm
          subst this
          rw [show mm_isWord 16 hm3 = some 0 from m_w0 (x := 16) j3.2.1 (by omega) (by decide), bd_e, jn1_e, if_pos rfl, show mm_isWord 17 hm3 = some 0 from m_w0 (x := 17) j3.2.1 (by omega) (by decide), bd_e, if_pos rfl, show mm_isWord 20 hm3 = some 1 from m_w1 (x := 20) j3.2.1 ⟨w4, w5⟩ (by decide), bd_e, if_neg no10]
          rfl
      rw [mw]
      try dsimp only
      rw [if_neg (nI_nm1 (by omega)), g2, bd_e, a1e, ck0 1 (by decide), lt_e, x48 1 (by decide), a2e]
      have j5 := jj_u g3 (c := 121) (k := 48 + 3 * r + 1) (by decide) (nI (w - 1))
      have k5 : ∀ k, k < 48 + 3 * r → up gm4 121 (48 + 3 * r + 1) (nI (w - 1)) 121 k = hm 121 k := fun k hk => by rw [up_oj (by omega), g5.1 121 (by decide)]; exact k121 k (by omega)
      have k5q : up gm4 121 (48 + 3 * r + 1) (nI (w - 1)) 121 (48 + 3 * r) = nI q := by rw [up_oj (by omega), g5.1 121 (by decide)]; exact kq
      have k5w : up gm4 121 (48 + 3 * r + 1) (nI (w - 1)) 121 (48 + 3 * r + 1) = nI (w - 1) := up_same
      generalize up gm4 121 (48 + 3 * r + 1) (nI (w - 1)) = hm5 at j5 k5 k5q k5w ⊢
      have fl3 : FL r hc (avH gc2 (i + 1 + 1 + 1)) := fl_t fl2 (fl_c g4)
      have cr3 : CR r (avH gc2 (i + 1 + 1 + 1)) := cr_c cr2 g4
      -- behind the number, if there is one
      have fin : ∀ (i3 n w' : Nat) (gc gm : PH), i < i3 → n ≤ 9 → JJ 1 B L N i3 w' [] gc gm → CR r gc → FL r hc gc → (∀ k, k < 48 + 3 * r → gm 121 k = hm 121 k) → gm 121 (48 + 3 * r) = nI q → gm 121 (48 + 3 * r + 1) = nI (w - 1) → LOK 1 B L N i r hc hm (bd2 (mD_takesSign 59 gc) fun r14 h15 => if r14 = 0 then some (0, h15) else bd2 (mR_add 91 (nI q) (nI w) (nI n) 0 0 h15) fun r16 h17 => if r16 = 0 then some (0, h17) else some (1, h17)) (ck (nI (48 + 3 * r + 2)) 96 <| lt (up gm 121 (ix (nI (48 + 3 * r + 2))) (nI n)) fun h14 => ck (nI (48 + 3 * r + 2)) 96 <| if (h14 121 (ix (nI (48 + 3 * r + 2)))) = (-1) then some ((-1), h14) else bd2 (mm_readMark 59 h14) fun r15 h16 => some (r15, h16)) (SKQ r hm) := fun i3 n w' gc gm hi hn j6 cr6 fl6 k6 k7 k8 => by
        rw [ck0 2 (by decide), lt_e, ck0 2 (by decide), x48 2 (by decide), up_same, if_neg (nI_nm1 (by omega))]
        have j7 := jj_u j6 (c := 121) (k := 48 + 3 * r + 2) (by decide) (nI n)
        rcases sn_sim j7 with ⟨gm8, s1, s2, s3, s4⟩ | ⟨gc8, gm8, s1, s2, s3, s4, s5⟩
        · have cr8 : CR r (avH gc (i3 + 1)) := cr_c cr6 (fc_av gc _)
          obtain ⟨gc9, t1, t2, t3, t4, t5⟩ := rw_add s3 cr8 hr (nI q) (nI w) (nI n) 0 0
          rw [s1, bd2_e, if_neg no10, t1, bd2_e, if_neg no10, s2, bd2_e]
          refine Or.inl ⟨i3 + 1, gc9, gm8, by omega, rfl, rfl, jj_w t2 (Nat.zero_le _), t3, ⟨⟨q, w, n, q9, w1, w2, hn, t4.1, t4.2.1, t4.2.2.1, ?_, ?_, ?_⟩, fun k hk => ?_⟩, fl_t (fl_t fl6 (fl_c (fc_av gc _))) t5⟩
          · rw [s4.1 121 (by decide), up_oj (by omega)]; exact k7
          · rw [s4.1 121 (by decide), up_oj (by omega)]; exact k8
          · rw [s4.1 121 (by decide), up_same]
          · rw [s4.1 121 (by decide), up_oj (by omega)]; exact k6 k hk
        · rw [s1, bd2_e, if_pos rfl, s2, bd2_e]
          exact Or.inr ⟨gc8, gm8, rfl, rfl, s3⟩
      simp only [jn2_e]
      by_cases c1 : w = 1
      · subst c1
        rw [if_pos (show nI 1 = (1 : Int32) from rfl), if_pos (show nI (1 - 1) = (0 : Int32) from rfl)]
        rcases nb_sim j5 0 9 with ⟨n, gc6, gm6, p1, p2, p3, p4, p5, p6, p7, p8, p9, p10, p11⟩ | ⟨gc6, gm6, e1, e2, e3, e4, e5⟩
        · rw [p6, bd2_e, if_neg no10, lt_e, p8, p7, bd2_e]
          have n9' : n ≤ 9 := by
            rw [Int32.le_iff_toInt_le, nI_toInt (by omega)] at p5
            have : (9 : Int32).toInt = 9 := rfl
            omega
          exact fin _ n _ gc6 gm6 (by omega) n9' p9 (cr_c cr3 p10) (fl_t fl3 (fl_c p10)) (fun k hk => by rw [p11.1 121 (by decide)]; exact k5 k hk) (by rw [p11.1 121 (by decide)]; exact k5q) (by rw [p11.1 121 (by decide)]; exact k5w)
        · rw [e1, bd2_e, if_pos rfl, e2, bd2_e, ck0 2 (by decide), lt_e, ck0 2 (by decide), x48 2 (by decide), up_same, if_pos rfl]
          exact Or.inr ⟨gc6, _, rfl, rfl, ff_u e3 (by decide) _⟩
      · rw [if_neg (show ¬ nI w = (1 : Int32) from fun z => c1 ((nI_eq (b := 1) (by omega) (by decide)).mp z)), if_neg (show ¬ nI (w - 1) = (0 : Int32) from fun z => by have := (nI_eq (b := 0) (by omega) (by decide)).mp z; omega)]
        exact fin _ 0 _ _ hm5 (by omega) (by decide) j5 cr3 fl3 k5 k5q k5w
    · -- no such word
      have nm : ∀ w, 1 ≤ w → w ≤ 3 → ¬ ((tt B L (i + 1 + 1)).1 = 2 ∧ (tt B L (i + 1 + 1)).2 = (wv 1).getD w 99) := fun w w1 w2 z => y ⟨w, _, w1, w2, rfl, z.1, z.2⟩
      have m16 := nm 1 (by decide) (by decide)
      have m17 := nm 2 (by decide) (by decide)
      have m20 := nm 3 (by decide) (by decide)
      rw [show (wv 1).getD 1 99 = 16 from rfl] at m16
      rw [show (wv 1).getD 2 99 = 17 from rfl] at m17
      rw [show (wv 1).getD 3 99 = 20 from rfl] at m20
      rw [show mm_isWord 16 hm3 = some 0 from m_w0 (x := 16) j3.2.1 m16 (by decide), bd_e, jn1_e, if_pos rfl, show mm_isWord 17 hm3 = some 0 from m_w0 (x := 17) j3.2.1 m17 (by decide), bd_e, if_pos rfl, show mm_isWord 20 hm3 = some 0 from m_w0 (x := 20) j3.2.1 m20 (by decide), bd_e, if_pos rfl]
      try dsimp only
      rw [if_pos rfl, jn0_e]
      have cx : (if gc2 90 6 = 1 then bd (mX_within (gc2 90 7) 1 3 gc2) fun r8 => if r8 = 0 then bd2 (mD_refuse 1 gc2) fun r6 h7 => some (nb r6, h7) else (bd2 (mD_refuse 1 gc2) fun r6 h7 => some (nb r6, h7)) else bd2 (mD_refuse 1 gc2) fun r6 h7 => some (nb r6, h7)) = bd2 (mD_refuse 1 gc2) fun r6 h7 => some (nb r6, h7) := by
        split
        · rw [within_eq, bd_e]
          split <;> rfl
        · rfl
      have ref : ∀ K : Option (Int32 × PH), (if gc2 90 6 = 1 then bd (mX_within (gc2 90 7) 1 3 gc2) fun r8 => if r8 = 0 then (bd2 (mD_refuse 1 gc2) fun r6 h7 => some (nb r6, h7)) else K else bd2 (mD_refuse 1 gc2) fun r6 h7 => some (nb r6, h7)) = bd2 (mD_refuse 1 gc2) fun r6 h7 => some (nb r6, h7) := fun K => by
        by_cases c6 : gc2 90 6 = 1
        · rw [if_pos c6]
          have t2 : (tt B L (i + 1 + 1)).1 = 2 := by
            apply Classical.byContradiction
            intro z
            exact c_nw j3.1 z c6
          rcases c_wv j3.1 t2 with ⟨w', y1, y2, y3, y4⟩ | ⟨y1, _⟩
          · rw [wv1l] at y1
            have w0 : w' = 0 := by
              apply Classical.byContradiction
              intro z
              exact nm w' (by omega) (by omega) ⟨t2, y2.symm⟩
            rw [y4, w0, within_n (by decide), bd_e, if_pos rfl]
          · rw [y1] at c6; exact absurd c6 (by decide)
        · rw [if_neg c6]
      rw [ref]
      obtain ⟨gc8, gm8, s1, s2, s3, s4, s5⟩ := j_ref j3 1
      rw [s1, bd2_e, s2, bd2_e]
      exact Or.inr ⟨gc8, gm8, rfl, rfl, s3⟩
  · rw [e1, bd2_e, if_pos rfl, e2, bd2_e, bd2_e, ck1, lt_e, ck1, x0, up_same, if_pos rfl]
    exact Or.inr ⟨gc2, _, rfl, rfl, ff_u e3 (by decide) _⟩
