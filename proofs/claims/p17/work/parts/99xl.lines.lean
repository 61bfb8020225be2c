section
/-! LINES: a row of the class, a line of the law -/
def CR (r : Nat) (h : PH) : Prop := h 91 0 = 16 ∧ h 91 1 = 5 ∧ h 91 3 = nI r
theorem ad_91 {r : Nat} {h : PH} (c : CR r h) (hr : r < 16) (a b d e f : Int32) : ∃ g, mR_add 91 a b d e f h = some (1, g) ∧ CR (r + 1) g ∧ (g 92 (5 * r) = a ∧ g 92 (5 * r + 1) = b ∧ g 92 (5 * r + 2) = d ∧ g 92 (5 * r + 3) = e ∧ g 92 (5 * r + 4) = f) ∧ (∀ j, j < 5 * r → g 92 j = h 92 j) ∧ ∀ x, x ≠ 91 → x ≠ 92 → g x = h x := by
  obtain ⟨c0, c1, c3⟩ := c
  have k : ∀ j x, ∀ q : PH, up q 92 j x 91 1 = q 91 1 := fun j x q => up_oc (by decide)
  have k3 : ∀ j x, ∀ q : PH, up q 92 j x 91 3 = q 91 3 := fun j x q => up_oc (by decide)
  have xi : ∀ j, j < 5 → ix (nI (5 * r + j)) = 5 * r + j := fun j hj => nI_clamp (by omega)
  have add : mR_add 91 a b d e f h = some (1, up (up (up (up (up (up h 92 (5 * r) a) 92 (5 * r + 1) b) 92 (5 * r + 2) d) 92 (5 * r + 3) e) 92 (5 * r + 4) f) 91 3 (nI (r + 1))) := by
    unfold mR_add
    rw [c3, c0, if_pos (show nI r < (16 : Int32) from nI_lt (b := 16) hr (by decide)), lt_e, c1, show nI r * (5 : Int32) = nI (r * 5) from nI_mul r 5, Nat.mul_comm r 5, show ln (91 + 1) = 80 from rfl, ck_nI (by omega) (by decide), lt_e, show ix (nI (5 * r)) = 5 * r from nI_clamp (by omega), jn1_e, k, c1, if_neg (by decide), nI_1, ck_nI (by omega) (by decide), lt_e, xi 1 (by decide)]
    dsimp only
    rw [jn1_e, k, k, c1, if_neg (by decide), show nI (5 * r) + (2 : Int32) = nI (5 * r + 2) from nI_add _ 2, ck_nI (by omega) (by decide), lt_e, xi 2 (by decide)]
    dsimp only
    rw [jn1_e, k, k, k, c1, if_neg (by decide), show nI (5 * r) + (3 : Int32) = nI (5 * r + 3) from nI_add _ 3, ck_nI (by omega) (by decide), lt_e, xi 3 (by decide)]
    dsimp only
    rw [jn1_e, k, k, k, k, c1, if_neg (by decide), show nI (5 * r) + (4 : Int32) = nI (5 * r + 4) from nI_add _ 4, ck_nI (by omega) (by decide), lt_e, xi 4 (by decide)]
    dsimp only
    rw [lt_e, k3, k3, k3, k3, k3, c3, nI_1]
  refine ⟨_, add, ⟨?_, ?_, up_same⟩, ⟨?_, ?_, ?_, ?_, ?_⟩, fun j hj => ?_, fun x x1 x2 => ?_⟩
  · rw [up_oj (by decide), up_oc (by decide), up_oc (by decide), up_oc (by decide), up_oc (by decide), up_oc (by decide)]; exact c0
  · rw [up_oj (by decide), k, k, k, k, k]; exact c1
  · rw [up_oc (by decide), up_oj (by omega), up_oj (by omega), up_oj (by omega), up_oj (by omega), up_same]
  · rw [up_oc (by decide), up_oj (by omega), up_oj (by omega), up_oj (by omega), up_same]
  · rw [up_oc (by decide), up_oj (by omega), up_oj (by omega), up_same]
  · rw [up_oc (by decide), up_oj (by omega), up_same]
  · rw [up_oc (by decide), up_same]
  · rw [up_oc (by decide), up_oj (by omega), up_oj (by omega), up_oj (by omega), up_oj (by omega), up_oj (by omega)]
  · rw [up_cell x1, up_cell x2, up_cell x2, up_cell x2, up_cell x2, up_cell x2]
theorem cu_of {s : Nat} {B : Nat → Nat} {L N i : Nat} {h g : PH} (c : CU s B L N i h) (f : ∀ b, 85 ≤ b → b ≤ 90 → g b = h b) : CU s B L N i g := by
  obtain ⟨c1, c2, c3, c4, c5, c6, c7⟩ := c
  refine ⟨ctk_b c1 (f 85 (by decide) (by decide)) (f 86 (by decide) (by decide)) (f 87 (by decide) (by decide)) (f 88 (by decide) (by decide)) (f 89 (by decide) (by decide)), c2, ?_, ?_, ?_, ?_, ?_⟩
  · rw [f 90 (by decide) (by decide)]; exact c3
  · rw [f 90 (by decide) (by decide), f 87 (by decide) (by decide)]; exact c4
  · rw [f 90 (by decide) (by decide), f 88 (by decide) (by decide)]; exact c5
  · rw [f 90 (by decide) (by decide)]; exact c6
  · rw [f 90 (by decide) (by decide)]; exact c7
/-- codes and lines of a law: of each line its word, its sum, its condition -/
def cdo (Ls : List (Nat × List (Nat × Nat) × List (Nat × Nat))) : List (Nat × Nat) := Ls.flatMap (fun l => l.2.1 ++ l.2.2)
def LCl (Ls : List (Nat × List (Nat × Nat) × List (Nat × Nat))) (h : PH) : Prop := ∀ r w A W, Ls[r]? = some (w, A, W) → h 92 (5 * r) = nI w ∧ h 92 (5 * r + 1) = nI (cdo (Ls.take r)).length ∧ h 92 (5 * r + 2) = nI (cdo (Ls.take r) ++ A).length ∧ h 92 (5 * r + 3) = nI (cdo (Ls.take r) ++ A ++ W).length
def LMl (Ls : List (Nat × List (Nat × Nat) × List (Nat × Nat))) (h : PH) : Prop := ∀ r w A W, Ls[r]? = some (w, A, W) → h 114 (32 + r) = nI w ∧ h 115 (32 + r) = nI (xp (cdo (Ls.take r))).length ∧ h 116 (32 + r) = nI (xp (cdo (Ls.take r) ++ A)).length ∧ h 117 (32 + r) = nI (xp (cdo (Ls.take r) ++ A ++ W)).length
def LQ (Ls : List (Nat × List (Nat × Nat) × List (Nat × Nat))) : Prop := ∀ l, l ∈ Ls → l.1 < 3 ∧ Qv PT 3 l.2.1 ∧ (l.2.2 = [] ∨ (l.2.2 ≠ [] ∧ Qv P01 22 l.2.2))
theorem lapp_at {α : Type} {Ls : List α} {l l' : α} {r : Nat} (h : (Ls ++ [l])[r]? = some l') : (r < Ls.length ∧ Ls[r]? = some l' ∧ (Ls ++ [l]).take r = Ls.take r) ∨ (r = Ls.length ∧ l' = l ∧ (Ls ++ [l]).take r = Ls) := by
  by_cases z : r < Ls.length
  · rw [List.getElem?_append_left z] at h
    exact Or.inl ⟨z, h, List.take_append_of_le_length (by omega)⟩
  · rw [List.getElem?_append_right (by omega)] at h
    obtain ⟨a, _⟩ := List.getElem?_eq_some_iff.mp h
    have a : r - Ls.length < 1 := a
    have er : r = Ls.length := by omega
    subst er
    rw [Nat.sub_self] at h
    have h : some l = some l' := h
    cases h
    exact Or.inr ⟨rfl, rfl, by rw [List.take_left]⟩
/-- class and model frames of a line -/
def FL (r : Nat) (h g : PH) : Prop := (∀ b, b ≠ 90 → b ≠ 91 → b ≠ 92 → b ≠ 93 → b ≠ 94 → g b = h b) ∧ g 90 8 = h 90 8 ∧ ∀ j, j < 5 * r → g 92 j = h 92 j
def FN (r : Nat) (h g : PH) : Prop := (∀ b, b ≠ 104 → (b < 114 ∨ 120 < b) → g b = h b) ∧ (∀ j, j ≠ 12 → j ≠ 13 → j ≠ 14 → j ≠ 15 → j ≠ 25 → j ≠ 26 → j ≠ 28 → j ≠ 29 → j ≠ 30 → g 104 j = h 104 j) ∧ ∀ b j, 114 ≤ b → b ≤ 117 → j ≠ 32 + r → g b j = h b j
theorem fl_t {r : Nat} {h g f : PH} (a : FL r h g) (b : FL r g f) : FL r h f := ⟨fun x x1 x2 x3 x4 x5 => by rw [b.1 x x1 x2 x3 x4 x5, a.1 x x1 x2 x3 x4 x5], by rw [b.2.1, a.2.1], fun j hj => by rw [b.2.2 j hj, a.2.2 j hj]⟩
theorem fn_t {r : Nat} {h g f : PH} (a : FN r h g) (b : FN r g f) : FN r h f := ⟨fun x x1 x2 => by rw [b.1 x x1 x2, a.1 x x1 x2], fun j j1 j2 j3 j4 j5 j6 j7 j8 j9 => by rw [b.2.1 j j1 j2 j3 j4 j5 j6 j7 j8 j9, a.2.1 j j1 j2 j3 j4 j5 j6 j7 j8 j9], fun x j x1 x2 x3 => by rw [b.2.2 x j x1 x2 x3, a.2.2 x j x1 x2 x3]⟩
theorem fl_c {r : Nat} {h g : PH} (a : FC h g) : FL r h g := ⟨fun x x1 _ _ x4 x5 => a.1 x x1 x4 x5, a.2, fun j _ => by rw [a.1 92 (by decide) (by decide) (by decide)]⟩
theorem fn_m {r : Nat} {h g : PH} (a : FM h g) : FN r h g := ⟨fun x x1 x2 => a.1 x x1 (by omega) (by omega) (by omega), a.2, fun x j x1 x2 _ => by rw [a.1 x (by omega) (by omega) (by omega) (by omega)]⟩
theorem fn_up {r : Nat} (h : PH) {c : Nat} (hc : 114 ≤ c ∧ c ≤ 117) (v : Int32) : FN r h (up h c (32 + r) v) := ⟨fun x x1 x2 => up_cell (by omega), fun j _ _ _ _ _ _ _ _ _ => up_oc (by omega), fun x j _ _ x3 => by
  by_cases z : x = c
  · rw [z, up_oj x3]
  · rw [up_oc z]⟩
theorem fl_r (r : Nat) (h : PH) : FL r h h := fl_c (fc_r h)
theorem fn_r (r : Nat) (h : PH) : FN r h h := fn_m (fm_r h)
theorem jj_up {s : Nat} {B : Nat → Nat} {L N i w : Nat} {C : List (Nat × Nat)} {hc hm : PH} (j : JJ s B L N i w C hc hm) {c k : Nat} (hk : 114 ≤ c ∧ c ≤ 117) (v : Int32) : JJ s B L N i w C hc (up hm c k v) := ⟨j.1, mu_of j.2.1 (up_cell (by omega)) (up_cell (by omega)) (fun q _ _ => up_oc (by omega)), j.2.2.1, mc_of j.2.2.2.1 (up_cell (by omega)) (up_cell (by omega)) (up_oc (by omega)), j.2.2.2.2⟩
/-- the model's line behind sum and condition -/
def tlM (k0 k1 : PH → Option (Int32 × PH)) (k2 : Int32 → PH → Option (Int32 × PH)) (n : Nat) (v1 x2 : Int32) (h11 : PH) : Option (Int32 × PH) := ck x2 48 <| lt (up h11 117 (ix x2) (h11 104 25)) fun h12 => bd (mm_isSign 59 h12) fun r13 => if r13 = 0 then k1 h12 else bd (mm_reads h12) fun h14 => lt (v1 + 1) fun x15 => mm_readLaw_L2 k0 k1 k2 n x15 h14
def tlC (x1 x3 x6 : Int32) (h9 : PH) : Option (Int32 × PH) := bd2 (mD_takesSign 59 h9) fun r10 h11 => if r10 = 0 then some (0, h11) else bd2 (mR_add 91 x1 x3 x6 (h11 93 3) 0 h11) fun r12 h13 => if r12 = 0 then some (0, h13) else some (1, h13)
/-- both stand behind a line, r of them are done -/
def JL (s : Nat) (B : Nat → Nat) (L N i : Nat) (C : List (Nat × Nat)) (r : Nat) (hc hm : PH) : Prop := JJ s B L N i 0 C hc hm ∧ CR r hc ∧ hm 104 26 = 0
/-- how a line ends: r + 1 are done; or both have the same fault -/
theorem tl_sim {B : Nat → Nat} {L N i r : Nat} {C : List (Nat × Nat)} {hc hm : PH} (k0 : PH → Option (Int32 × PH)) (k2 : Int32 → PH → Option (Int32 × PH)) (n : Nat) (x1 x3 x6 : Int32) (j : JL 0 B L N i C r hc hm) (hr : r < 16) : (∃ gc gm, tlC x1 x3 x6 hc = some (1, gc) ∧ tlM k0 kp1 k2 n (nI r) (nI (32 + r)) hm = mm_readLaw_L2 k0 kp1 k2 n (nI (r + 1)) gm ∧ JL 0 B L N (i + 1) C (r + 1) gc gm ∧ (gc 92 (5 * r) = x1 ∧ gc 92 (5 * r + 1) = x3 ∧ gc 92 (5 * r + 2) = x6 ∧ gc 92 (5 * r + 3) = nI C.length) ∧ gm 117 (32 + r) = nI (xp C).length ∧ (∀ b, 114 ≤ b → b ≤ 116 → gm b = hm b) ∧ FL r hc gc ∧ FN r hm gm) ∨ (∃ gc gm, tlC x1 x3 x6 hc = some (0, gc) ∧ tlM k0 kp1 k2 n (nI r) (nI (32 + r)) hm = some (-1, gm) ∧ FF gc gm ∧ FL r hc gc ∧ FN r hm gm) := by
  obtain ⟨jj, cr, o⟩ := j
  have e25 := jj.2.2.2.1.1
  unfold tlC tlM mD_takesSign
  rw [ck_nI (show 32 + r < 48 by omega) (by decide), lt_e, show ix (nI (32 + r)) = 32 + r from nI_clamp (by omega), e25]
  have j2 := jj_up jj (c := 117) (k := 32 + r) (by omega) (nI (xp C).length)
  by_cases x : (tt B L i).1 = 4 ∧ (tt B L i).2 = 59
  · obtain ⟨gm, d1, d2, d3, d4, d5⟩ := j_adv j2 (by omega)
    have cr2 : CR r (avH hc (i + 1)) := by unfold CR; rw [avH_b hc _ 91 (by decide)]; exact cr
    obtain ⟨gc, a1, a2, a3, a4, a5⟩ := ad_91 cr2 hr x1 x3 x6 (avH hc (i + 1) 93 3) 0
    have e93 : avH hc (i + 1) 93 3 = nI C.length := d3.2.2.1.2.2.1
    rw [show mD_isSign 59 hc = some 1 from c_s1 (x := 59) jj.1 x (by decide), bd_e, if_neg no10, d1, bd_e, bd2_e, if_neg no10, a1, bd2_e, if_neg no10, show mm_isSign 59 (up hm 117 (32 + r) (nI (xp C).length)) = some 1 from m_s1 (x := 59) j2.2.1 x (by decide), bd_e, if_neg no10, d2, bd_e, lt_e, nI_1]
    refine Or.inl ⟨gc, gm, rfl, rfl, ⟨⟨cu_of d3.1 (fun b b1 b2 => a5 b (by omega) (by omega)), d3.2.1, cc_b d3.2.2.1 (a5 93 (by decide) (by decide)) (a5 94 (by decide) (by decide)), d3.2.2.2.1, by have := d3.2.2.2.2; omega⟩, a2, ?_⟩, ⟨a3.1, a3.2.1, a3.2.2.1, by rw [a3.2.2.2.1, e93]⟩, ?_, fun b b1 b2 => ?_, ?_, ?_⟩
    · rw [d5.2 26 (by decide) (by decide) (by decide) (by decide), up_oc (by decide)]; exact o
    · rw [d5.1 117 (by decide), up_same]
    · rw [d5.1 b (by omega), up_cell (by omega)]
    · exact fl_t (fl_c d4) ⟨fun x _ x2 x3 _ _ => a5 x x2 x3, by rw [a5 90 (by decide) (by decide)], a4⟩
    · exact fn_t (fn_up hm (by omega) _) (fn_m (fm_x (fx_4 d5)))
  · obtain ⟨gc, gm, r1, r2, r3, r4, r5⟩ := j_ref j2 1
    rw [show mD_isSign 59 hc = some 0 from c_s0 (x := 59) jj.1 x (by decide), bd_e, if_pos rfl, r1, bd2_e, bd2_e, if_pos (show nb 0 = (0 : Int32) from rfl), show mm_isSign 59 (up hm 117 (32 + r) (nI (xp C).length)) = some 0 from m_s0 (x := 59) j2.2.1 x (by decide), bd_e, if_pos rfl]
    unfold kp1
    rw [r2, bd2_e]
    exact Or.inr ⟨gc, gm, rfl, rfl, r3, fl_c r4, fn_t (fn_up hm (by omega) _) (fn_m (fm_x r5))⟩
theorem c_lw {B : Nat → Nat} {L N i : Nat} {h : PH} (c : CU 0 B L N i h) {w : Nat} (x : (tt B L i).1 = 2 ∧ (tt B L i).2 = w) (hw : w < 19) : h 90 6 = 1 ∧ h 90 7 = nI w := by
  rcases cu_tk c with ⟨a, _⟩ | ⟨a, _⟩ | ⟨_, _, ⟨y, y1, y2, f, f2⟩ | ⟨f, f2⟩⟩ | ⟨a, _⟩ | ⟨a, _⟩
  · omega
  · omega
  · rw [wv0l] at y1
    rw [wv0 y y1] at y2
    exact ⟨f, by rw [f2, y2, x.2]⟩
  · exact absurd (by rw [wv0 w hw, x.2]) (f2 w (by rw [wv0l]; exact hw))
  · omega
  · omega
theorem m_lw {B : Nat → Nat} {L i : Nat} {h : PH} (m : MU B L i h) {w : Nat} (x : (tt B L i).1 = 2 ∧ (tt B L i).2 = w) : h 104 14 = 2 ∧ h 104 15 = nI w := by
  have k : TkM (tt B L i) (h 104 14) (h 104 15) := m.2.2.2
  rcases k with ⟨a, _⟩ | ⟨a, _⟩ | ⟨_, _, e, e2⟩ | ⟨a, _⟩ | ⟨a, _⟩
  · omega
  · omega
  · exact ⟨e, by rw [e2, x.2]⟩
  · omega
  · omega
/-- a line of the law -/
theorem ll_sim {B : Nat → Nat} {L N i r w : Nat} {Ls : List (Nat × List (Nat × Nat) × List (Nat × Nat))} {hc hm : PH} (k0 : PH → Option (Int32 × PH)) (k2 : Int32 → PH → Option (Int32 × PH)) (n : Nat) (j : JL 0 B L N i (cdo Ls) r hc hm) (hl : Ls.length = r) (lc : LCl Ls hc) (lm : LMl Ls hm) (lq : LQ Ls) (hr : r < 16) (x : (tt B L i).1 = 2 ∧ (tt B L i).2 = w) (hw : w < 3) : (∃ i2 Ls2 gc gm, i < i2 ∧ mD_lawLine hc = some (1, gc) ∧ mm_readLaw_L2 k0 kp1 k2 (n + 1) (nI r) hm = mm_readLaw_L2 k0 kp1 k2 n (nI (r + 1)) gm ∧ JL 0 B L N i2 (cdo Ls2) (r + 1) gc gm ∧ Ls2.length = r + 1 ∧ LCl Ls2 gc ∧ LMl Ls2 gm ∧ LQ Ls2 ∧ FL r hc gc ∧ FN r hm gm) ∨ (∃ gc gm, mD_lawLine hc = some (0, gc) ∧ mm_readLaw_L2 k0 kp1 k2 (n + 1) (nI r) hm = some (-1, gm) ∧ FF gc gm ∧ FL r hc gc ∧ FN r hm gm) := by
  obtain ⟨jj, cr, o⟩ := j
  obtain ⟨mw1, mw2⟩ := m_lw jj.2.1 x
  obtain ⟨cw1, cw2⟩ := c_lw jj.1 x (by omega)
  have ilw : mm_isLineWord hm = some 1 := by
    unfold mm_isLineWord
    rw [mw1, if_pos rfl, mw2, isIn_y (show (0 : Int32) ≤ nI w ∧ nI w ≤ (2 : Int32) from ⟨nI_le (a := 0) (by omega) (by omega), nI_le (b := 2) (by omega) (by decide)⟩), bd_e, if_neg no10]
  generalize hC : cdo Ls = C at jj
  have x32 : (32 : Int32) + nI r = nI (32 + r) := nI_add 32 r
  have ixx : ix (nI (32 + r)) = 32 + r := nI_clamp (by omega)
  -- the model's line, piece by piece
  have ml : mm_readLaw_L2 k0 kp1 k2 (n + 1) (nI r) hm = bd (mm_reads (up hm 114 (32 + r) (nI w))) fun h4 => bd2 (mm_readSum (up h4 115 (32 + r) (h4 104 25))) fun r6 h7 => if r6 = (-1) then some ((-1), h7) else bd (mm_isWord 3 (up h7 116 (32 + r) (h7 104 25))) fun r9 => if r9 = 0 then tlM k0 kp1 k2 n (nI r) (nI (32 + r)) (up h7 116 (32 + r) (h7 104 25)) else bd (mm_reads (up h7 116 (32 + r) (h7 104 25))) fun h16 => bd2 (mm_readAny h16) fun r17 h18 => if r17 = (-1) then some ((-1), h18) else tlM k0 kp1 k2 n (nI r) (nI (32 + r)) h18 := by
    have ckk : ∀ (q : Option (Int32 × PH)), ck (nI (32 + r)) 48 q = q := fun q => ck_nI (by omega) (by decide)
    rw [mm_readLaw_L2, ilw, bd_e, if_neg no10, if_neg (show ¬ nI r = (16 : Int32) from fun z => by have := (nI_eq (b := 16) (by omega) (by decide)).mp z; omega), lt_e, x32, ckk, mw2, ixx]
    simp only [lt_e, ckk, ixx, jn1_e]
    unfold tlM
    simp only [ckk, ixx, lt_e]
  have cl : mD_lawLine hc = bd (mD_advance hc) fun h2 => bd2 (mD_expression h2) fun r4 h5 => if r4 = 0 then some (0, h5) else bd (mD_isWord 3 h5) fun r7 => if r7 = 0 then tlC (nI w) (h2 93 3) (h5 93 3) h5 else bd (mD_advance h5) fun h14 => bd2 (mD_condition 30 0 h14) fun r15 h16 => if r15 = 0 then some (0, h16) else tlC (nI w) (h2 93 3) (h5 93 3) h16 := by
    unfold mD_lawLine
    rw [cw2]
    rfl
  have j1 := jj_up jj (c := 114) (k := 32 + r) (by omega) (nI w)
  obtain ⟨gm1, d1, d2, d3, d4, d5⟩ := j_adv j1 (by omega)
  rw [cl, ml, d1, bd_e, d2, bd_e]
  have e25 := d3.2.2.2.1.1
  have e93 : avH hc (i + 1) 93 3 = nI C.length := d3.2.2.1.2.2.1
  rw [e25, e93]
  have j2 := jj_up d3 (c := 115) (k := 32 + r) (by omega) (nI (xp C).length)
  have fnA : FN r hm (up gm1 115 (32 + r) (nI (xp C).length)) := fn_t (fn_t (fn_up hm (by omega) _) (fn_m (fm_x (fx_4 d5)))) (fn_up gm1 (by omega) _)
  rcases ex_sim (jj_w j2 (show 1 ≤ 0 + 1 by decide)) with ⟨i2, A, hc2, hm2, e1, e2, e3, e4, e5, e6, e7⟩ | ⟨hc2, hm2, e1, e2, e3, e4, e5⟩
  · rw [e1, bd2_e, if_neg no10, e2, bd2_e, if_neg (show ¬ (0 : Int32) = -1 by decide)]
    have f25 := e4.2.2.2.1.1
    have f93 : hc2 93 3 = nI (C ++ A).length := e4.2.2.1.2.2.1
    rw [f25, f93]
    have j3 := jj_up e4 (c := 116) (k := 32 + r) (by omega) (nI (xp (C ++ A)).length)
    have fnB : FN r hm (up hm2 116 (32 + r) (nI (xp (C ++ A)).length)) := fn_t (fn_t fnA (fn_m (fm_x e7))) (fn_up hm2 (by omega) _)
    have flB : FL r hc hc2 := fl_t (fl_c d4) (fl_c e6)
    have v114 : up hm2 116 (32 + r) (nI (xp (C ++ A)).length) 114 (32 + r) = nI w := by rw [up_oc (by decide), e7.1 114 (by decide) (by decide) (by decide), up_oc (by decide), d5.1 114 (by decide), up_same]
    have v115 : up hm2 116 (32 + r) (nI (xp (C ++ A)).length) 115 (32 + r) = nI (xp C).length := by rw [up_oc (by decide), e7.1 115 (by decide) (by decide) (by decide), up_same]
    have v116 : up hm2 116 (32 + r) (nI (xp (C ++ A)).length) 116 (32 + r) = nI (xp (C ++ A)).length := up_same
    have o3 : up hm2 116 (32 + r) (nI (xp (C ++ A)).length) 104 26 = 0 := by rw [up_oc (by decide), e7.2 26 (by decide) (by decide) (by decide) (by decide) (by decide) (by decide) (by decide), up_oc (by decide), d5.2 26 (by decide) (by decide) (by decide) (by decide), up_oc (by decide)]; exact o
    generalize up hm2 116 (32 + r) (nI (xp (C ++ A)).length) = hm3 at j3 fnB v114 v115 v116 o3 ⊢
    have cr2 : ∀ g, FL r hc g → g 91 = hc 91 → CR r g := fun g _ e => by unfold CR; rw [e]; exact cr
    have h91 : hc2 91 = hc 91 := by rw [e6.1 91 (by decide) (by decide) (by decide), d4.1 91 (by decide) (by decide) (by decide)]
    -- behind the condition, if there is one
    have fin : ∀ (i3 : Nat) (W : List (Nat × Nat)) (gc gm : PH), i2 ≤ i3 → (W = [] ∨ (W ≠ [] ∧ Qv P01 22 W)) → JJ 0 B L N i3 0 (C ++ A ++ W) gc gm → gm 104 26 = 0 → gc 91 = hc 91 → FL r hc gc → FN r hm gm → gm 114 (32 + r) = nI w → gm 115 (32 + r) = nI (xp C).length → gm 116 (32 + r) = nI (xp (C ++ A)).length → (∃ i2 Ls2 gc' gm', i < i2 ∧ tlC (nI w) (nI C.length) (nI (C ++ A).length) gc = some (1, gc') ∧ tlM k0 kp1 k2 n (nI r) (nI (32 + r)) gm = mm_readLaw_L2 k0 kp1 k2 n (nI (r + 1)) gm' ∧ JL 0 B L N i2 (cdo Ls2) (r + 1) gc' gm' ∧ Ls2.length = r + 1 ∧ LCl Ls2 gc' ∧ LMl Ls2 gm' ∧ LQ Ls2 ∧ FL r hc gc' ∧ FN r hm gm') ∨ (∃ gc' gm', tlC (nI w) (nI C.length) (nI (C ++ A).length) gc = some (0, gc') ∧ tlM k0 kp1 k2 n (nI r) (nI (32 + r)) gm = some (-1, gm') ∧ FF gc' gm' ∧ FL r hc gc' ∧ FN r hm gm') := fun i3 W gc gm hi3 hW j4 o4 h91' fl fn w1 w2 w3 => by
      rcases tl_sim k0 k2 n (nI w) (nI C.length) (nI (C ++ A).length) ⟨j4, cr2 gc fl h91', o4⟩ hr with ⟨gc', gm', t1, t2, t3, t4, t5, t6, t7, t8⟩ | ⟨gc', gm', t1, t2, t3, t4, t5⟩
      · have fl' := fl_t fl t7
        have fn' := fn_t fn t8
        have cde : cdo (Ls ++ [(w, A, W)]) = C ++ A ++ W := by
          unfold cdo
          rw [List.flatMap_append]
          show cdo Ls ++ (A ++ W ++ []) = _
          rw [hC, List.append_nil, List.append_assoc]
        refine Or.inl ⟨i3 + 1, Ls ++ [(w, A, W)], gc', gm', by omega, t1, t2, by rw [cde]; exact t3, by rw [List.length_append, hl]; rfl, ?_, ?_, ?_, fl', fn'⟩
        · intro q w' A' W' hq
          rcases lapp_at hq with ⟨z, z2, z3⟩ | ⟨z, z2, z3⟩
          · rw [z3, fl'.2.2 _ (by omega), fl'.2.2 _ (by omega), fl'.2.2 _ (by omega), fl'.2.2 _ (by omega)]
            exact lc q w' A' W' z2
          · cases z2
            rw [z3, z, hl, hC]
            exact t4
        · intro q w' A' W' hq
          rcases lapp_at hq with ⟨z, z2, z3⟩ | ⟨z, z2, z3⟩
          · rw [z3, fn'.2.2 114 _ (by decide) (by decide) (by omega), fn'.2.2 115 _ (by decide) (by decide) (by omega), fn'.2.2 116 _ (by decide) (by decide) (by omega), fn'.2.2 117 _ (by decide) (by decide) (by omega)]
            exact lm q w' A' W' z2
          · cases z2
            rw [z3, z, hl, hC, t6 114 (by decide) (by decide), t6 115 (by decide) (by decide), t6 116 (by decide) (by decide)]
            exact ⟨w1, w2, w3, t5⟩
        · intro l hl2
          rcases List.mem_append.mp hl2 with z | z
          · exact lq l z
          · have : l = (w, A, W) := by simpa using z
            rw [this]
            exact ⟨hw, e5, hW⟩
      · exact Or.inr ⟨gc', gm', t1, t2, t3, fl_t fl t4, fn_t fn t5⟩
    by_cases x3 : (tt B L i2).1 = 2 ∧ (tt B L i2).2 = 3
    · obtain ⟨gm4, a1, a2, a3, a4, a5⟩ := j_adv j3 (by omega)
      rw [show mD_isWord 3 hc2 = some 1 from c_w1 (x := 3) j3.1 x3 (by decide), bd_e, if_neg no10, a1, bd_e, show mm_isWord 3 hm3 = some 1 from m_w1 (x := 3) j3.2.1 x3 (by decide), bd_e, if_neg no10, a2, bd_e]
      rcases cd_sim (jj_w a3 (Nat.zero_le _)) (by rw [a5.2 26 (by decide) (by decide) (by decide) (by decide)]; exact o3) with ⟨i3, W, gc, gm, b1, b2, b3, b4, b5, b6, b7, b8⟩ | ⟨gc, gm, b1, b2, b3, b4, b5⟩
      · rw [b2, bd2_e, if_neg no10, b3, bd2_e, if_neg (show ¬ (0 : Int32) = -1 by decide)]
        have fm4 : FM hm3 gm := fm_t (fm_x (fx_4 a5)) b8
        refine fin i3 W gc gm (by omega) (Or.inr ⟨?_, b6⟩) b4 b5 ?_ (fl_t flB (fl_t (fl_c a4) (fl_c b7))) (fn_t fnB (fn_m fm4)) ?_ ?_ ?_
        · intro z
          subst z
          obtain ⟨_, f, _, f2⟩ := b6
          have := (f2 (fun _ => 0) [] (by decide)).1
          rw [evC] at this
          cases this
        · rw [b7.1 91 (by decide) (by decide) (by decide), a4.1 91 (by decide) (by decide) (by decide)]; exact h91
        · rw [fm4.1 114 (by decide) (by decide) (by decide) (by decide)]; exact v114
        · rw [fm4.1 115 (by decide) (by decide) (by decide) (by decide)]; exact v115
        · rw [fm4.1 116 (by decide) (by decide) (by decide) (by decide)]; exact v116
      · rw [b1, bd2_e, if_pos rfl, b2, bd2_e, if_pos rfl]
        exact Or.inr ⟨gc, gm, rfl, rfl, b3, fl_t flB (fl_t (fl_c a4) (fl_c b4)), fn_t fnB (fn_m (fm_t (fm_x (fx_4 a5)) b5))⟩
    · rw [show mD_isWord 3 hc2 = some 0 from c_w0 (x := 3) j3.1 x3 (by decide), bd_e, if_pos rfl, show mm_isWord 3 hm3 = some 0 from m_w0 (x := 3) j3.2.1 x3 (by decide), bd_e, if_pos rfl]
      exact fin i2 [] hc2 hm3 (Nat.le_refl _) (Or.inl rfl) (by rw [List.append_nil]; exact jj_w j3 (Nat.zero_le _)) o3 h91 flB fnB v114 v115 v116
  · rw [e1, bd2_e, if_pos rfl, e2, bd2_e, if_pos rfl]
    exact Or.inr ⟨hc2, hm2, rfl, rfl, e3, fl_t (fl_c d4) (fl_c e4), fn_t fnA (fn_m (fm_x e5))⟩
end
section
/-! LINES of sky, office, next; NUMBERS and SIGNS on both sides -/
theorem m_nm {B : Nat → Nat} {L i : Nat} {h : PH} (m : MU B L i h) (x : (tt B L i).1 = 3) : h 104 14 = 3 ∧ h 104 15 = nI (tt B L i).2 ∧ (tt B L i).2 < 10000 := by
  have k : TkM (tt B L i) (h 104 14) (h 104 15) := m.2.2.2
  rcases k with ⟨a, _⟩ | ⟨a, _⟩ | ⟨a, _⟩ | ⟨_, b, e, e2⟩ | ⟨a, _⟩
  · omega
  · omega
  · omega
  · exact ⟨e, e2, b⟩
  · omega
theorem m_nn {B : Nat → Nat} {L i : Nat} {h : PH} (m : MU B L i h) (x : ¬ (tt B L i).1 = 3) : ¬ h 104 14 = 3 := fun z => by
  have k : TkM (tt B L i) (h 104 14) (h 104 15) := m.2.2.2
  rcases k with ⟨_, y⟩ | ⟨_, y⟩ | ⟨_, _, y, _⟩ | ⟨y, _⟩ | ⟨_, _, y, _⟩
  · rw [y] at z; exact absurd z (by decide)
  · rw [y] at z; exact absurd z (by decide)
  · rw [y] at z; exact absurd z (by decide)
  · exact x y
  · rw [y] at z; exact absurd z (by decide)
theorem c_nm {s : Nat} {B : Nat → Nat} {L N i : Nat} {h : PH} (c : CU s B L N i h) (x : (tt B L i).1 = 3) : h 90 6 = 2 ∧ h 90 7 = nI (tt B L i).2 := by
  rcases cu_tk c with ⟨a, _⟩ | ⟨a, _⟩ | ⟨a, _⟩ | ⟨_, b, e, e2⟩ | ⟨a, _⟩
  · omega
  · omega
  · omega
  · exact ⟨e, e2⟩
  · omega
theorem c_nn {s : Nat} {B : Nat → Nat} {L N i : Nat} {h : PH} (c : CU s B L N i h) (x : ¬ (tt B L i).1 = 3) : ¬ h 90 6 = 2 := fun z => by
  rcases cu_tk c with ⟨_, y⟩ | ⟨_, y⟩ | ⟨_, _, ⟨_, _, _, y, _⟩ | ⟨y, _⟩⟩ | ⟨y, _⟩ | ⟨_, _, y, _⟩
  · rw [y] at z; exact absurd z (by decide)
  · rw [y] at z; exact absurd z (by decide)
  · rw [y] at z; exact absurd z (by decide)
  · rw [y] at z; exact absurd z (by decide)
  · exact x y
  · rw [y] at z; exact absurd z (by decide)
def EX2 (hc hm : PH) (rc rm : Option (Int32 × PH)) : Prop := ∃ gc gm, rc = some (0, gc) ∧ rm = some (-1, gm) ∧ FF gc gm ∧ FC hc gc ∧ FX hm gm
theorem ex2_of {s : Nat} {B : Nat → Nat} {L N i w : Nat} {C : List (Nat × Nat)} {hc hm : PH} (j : JJ s B L N i w C hc hm) (p : Int32) {rc rm : Option (Int32 × PH)} (ec : rc = bd2 (mD_refuse p hc) fun r h => some (nb r, h)) (em : rm = bd2 (mm_errs p hm) fun r h => some (r, h)) : EX2 hc hm rc rm := by
  obtain ⟨gc, gm, r1, r2, r3, r4, r5⟩ := j_ref j p
  rw [r1, bd2_e] at ec
  rw [r2, bd2_e] at em
  exact ⟨gc, gm, ec, em, r3, r4, r5⟩
theorem nb_sim {s : Nat} {B : Nat → Nat} {L N i w : Nat} {C : List (Nat × Nat)} {hc hm : PH} (j : JJ s B L N i w C hc hm) (lo hi : Int32) : (∃ v gc gm, (tt B L i).1 = 3 ∧ (tt B L i).2 = v ∧ v < 10000 ∧ lo ≤ nI v ∧ nI v ≤ hi ∧ mD_takesNumber lo hi hc = some (1, gc) ∧ mm_readNumber lo hi hm = some (nI v, gm) ∧ gc 90 9 = nI v ∧ JJ s B L N (i + 1) (w + 1) C gc gm ∧ FC hc gc ∧ FR4 hm gm) ∨ EX2 hc hm (mD_takesNumber lo hi hc) (mm_readNumber lo hi hm) := by
  by_cases x : (tt B L i).1 = 3
  · obtain ⟨m1, m2, m3⟩ := m_nm j.2.1 x
    obtain ⟨c1, c2⟩ := c_nm j.1 x
    by_cases y : lo ≤ nI (tt B L i).2 ∧ nI (tt B L i).2 ≤ hi
    · obtain ⟨gm, g1, g2, g3⟩ := mu_adv j.2.1
      have l := cu_lt j.1 (by omega)
      obtain ⟨k1, k2⟩ := cu_adv (cu_9 j.1 (nI (tt B L i).2)) l
      refine Or.inl ⟨(tt B L i).2, avH (up hc 90 9 (nI (tt B L i).2)) (i + 1), gm, x, rfl, m3, y.1, y.2, ?_, ?_, ?_, ⟨k2, g3, cc_b (cc_b j.2.2.1 (up_cell (by decide)) (up_cell (by decide))) (avH_b _ _ 93 (by decide)) (avH_b _ _ 94 (by decide)), mc_4 j.2.2.2.1 g2, by have := j.2.2.2.2; omega⟩, fc_t ⟨fun b b1 _ _ => up_cell b1, up_oj (by decide)⟩ (fc_av _ _), g2⟩
      · unfold mD_takesNumber
        rw [if_pos c1, c2, within_y y, bd_e, if_neg no10, lt_e, k1, bd_e]
      · unfold mm_readNumber
        rw [if_pos m1, m2, isIn_y y, bd_e, if_neg no10, lt_e, g1, bd_e]
      · rw [avH_o _ _ 9 (by decide) (by decide) (by decide), up_same]
    · refine Or.inr (ex2_of j 2 ?_ ?_)
      · unfold mD_takesNumber
        rw [if_pos c1, c2, within_n y, bd_e, if_pos rfl]
      · unfold mm_readNumber
        rw [if_pos m1, m2, isIn_n y, bd_e, if_pos rfl]
  · refine Or.inr (ex2_of j 1 ?_ ?_)
    · unfold mD_takesNumber
      rw [if_neg (c_nn j.1 x)]
    · unfold mm_readNumber
      rw [if_neg (m_nn j.2.1 x)]
theorem sn_sim {s : Nat} {B : Nat → Nat} {L N i w : Nat} {C : List (Nat × Nat)} {hc hm : PH} (j : JJ s B L N i w C hc hm) : (∃ gm, mD_takesSign 59 hc = some (1, avH hc (i + 1)) ∧ mm_readMark 59 hm = some (0, gm) ∧ JJ s B L N (i + 1) (w + 1) C (avH hc (i + 1)) gm ∧ FR4 hm gm) ∨ EX2 hc hm (mD_takesSign 59 hc) (mm_readMark 59 hm) := by
  unfold mD_takesSign mm_readMark
  by_cases x : (tt B L i).1 = 4 ∧ (tt B L i).2 = 59
  · obtain ⟨gm, d1, d2, d3, d4, d5⟩ := j_adv j (by omega)
    rw [show mD_isSign 59 hc = some 1 from c_s1 (x := 59) j.1 x (by decide), bd_e, if_neg no10, d1, bd_e, show mm_isSign 59 hm = some 1 from m_s1 (x := 59) j.2.1 x (by decide), bd_e, if_neg no10, d2, bd_e]
    exact Or.inl ⟨gm, rfl, rfl, d3, d5⟩
  · rw [show mD_isSign 59 hc = some 0 from c_s0 (x := 59) j.1 x (by decide), bd_e, if_pos rfl, show mm_isSign 59 hm = some 0 from m_s0 (x := 59) j.2.1 x (by decide), bd_e, if_pos rfl]
    exact Or.inr (ex2_of j 1 rfl rfl)
theorem jj_u {s : Nat} {B : Nat → Nat} {L N i w : Nat} {C : List (Nat × Nat)} {hc hm : PH} (j : JJ s B L N i w C hc hm) {c k : Nat} (hk : 121 ≤ c) (v : Int32) : JJ s B L N i w C hc (up hm c k v) := ⟨j.1, mu_of j.2.1 (up_cell (by omega)) (up_cell (by omega)) (fun q _ _ => up_oc (by omega)), j.2.2.1, mc_of j.2.2.2.1 (up_cell (by omega)) (up_cell (by omega)) (up_oc (by omega)), j.2.2.2.2⟩
theorem ff_u {hc hm : PH} (f : FF hc hm) {c k : Nat} (hk : 121 ≤ c) (v : Int32) : FF hc (up hm c k v) := ⟨by rw [up_oc (by omega)]; exact f.1, by rw [up_oc (by omega)]; exact f.2⟩
/-- a word of the text's own list, on both sides -/
theorem c_wv {s : Nat} {B : Nat → Nat} {L N i : Nat} {h : PH} (c : CU s B L N i h) (x : (tt B L i).1 = 2) : (∃ w, w < (wv s).length ∧ (wv s).getD w 99 = (tt B L i).2 ∧ h 90 6 = 1 ∧ h 90 7 = nI w) ∨ (h 90 6 = 4 ∧ ∀ w, w < (wv s).length → (wv s).getD w 99 ≠ (tt B L i).2) := by
  rcases cu_tk c with ⟨a, _⟩ | ⟨a, _⟩ | ⟨_, _, k⟩ | ⟨a, _⟩ | ⟨a, _⟩
  · omega
  · omega
  · exact k
  · omega
  · omega
theorem c_nw {s : Nat} {B : Nat → Nat} {L N i : Nat} {h : PH} (c : CU s B L N i h) (x : ¬ (tt B L i).1 = 2) : ¬ h 90 6 = 1 := fun z => by
  rcases cu_tk c with ⟨_, y⟩ | ⟨_, y⟩ | ⟨y, _⟩ | ⟨_, _, y, _⟩ | ⟨_, _, y, _⟩
  · rw [y] at z; exact absurd z (by decide)
  · rw [y] at z; exact absurd z (by decide)
  · exact x y
  · rw [y] at z; exact absurd z (by decide)
  · rw [y] at z; exact absurd z (by decide)
/-- how lines end: the class's row is added -/
theorem rw_add {s : Nat} {B : Nat → Nat} {L N i r w : Nat} {hc hm : PH} (j : JJ s B L N i w [] hc hm) (cr : CR r hc) (hr : r < 16) (a b d e f : Int32) : ∃ gc, mR_add 91 a b d e f hc = some (1, gc) ∧ JJ s B L N i w [] gc hm ∧ CR (r + 1) gc ∧ (gc 92 (5 * r) = a ∧ gc 92 (5 * r + 1) = b ∧ gc 92 (5 * r + 2) = d ∧ gc 92 (5 * r + 3) = e ∧ gc 92 (5 * r + 4) = f) ∧ FL r hc gc := by
  obtain ⟨gc, a1, a2, a3, a4, a5⟩ := ad_91 cr hr a b d e f
  exact ⟨gc, a1, ⟨cu_of j.1 (fun b b1 b2 => a5 b (by omega) (by omega)), j.2.1, cc_b j.2.2.1 (a5 93 (by decide) (by decide)) (a5 94 (by decide) (by decide)), j.2.2.2.1, j.2.2.2.2⟩, a2, a3, ⟨fun x _ x2 x3 _ _ => a5 x x2 x3, by rw [a5 90 (by decide) (by decide)], a4⟩⟩
theorem cr_c {r : Nat} {h g : PH} (c : CR r h) (f : FC h g) : CR r g := by
  unfold CR
  rw [f.1 91 (by decide) (by decide) (by decide)]
  exact c
def LOK (s : Nat) (B : Nat → Nat) (L N i r : Nat) (hc hm : PH) (rc rm : Option (Int32 × PH)) (Q : PH → PH → Prop) : Prop := (∃ i2 gc gm, i < i2 ∧ rc = some (1, gc) ∧ rm = some (0, gm) ∧ JJ s B L N i2 0 [] gc gm ∧ CR (r + 1) gc ∧ Q gc gm ∧ FL r hc gc) ∨ ∃ gc gm, rc = some (0, gc) ∧ rm = some (-1, gm) ∧ FF gc gm
/-- sky: class row (q, w, n), the model's (q, w - 1, n) -/
def SKQ (r : Nat) (hm gc gm : PH) : Prop := (∃ q w n, q ≤ 999 ∧ 1 ≤ w ∧ w ≤ 3 ∧ n ≤ 9 ∧ gc 92 (5 * r) = nI q ∧ gc 92 (5 * r + 1) = nI w ∧ gc 92 (5 * r + 2) = nI n ∧ gm 121 (48 + 3 * r) = nI q ∧ gm 121 (48 + 3 * r + 1) = nI (w - 1) ∧ gm 121 (48 + 3 * r + 2) = nI n) ∧ ∀ j, j < 48 + 3 * r → gm 121 j = hm 121 j
theorem wv1l : (wv 1).length = 4 := by decide
theorem wv1m : ∀ w, w < 4 → (wv 1).getD w 99 = [19, 16, 17, 20].getD w 99 := by decide
theorem sk_sim {B : Nat → Nat} {L N i r : Nat} {hc hm : PH} (j : JJ 1 B L N i 0 [] hc hm) (cr : CR r hc) (hr : r < 16) (x : (tt B L i).1 = 2 ∧ (tt B L i).2 = 19) : LOK 1 B L N i r hc hm (mD_skyLine hc) (mm_readSkyLine (nI (48 + 3 * r)) hm) (SKQ r hm) := by
  have x48 : ∀ k, k < 3 → ix (nI (48 + 3 * r + k)) = 48 + 3 * r + k := fun k hk => nI_clamp (by omega)
  have ck0 : ∀ k, k < 3 → ∀ (q : Option (Int32 × PH)), ck (nI (48 + 3 * r + k)) 96 q = q := fun k hk q => ck_nI (by omega) (by decide)
  have x0 : ix (nI (48 + 3 * r)) = 48 + 3 * r := nI_clamp (by omega)
  have ck1 : ∀ (q : Option (Int32 × PH)), ck (nI (48 + 3 * r)) 96 q = q := fun q => ck_nI (by omega) (by decide)
  have a1e : nI (48 + 3 * r) + 1 = nI (48 + 3 * r + 1) := nI_1 _
  have a2e : nI (48 + 3 * r) + 2 = nI (48 + 3 * r + 2) := nI_add _ 2
  obtain ⟨gm1, d1, d2, d3, d4, d5⟩ := j_adv j (by omega)
  unfold mD_skyLine mm_readSkyLine mm_readTold
  rw [d1, bd_e, show mm_isWord 19 hm = some 1 from m_w1 (x := 19) j.2.1 x (by decide), bd_e, if_neg no10, d2, bd_e]
  rcases nb_sim d3 0 999 with ⟨q, gc2, gm2, n1, n2, n3, n4, n5, n6, n7, n8, n9, n10, n11⟩ | ⟨gc2, gm2, e1, e2, e3, e4, e5⟩
  · rw [n6, bd2_e, if_neg no10, lt_e, n8, n7, bd2_e, bd2_e, ck1, lt_e (up gm2 121 (ix (nI (48 + 3 * r))) (nI q)), ck1, x0, up_same, if_neg (nI_nm1 (by omega))]
    have q9 : q ≤ 999 := by
      rw [Int32.le_iff_toInt_le, nI_toInt (by omega)] at n5
      have : (999 : Int32).toInt = 999 := rfl
      omega
    have j3 := jj_u n9 (c := 121) (k := 48 + 3 * r) (by decide) (nI q)
    have fl2 : FL r hc gc2 := fl_t (fl_c d4) (fl_c n10)
    have cr2 : CR r gc2 := cr_c (cr_c cr d4) n10
    have k121 : ∀ k, k ≠ 48 + 3 * r → up gm2 121 (48 + 3 * r) (nI q) 121 k = hm 121 k := fun k hk => by rw [up_oj hk, n11.1 121 (by decide), d5.1 121 (by decide)]
    have kq : up gm2 121 (48 + 3 * r) (nI q) 121 (48 + 3 * r) = nI q := up_same
    generalize up gm2 121 (48 + 3 * r) (nI q) = hm3 at j3 k121 kq ⊢
    by_cases y : ∃ w m, 1 ≤ w ∧ w ≤ 3 ∧ (wv 1).getD w 99 = m ∧ (tt B L (i + 1 + 1)).1 = 2 ∧ (tt B L (i + 1 + 1)).2 = m
    · obtain ⟨w, m, w1, w2, w3, w4, w5⟩ := y
      have cw : gc2 90 6 = 1 ∧ gc2 90 7 = nI w := by
        rcases c_wv j3.1 w4 with ⟨w', y1, y2, y3, y4⟩ | ⟨_, y2⟩
        · rw [wv1l] at y1
          have : w' = w := wv_inj 1 (by decide) w' (by rw [wv1l]; exact y1) w (by rw [wv1l]; omega) (by rw [y2, w5, w3])
          rw [← this]
          exact ⟨y3, y4⟩
        · exact absurd (by rw [w3, w5]) (y2 w (by rw [wv1l]; omega))
      obtain ⟨gm4, g1, g2, g3, g4, g5⟩ := j_adv j3 (by omega)
      rw [jn0_e, if_pos cw.1, cw.2, within_y (show (1 : Int32) ≤ nI w ∧ nI w ≤ (3 : Int32) from ⟨nI_le (a := 1) w1 (by omega), nI_le (b := 3) w2 (by decide)⟩), bd_e, if_neg no10, lt_e, g1, bd_e]
      -- the model's word
      have mw : ∀ K : Int32 → Option (Int32 × PH), (bd (mm_isWord 16 hm3) fun r4 => jn1 K fun j5 => if r4 = 0 then bd (mm_isWord 17 hm3) fun r19 => if r19 = 0 then bd (mm_isWord 20 hm3) fun r20 => if r20 = 0 then j5 (-1) else j5 2 else j5 1 else j5 0) = K (nI (w - 1)) := fun K => by
        have h3 : w = 1 ∨ w = 2 ∨ w = 3 := by omega
        rcases h3 with h3 | h3 | h3
        · subst h3
          have : m = 16 := w3.symm
          subst this
          rw [show mm_isWord 16 hm3 = some 1 from m_w1 (x := 16) j3.2.1 ⟨w4, w5⟩ (by decide), bd_e, jn1_e, if_neg no10]
          rfl
        · subst h3
          have : m = 17 := w3.symm
          subst this
          rw [show mm_isWord 16 hm3 = some 0 from m_w0 (x := 16) j3.2.1 (by omega) (by decide), bd_e, jn1_e, if_pos rfl, show mm_isWord 17 hm3 = some 1 from m_w1 (x := 17) j3.2.1 ⟨w4, w5⟩ (by decide), bd_e, if_neg no10]
          rfl
        · subst h3
          have : m = 20 := w3.symm
          subst this
          rw [show mm_isWord 16 hm3 = some 0 from m_w0 (x := 16) j3.2.1 (by omega) (by decide), bd_e, jn1_e, if_pos rfl, show mm_isWord 17 hm3 = some 0 from m_w0 (x := 17) j3.2.1 (by omega) (by decide), bd_e, if_pos rfl, show mm_isWord 20 hm3 = some 1 from m_w1 (x := 20) j3.2.1 ⟨w4, w5⟩ (by decide), bd_e, if_neg no10]
          rfl
      rw [mw]
      try dsimp only
      rw [if_neg (nI_nm1 (by omega)), g2, bd_e, a1e, ck0 1 (by decide), lt_e, x48 1 (by decide), a2e]
      have j5 := jj_u g3 (c := 121) (k := 48 + 3 * r + 1) (by decide) (nI (w - 1))
      have k5 : ∀ k, k < 48 + 3 * r → up gm4 121 (48 + 3 * r + 1) (nI (w - 1)) 121 k = hm 121 k := fun k hk => by rw [up_oj (by omega), g5.1 121 (by decide)]; exact k121 k (by omega)
      have k5q : up gm4 121 (48 + 3 * r + 1) (nI (w - 1)) 121 (48 + 3 * r) = nI q := by rw [up_oj (by omega), g5.1 121 (by decide)]; exact kq
      have k5w : up gm4 121 (48 + 3 * r + 1) (nI (w - 1)) 121 (48 + 3 * r + 1) = nI (w - 1) := up_same
      generalize up gm4 121 (48 + 3 * r + 1) (nI (w - 1)) = hm5 at j5 k5 k5q k5w ⊢
      have fl3 : FL r hc (avH gc2 (i + 1 + 1 + 1)) := fl_t fl2 (fl_c g4)
      have cr3 : CR r (avH gc2 (i + 1 + 1 + 1)) := cr_c cr2 g4
      -- behind the number, if there is one
      have fin : ∀ (i3 n w' : Nat) (gc gm : PH), i < i3 → n ≤ 9 → JJ 1 B L N i3 w' [] gc gm → CR r gc → FL r hc gc → (∀ k, k < 48 + 3 * r → gm 121 k = hm 121 k) → gm 121 (48 + 3 * r) = nI q → gm 121 (48 + 3 * r + 1) = nI (w - 1) → LOK 1 B L N i r hc hm (bd2 (mD_takesSign 59 gc) fun r14 h15 => if r14 = 0 then some (0, h15) else bd2 (mR_add 91 (nI q) (nI w) (nI n) 0 0 h15) fun r16 h17 => if r16 = 0 then some (0, h17) else some (1, h17)) (ck (nI (48 + 3 * r + 2)) 96 <| lt (up gm 121 (ix (nI (48 + 3 * r + 2))) (nI n)) fun h14 => ck (nI (48 + 3 * r + 2)) 96 <| if (h14 121 (ix (nI (48 + 3 * r + 2)))) = (-1) then some ((-1), h14) else bd2 (mm_readMark 59 h14) fun r15 h16 => some (r15, h16)) (SKQ r hm) := fun i3 n w' gc gm hi hn j6 cr6 fl6 k6 k7 k8 => by
        rw [ck0 2 (by decide), lt_e, ck0 2 (by decide), x48 2 (by decide), up_same, if_neg (nI_nm1 (by omega))]
        have j7 := jj_u j6 (c := 121) (k := 48 + 3 * r + 2) (by decide) (nI n)
        rcases sn_sim j7 with ⟨gm8, s1, s2, s3, s4⟩ | ⟨gc8, gm8, s1, s2, s3, s4, s5⟩
        · have cr8 : CR r (avH gc (i3 + 1)) := cr_c cr6 (fc_av gc _)
          obtain ⟨gc9, t1, t2, t3, t4, t5⟩ := rw_add s3 cr8 hr (nI q) (nI w) (nI n) 0 0
          rw [s1, bd2_e, if_neg no10, t1, bd2_e, if_neg no10, s2, bd2_e]
          refine Or.inl ⟨i3 + 1, gc9, gm8, by omega, rfl, rfl, jj_w t2 (Nat.zero_le _), t3, ⟨⟨q, w, n, q9, w1, w2, hn, t4.1, t4.2.1, t4.2.2.1, ?_, ?_, ?_⟩, fun k hk => ?_⟩, fl_t (fl_t fl6 (fl_c (fc_av gc _))) t5⟩
          · rw [s4.1 121 (by decide), up_oj (by omega)]; exact k7
          · rw [s4.1 121 (by decide), up_oj (by omega)]; exact k8
          · rw [s4.1 121 (by decide), up_same]
          · rw [s4.1 121 (by decide), up_oj (by omega)]; exact k6 k hk
        · rw [s1, bd2_e, if_pos rfl, s2, bd2_e]
          exact Or.inr ⟨gc8, gm8, rfl, rfl, s3⟩
      simp only [jn2_e]
      by_cases c1 : w = 1
      · subst c1
        rw [if_pos (show nI 1 = (1 : Int32) from rfl), if_pos (show nI (1 - 1) = (0 : Int32) from rfl)]
        rcases nb_sim j5 0 9 with ⟨n, gc6, gm6, p1, p2, p3, p4, p5, p6, p7, p8, p9, p10, p11⟩ | ⟨gc6, gm6, e1, e2, e3, e4, e5⟩
        · rw [p6, bd2_e, if_neg no10, lt_e, p8, p7, bd2_e]
          have n9' : n ≤ 9 := by
            rw [Int32.le_iff_toInt_le, nI_toInt (by omega)] at p5
            have : (9 : Int32).toInt = 9 := rfl
            omega
          exact fin _ n _ gc6 gm6 (by omega) n9' p9 (cr_c cr3 p10) (fl_t fl3 (fl_c p10)) (fun k hk => by rw [p11.1 121 (by decide)]; exact k5 k hk) (by rw [p11.1 121 (by decide)]; exact k5q) (by rw [p11.1 121 (by decide)]; exact k5w)
        · rw [e1, bd2_e, if_pos rfl, e2, bd2_e, ck0 2 (by decide), lt_e, ck0 2 (by decide), x48 2 (by decide), up_same, if_pos rfl]
          exact Or.inr ⟨gc6, _, rfl, rfl, ff_u e3 (by decide) _⟩
      · rw [if_neg (show ¬ nI w = (1 : Int32) from fun z => c1 ((nI_eq (b := 1) (by omega) (by decide)).mp z)), if_neg (show ¬ nI (w - 1) = (0 : Int32) from fun z => by have := (nI_eq (b := 0) (by omega) (by decide)).mp z; omega)]
        exact fin _ 0 _ _ hm5 (by omega) (by decide) j5 cr3 fl3 k5 k5q k5w
    · -- no such word
      have nm : ∀ w, 1 ≤ w → w ≤ 3 → ¬ ((tt B L (i + 1 + 1)).1 = 2 ∧ (tt B L (i + 1 + 1)).2 = (wv 1).getD w 99) := fun w w1 w2 z => y ⟨w, _, w1, w2, rfl, z.1, z.2⟩
      have m16 := nm 1 (by decide) (by decide)
      have m17 := nm 2 (by decide) (by decide)
      have m20 := nm 3 (by decide) (by decide)
      rw [show (wv 1).getD 1 99 = 16 from rfl] at m16
      rw [show (wv 1).getD 2 99 = 17 from rfl] at m17
      rw [show (wv 1).getD 3 99 = 20 from rfl] at m20
      rw [show mm_isWord 16 hm3 = some 0 from m_w0 (x := 16) j3.2.1 m16 (by decide), bd_e, jn1_e, if_pos rfl, show mm_isWord 17 hm3 = some 0 from m_w0 (x := 17) j3.2.1 m17 (by decide), bd_e, if_pos rfl, show mm_isWord 20 hm3 = some 0 from m_w0 (x := 20) j3.2.1 m20 (by decide), bd_e, if_pos rfl]
      try dsimp only
      rw [if_pos rfl, jn0_e]
      have cx : (if gc2 90 6 = 1 then bd (mX_within (gc2 90 7) 1 3 gc2) fun r8 => if r8 = 0 then bd2 (mD_refuse 1 gc2) fun r6 h7 => some (nb r6, h7) else (bd2 (mD_refuse 1 gc2) fun r6 h7 => some (nb r6, h7)) else bd2 (mD_refuse 1 gc2) fun r6 h7 => some (nb r6, h7)) = bd2 (mD_refuse 1 gc2) fun r6 h7 => some (nb r6, h7) := by
        split
        · rw [within_eq, bd_e]
          split <;> rfl
        · rfl
      have ref : ∀ K : Option (Int32 × PH), (if gc2 90 6 = 1 then bd (mX_within (gc2 90 7) 1 3 gc2) fun r8 => if r8 = 0 then (bd2 (mD_refuse 1 gc2) fun r6 h7 => some (nb r6, h7)) else K else bd2 (mD_refuse 1 gc2) fun r6 h7 => some (nb r6, h7)) = bd2 (mD_refuse 1 gc2) fun r6 h7 => some (nb r6, h7) := fun K => by
        by_cases c6 : gc2 90 6 = 1
        · rw [if_pos c6]
          have t2 : (tt B L (i + 1 + 1)).1 = 2 := by
            apply Classical.byContradiction
            intro z
            exact c_nw j3.1 z c6
          rcases c_wv j3.1 t2 with ⟨w', y1, y2, y3, y4⟩ | ⟨y1, _⟩
          · rw [wv1l] at y1
            have w0 : w' = 0 := by
              apply Classical.byContradiction
              intro z
              exact nm w' (by omega) (by omega) ⟨t2, y2.symm⟩
            rw [y4, w0, within_n (by decide), bd_e, if_pos rfl]
          · rw [y1] at c6; exact absurd c6 (by decide)
        · rw [if_neg c6]
      rw [ref]
      obtain ⟨gc8, gm8, s1, s2, s3, s4, s5⟩ := j_ref j3 1
      rw [s1, bd2_e, s2, bd2_e]
      exact Or.inr ⟨gc8, gm8, rfl, rfl, s3⟩
  · rw [e1, bd2_e, if_pos rfl, e2, bd2_e, bd2_e, ck1, lt_e, ck1, x0, up_same, if_pos rfl]
    exact Or.inr ⟨gc2, _, rfl, rfl, ff_u e3 (by decide) _⟩
end
section
/-! LINES of next and of the office -/
theorem le_n {v : Nat} {x : Int32} {y : Int} (hv : v < 10000) (h : nI v ≤ x) (e : x.toInt ≤ y) : (v : Int) ≤ y := by
  rw [Int32.le_iff_toInt_le, nI_toInt (by omega)] at h
  omega
def NXQ (r : Nat) (hm gc gm : PH) : Prop := ∃ a b, a ≤ 11 ∧ b ≤ 11 ∧ gc 92 (5 * r) = nI a ∧ gc 92 (5 * r + 1) = nI b ∧ gm 123 = up (up hm 123 (12 + a) (hm 123 (12 + a) ||| (1 <<< (nI b &&& 31)))) 123 (12 + b) (up hm 123 (12 + a) (hm 123 (12 + a) ||| (1 <<< (nI b &&& 31))) 123 (12 + b) ||| (1 <<< (nI a &&& 31))) 123
/-- houses on both sides -/
def HH (H : Nat) (hc hm : PH) : Prop := H ≤ 12 ∧ hc 90 8 = nI H ∧ hm 104 6 = nI H
theorem hh_t {H : Nat} {hc hm gc gm : PH} (a : HH H hc hm) (b : gc 90 8 = hc 90 8) (d : gm 104 6 = hm 104 6) : HH H gc gm := ⟨a.1, by rw [b]; exact a.2.1, by rw [d]; exact a.2.2⟩
theorem hh_le {H v : Nat} (h : H ≤ 12) (hv : v < 10000) (e : nI v ≤ nI H - 1) : v ≤ 11 := by
  have k : ∀ H, H ≤ 12 → (nI H - 1).toInt ≤ 11 := by decide
  have := le_n hv e (k H h)
  omega
theorem hh_lt {H v : Nat} (h : H ≤ 12) (hv : v < 10000) (e : nI v ≤ nI H - 1) : v < H := by
  have k : ∀ H, H ≤ 12 → (nI H - 1).toInt = (H : Int) - 1 := by decide
  have := le_n hv e (Int.le_of_eq (k H h))
  omega
theorem nx_sim {B : Nat → Nat} {L N i r H : Nat} {hc hm : PH} (j : JJ 3 B L N i 0 [] hc hm) (cr : CR r hc) (hr : r < 16) (hh : HH H hc hm) (x : (tt B L i).1 = 2 ∧ (tt B L i).2 = 25) : LOK 3 B L N i r hc hm (mD_nextLine hc) (mm_readNext hm) (NXQ r hm) := by
  obtain ⟨gm1, d1, d2, d3, d4, d5⟩ := j_adv j (by omega)
  have h1 := hh_t hh d4.2 (d5.2 6 (by decide) (by decide) (by decide) (by decide))
  unfold mD_nextLine mm_readNext mm_readTold
  rw [d1, bd_e, h1.2.1, hh.2.2, show mm_isWord 25 hm = some 1 from m_w1 (x := 25) j.2.1 x (by decide), bd_e, if_neg no10, d2, bd_e]
  rcases nb_sim d3 0 (nI H - 1) with ⟨a, gc2, gm2, n1, n2, n3, n4, n5, n6, n7, n8, n9, n10, n11⟩ | ⟨gc2, gm2, e1, e2, e3, e4, e5⟩
  · have a11 := hh_le hh.1 n3 n5
    have h2 := hh_t h1 n10.2 (n11.2 6 (by decide) (by decide) (by decide) (by decide))
    rw [n6, bd2_e, if_neg no10, lt_e, n8, n7, bd2_e, bd2_e, if_neg (nI_nm1 (by omega))]
    by_cases y : (tt B L (i + 1 + 1)).1 = 2 ∧ (tt B L (i + 1 + 1)).2 = 26
    · have cw : mD_isWord 1 gc2 = some 1 := by
        have := c_wd (s := 3) (by decide) n9.1 1 (by decide)
        rw [show (wv 3).getD 1 99 = 26 from rfl, if_pos y] at this
        exact this
      obtain ⟨gm3, g1, g2, g3, g4, g5⟩ := j_adv n9 (by omega)
      have h3 := hh_t h2 g4.2 (g5.2 6 (by decide) (by decide) (by decide) (by decide))
      rw [cw, bd_e, if_neg no10, g1, bd_e, jn0_e, show mm_isWord 26 gm2 = some 1 from m_w1 (x := 26) n9.2.1 y (by decide), bd_e, if_neg no10, g2, bd_e, jn0_e, h3.2.1, h3.2.2]
      by_cases z : (tt B L (i + 1 + 1 + 1)).1 = 3 ∧ (tt B L (i + 1 + 1 + 1)).2 = a
      · obtain ⟨m1, m2, m3⟩ := m_nm g3.2.1 z.1
        obtain ⟨c1, c2⟩ := c_nm g3.1 z.1
        obtain ⟨gc8, gm8, s1, s2, s3, s4, s5⟩ := j_ref g3 2
        rw [if_pos c1, if_pos (by rw [c2, z.2]), s1, bd2_e, if_pos m1, if_pos (by rw [m2, z.2]), s2, bd2_e]
        exact Or.inr ⟨gc8, gm8, rfl, rfl, s3⟩
      · have cn : ∀ K K' : Option (Int32 × PH), (if avH gc2 (i + 1 + 1 + 1) 90 6 = 2 then (if avH gc2 (i + 1 + 1 + 1) 90 7 = nI a then K else K') else K') = K' := fun K K' => by
          by_cases c1 : (tt B L (i + 1 + 1 + 1)).1 = 3
          · obtain ⟨c2, c3⟩ := c_nm g3.1 c1
            obtain ⟨m1, m2, m3⟩ := m_nm g3.2.1 c1
            rw [if_pos c2, if_neg (by rw [c3]; exact fun q => z ⟨c1, (nI_eq (by omega) (by omega)).mp q⟩)]
          · rw [if_neg (c_nn g3.1 c1)]
        have mn : ∀ K K' : Option (Int32 × PH), (if gm3 104 14 = 3 then (if gm3 104 15 = nI a then K else K') else K') = K' := fun K K' => by
          by_cases c1 : (tt B L (i + 1 + 1 + 1)).1 = 3
          · obtain ⟨m1, m2, m3⟩ := m_nm g3.2.1 c1
            rw [if_pos m1, if_neg (by rw [m2]; exact fun q => z ⟨c1, (nI_eq (by omega) (by omega)).mp q⟩)]
          · rw [if_neg (m_nn g3.2.1 c1)]
        rw [cn, mn]
        rcases nb_sim g3 0 (nI H - 1) with ⟨b, gc4, gm4, p1, p2, p3, p4, p5, p6, p7, p8, p9, p10, p11⟩ | ⟨gc4, gm4, e1, e2, e3, e4, e5⟩
        · have b11 := hh_le hh.1 p3 p5
          have xa : (12 : Int32) + nI a = nI (12 + a) := nI_add 12 a
          have xb : (12 : Int32) + nI b = nI (12 + b) := nI_add 12 b
          have ixa : ix (nI (12 + a)) = 12 + a := nI_clamp (by omega)
          have ixb : ix (nI (12 + b)) = 12 + b := nI_clamp (by omega)
          have cka : ∀ (q : Option (Int32 × PH)), ck (nI (12 + a)) 24 q = q := fun q => ck_nI (by omega) (by decide)
          have ckb : ∀ (q : Option (Int32 × PH)), ck (nI (12 + b)) 24 q = q := fun q => ck_nI (by omega) (by decide)
          rw [p6, bd2_e, if_neg no10, p7, bd2_e, if_neg (nI_nm1 (by omega)), xa, cka, cka, ixa, lt_e, xb, ckb, ckb, ixb, lt_e]
          have e123 : gm4 123 = hm 123 := by rw [p11.1 123 (by decide), g5.1 123 (by decide), n11.1 123 (by decide), d5.1 123 (by decide)]
          have j5 := jj_u (jj_u p9 (c := 123) (k := 12 + a) (by decide) (gm4 123 (12 + a) ||| (1 <<< (nI b &&& 31)))) (c := 123) (k := 12 + b) (by decide) (up gm4 123 (12 + a) (gm4 123 (12 + a) ||| (1 <<< (nI b &&& 31))) 123 (12 + b) ||| (1 <<< (nI a &&& 31)))
          have v123 : up (up gm4 123 (12 + a) (gm4 123 (12 + a) ||| (1 <<< (nI b &&& 31)))) 123 (12 + b) (up gm4 123 (12 + a) (gm4 123 (12 + a) ||| (1 <<< (nI b &&& 31))) 123 (12 + b) ||| (1 <<< (nI a &&& 31))) 123 = up (up hm 123 (12 + a) (hm 123 (12 + a) ||| (1 <<< (nI b &&& 31)))) 123 (12 + b) (up hm 123 (12 + a) (hm 123 (12 + a) ||| (1 <<< (nI b &&& 31))) 123 (12 + b) ||| (1 <<< (nI a &&& 31))) 123 := by
            have u1 : ∀ v, up gm4 123 (12 + a) v 123 = up hm 123 (12 + a) v 123 := fun v => by
              funext k
              by_cases z : k = 12 + a
              · rw [z, up_same, up_same]
              · rw [up_oj z, up_oj z, e123]
            rw [e123, u1]
            funext k
            by_cases z : k = 12 + b
            · rw [z, up_same, up_same]
            · rw [up_oj z, up_oj z, u1]
          generalize up (up gm4 123 (12 + a) (gm4 123 (12 + a) ||| (1 <<< (nI b &&& 31)))) 123 (12 + b) (up gm4 123 (12 + a) (gm4 123 (12 + a) ||| (1 <<< (nI b &&& 31))) 123 (12 + b) ||| (1 <<< (nI a &&& 31))) = hm5 at j5 v123 ⊢
          have cr4 : CR r gc4 := cr_c (cr_c (cr_c (cr_c cr d4) n10) g4) p10
          have fl4 : FL r hc gc4 := fl_t (fl_t (fl_t (fl_c d4) (fl_c n10)) (fl_c g4)) (fl_c p10)
          rcases sn_sim j5 with ⟨gm8, s1, s2, s3, s4⟩ | ⟨gc8, gm8, s1, s2, s3, s4, s5⟩
          · have e9 : avH gc4 (i + 1 + 1 + 1 + 1 + 1) 90 9 = nI b := by rw [avH_o _ _ 9 (by decide) (by decide) (by decide)]; exact p8
            obtain ⟨gc9, t1, t2, t3, t4, t5⟩ := rw_add s3 (cr_c cr4 (fc_av gc4 _)) hr (nI a) (nI b) 0 0 0
            rw [s1, bd2_e, if_neg no10, e9, t1, bd2_e, if_neg no10, s2, bd2_e]
            exact Or.inl ⟨_, gc9, gm8, by omega, rfl, rfl, jj_w t2 (Nat.zero_le _), t3, ⟨a, b, a11, b11, t4.1, t4.2.1, by rw [s4.1 123 (by decide)]; exact v123⟩, fl_t (fl_t fl4 (fl_c (fc_av gc4 _))) t5⟩
          · rw [s1, bd2_e, if_pos rfl, s2, bd2_e]
            exact Or.inr ⟨gc8, gm8, rfl, rfl, s3⟩
        · rw [e1, bd2_e, if_pos rfl, e2, bd2_e, if_pos rfl]
          exact Or.inr ⟨gc4, gm4, rfl, rfl, e3⟩
    · have cw : mD_isWord 1 gc2 = some 0 := by
        have := c_wd (s := 3) (by decide) n9.1 1 (by decide)
        rw [show (wv 3).getD 1 99 = 26 from rfl, if_neg y] at this
        exact this
      obtain ⟨gc8, gm8, s1, s2, s3, s4, s5⟩ := j_ref n9 1
      rw [cw, bd_e, if_pos rfl, s1, bd2_e, show mm_isWord 26 gm2 = some 0 from m_w0 (x := 26) n9.2.1 y (by decide), bd_e, if_pos rfl, s2, bd2_e]
      exact Or.inr ⟨gc8, gm8, rfl, rfl, s3⟩
  · rw [e1, bd2_e, if_pos rfl, e2, bd2_e, bd2_e, if_pos rfl]
    exact Or.inr ⟨gc2, gm2, rfl, rfl, e3⟩
/-- the office: class row (q, w, h, wall, n), the model's (q, w - 1, h, wall, n) -/
def OFQ (H r : Nat) (hm gc gm : PH) : Prop := (∃ q w h l n, q ≤ 999 ∧ 1 ≤ w ∧ w ≤ 4 ∧ h < H ∧ l ≤ 3 ∧ n ≤ 99 ∧ (gc 92 (5 * r) = nI q ∧ gc 92 (5 * r + 1) = nI w ∧ gc 92 (5 * r + 2) = nI h ∧ gc 92 (5 * r + 3) = nI l ∧ gc 92 (5 * r + 4) = nI n) ∧ gm 122 (80 + 5 * r) = nI q ∧ gm 122 (80 + 5 * r + 1) = nI (w - 1) ∧ gm 122 (80 + 5 * r + 2) = nI h ∧ gm 122 (80 + 5 * r + 3) = nI l ∧ gm 122 (80 + 5 * r + 4) = nI n) ∧ ∀ j, j < 80 + 5 * r → gm 122 j = hm 122 j
theorem wv2l : (wv 2).length = 5 := by decide
theorem wv2m : ∀ w, 1 ≤ w → w ≤ 4 → (wv 2).getD w 99 = 20 + w := by
  intro w h1 h2
  have : w = 1 ∨ w = 2 ∨ w = 3 ∨ w = 4 := by omega
  rcases this with e | e | e | e <;> subst e <;> rfl
theorem of_sim {B : Nat → Nat} {L N i r H : Nat} {hc hm : PH} (j : JJ 2 B L N i 0 [] hc hm) (cr : CR r hc) (hr : r < 16) (hh : HH H hc hm) (x : (tt B L i).1 = 2 ∧ (tt B L i).2 = 19) : LOK 2 B L N i r hc hm (mD_officeLine hc) (mm_readDeed (nI (80 + 5 * r)) hm) (OFQ H r hm) := by
  have x80 : ∀ k, k < 5 → ix (nI (80 + 5 * r + k)) = 80 + 5 * r + k := fun k hk => nI_clamp (by omega)
  have ck0 : ∀ k, k < 5 → ∀ (q : Option (Int32 × PH)), ck (nI (80 + 5 * r + k)) 160 q = q := fun k hk q => ck_nI (by omega) (by decide)
  have x0 : ix (nI (80 + 5 * r)) = 80 + 5 * r := nI_clamp (by omega)
  have ck1 : ∀ (q : Option (Int32 × PH)), ck (nI (80 + 5 * r)) 160 q = q := fun q => ck_nI (by omega) (by decide)
  have a1e : nI (80 + 5 * r) + 1 = nI (80 + 5 * r + 1) := nI_1 _
  have a2e : nI (80 + 5 * r) + 2 = nI (80 + 5 * r + 2) := nI_add _ 2
  have a3e : nI (80 + 5 * r) + 3 = nI (80 + 5 * r + 3) := nI_add _ 3
  have a4e : nI (80 + 5 * r) + 4 = nI (80 + 5 * r + 4) := nI_add _ 4
  obtain ⟨gm1, d1, d2, d3, d4, d5⟩ := j_adv j (by omega)
  have h1 := hh_t hh d4.2 (d5.2 6 (by decide) (by decide) (by decide) (by decide))
  unfold mD_officeLine mm_readDeed mm_readTold
  rw [d1, bd_e, show mm_isWord 19 hm = some 1 from m_w1 (x := 19) j.2.1 x (by decide), bd_e, if_neg no10, d2, bd_e]
  rcases nb_sim d3 0 999 with ⟨q, gc2, gm2, n1, n2, n3, n4, n5, n6, n7, n8, n9, n10, n11⟩ | ⟨gc2, gm2, e1, e2, e3, e4, e5⟩
  · rw [n6, bd2_e, if_neg no10, lt_e, n8, jn0_e, n7, bd2_e, bd2_e, ck1, lt_e (up gm2 122 (ix (nI (80 + 5 * r))) (nI q)), ck1, x0, up_same, if_neg (nI_nm1 (by omega)), jn0_e]
    have q9 : q ≤ 999 := by have := le_n n3 n5 (y := 999) (by decide); omega
    have h2 := hh_t h1 n10.2 (n11.2 6 (by decide) (by decide) (by decide) (by decide))
    have j3 := jj_u n9 (c := 122) (k := 80 + 5 * r) (by decide) (nI q)
    have fl2 : FL r hc gc2 := fl_t (fl_c d4) (fl_c n10)
    have cr2 : CR r gc2 := cr_c (cr_c cr d4) n10
    have k122 : ∀ k, k ≠ 80 + 5 * r → up gm2 122 (80 + 5 * r) (nI q) 122 k = hm 122 k := fun k hk => by rw [up_oj hk, n11.1 122 (by decide), d5.1 122 (by decide)]
    have kq : up gm2 122 (80 + 5 * r) (nI q) 122 (80 + 5 * r) = nI q := up_same
    have h3 : HH H gc2 (up gm2 122 (80 + 5 * r) (nI q)) := hh_t h2 rfl (up_oc (by decide))
    generalize up gm2 122 (80 + 5 * r) (nI q) = hm3 at j3 k122 kq h3 ⊢
    by_cases y : ∃ w, 1 ≤ w ∧ w ≤ 4 ∧ (tt B L (i + 1 + 1)).1 = 2 ∧ (tt B L (i + 1 + 1)).2 = 20 + w
    · obtain ⟨w, w1, w2, w4, w5⟩ := y
      have cw : gc2 90 6 = 1 ∧ gc2 90 7 = nI w := by
        rcases c_wv j3.1 w4 with ⟨w', y1, y2, y3, y4⟩ | ⟨_, y2⟩
        · have : w' = w := wv_inj 2 (by decide) w' y1 w (by rw [wv2l]; omega) (by rw [y2, w5, wv2m w w1 w2])
          rw [← this]
          exact ⟨y3, y4⟩
        · exact absurd (by rw [wv2m w w1 w2, w5]) (y2 w (by rw [wv2l]; omega))
      obtain ⟨mw1, mw2⟩ := m_lw j3.2.1 ⟨w4, w5⟩
      obtain ⟨gm4, g1, g2, g3, g4, g5⟩ := j_adv j3 (by omega)
      have h4 := hh_t h3 g4.2 (g5.2 6 (by decide) (by decide) (by decide) (by decide))
      have s21 : nI (20 + w) - 21 = nI (w - 1) := by rw [show (21 : Int32) = nI 21 from rfl, nI_sub (by omega), show 20 + w - 21 = w - 1 by omega]
      rw [if_pos cw.1, cw.2, within_y (show (1 : Int32) ≤ nI w ∧ nI w ≤ (4 : Int32) from ⟨nI_le (a := 1) w1 (by omega), nI_le (b := 4) w2 (by decide)⟩), bd_e, if_neg no10, lt_e, g1, bd_e, h4.2.1]
      rw [if_pos mw1, mw2, isIn_y (show (21 : Int32) ≤ nI (20 + w) ∧ nI (20 + w) ≤ (24 : Int32) from ⟨nI_le (a := 21) (by omega) (by omega), nI_le (b := 24) (by omega) (by decide)⟩), bd_e, if_neg no10, lt_e, s21, g2, bd_e, a1e, ck0 1 (by decide), lt_e, x80 1 (by decide), a2e, a3e, a4e]
      have j5 := jj_u g3 (c := 122) (k := 80 + 5 * r + 1) (by decide) (nI (w - 1))
      have h5 : HH H (avH gc2 (i + 1 + 1 + 1)) (up gm4 122 (80 + 5 * r + 1) (nI (w - 1))) := hh_t h4 rfl (up_oc (by decide))
      have k5 : ∀ k, k < 80 + 5 * r → up gm4 122 (80 + 5 * r + 1) (nI (w - 1)) 122 k = hm 122 k := fun k hk => by rw [up_oj (by omega), g5.1 122 (by decide)]; exact k122 k (by omega)
      have k5q : up gm4 122 (80 + 5 * r + 1) (nI (w - 1)) 122 (80 + 5 * r) = nI q := by rw [up_oj (by omega), g5.1 122 (by decide)]; exact kq
      have k5w : up gm4 122 (80 + 5 * r + 1) (nI (w - 1)) 122 (80 + 5 * r + 1) = nI (w - 1) := up_same
      rw [h5.2.2]
      generalize up gm4 122 (80 + 5 * r + 1) (nI (w - 1)) = hm5 at j5 k5 k5q k5w h5 ⊢
      have fl3 : FL r hc (avH gc2 (i + 1 + 1 + 1)) := fl_t fl2 (fl_c g4)
      have cr3 : CR r (avH gc2 (i + 1 + 1 + 1)) := cr_c cr2 g4
      rcases nb_sim j5 0 (nI H - 1) with ⟨h, gc6, gm6, p1, p2, p3, p4, p5, p6, p7, p8, p9, p10, p11⟩ | ⟨gc6, gm6, e1, e2, e3, e4, e5⟩
      · have h11 := hh_lt hh.1 p3 p5
        rw [p6, bd2_e, if_neg no10, lt_e, p8, p7, bd2_e, ck0 2 (by decide), lt_e, ck0 2 (by decide), x80 2 (by decide), up_same, if_neg (nI_nm1 (by omega))]
        have j6 := jj_u p9 (c := 122) (k := 80 + 5 * r + 2) (by decide) (nI h)
        have k6 : ∀ k, k < 80 + 5 * r → up gm6 122 (80 + 5 * r + 2) (nI h) 122 k = hm 122 k := fun k hk => by rw [up_oj (by omega), p11.1 122 (by decide)]; exact k5 k hk
        have k6q : up gm6 122 (80 + 5 * r + 2) (nI h) 122 (80 + 5 * r) = nI q := by rw [up_oj (by omega), p11.1 122 (by decide)]; exact k5q
        have k6w : up gm6 122 (80 + 5 * r + 2) (nI h) 122 (80 + 5 * r + 1) = nI (w - 1) := by rw [up_oj (by omega), p11.1 122 (by decide)]; exact k5w
        have k6h : up gm6 122 (80 + 5 * r + 2) (nI h) 122 (80 + 5 * r + 2) = nI h := up_same
        generalize up gm6 122 (80 + 5 * r + 2) (nI h) = hm6 at j6 k6 k6q k6w k6h ⊢
        have fl6 : FL r hc gc6 := fl_t fl3 (fl_c p10)
        have cr6 : CR r gc6 := cr_c cr3 p10
        -- behind all numbers
        have fin2 : ∀ (i3 l n w' : Nat) (gc gm : PH), i < i3 → l ≤ 3 → n ≤ 99 → JJ 2 B L N i3 w' [] gc gm → CR r gc → FL r hc gc → (∀ k, k < 80 + 5 * r → gm 122 k = hm 122 k) → gm 122 (80 + 5 * r) = nI q → gm 122 (80 + 5 * r + 1) = nI (w - 1) → gm 122 (80 + 5 * r + 2) = nI h → gm 122 (80 + 5 * r + 3) = nI l → LOK 2 B L N i r hc hm (bd2 (mD_takesSign 59 gc) fun r20 h21 => if r20 = 0 then some (0, h21) else bd2 (mR_add 91 (nI q) (nI w) (nI h) (nI l) (nI n) h21) fun r22 h23 => if r22 = 0 then some (0, h23) else some (1, h23)) (ck (nI (80 + 5 * r + 4)) 160 <| lt (up gm 122 (ix (nI (80 + 5 * r + 4))) (nI n)) fun h21 => ck (nI (80 + 5 * r + 4)) 160 <| if (h21 122 (ix (nI (80 + 5 * r + 4)))) = (-1) then some ((-1), h21) else bd2 (mm_readMark 59 h21) fun r22 h23 => some (r22, h23)) (OFQ H r hm) := fun i3 l n w' gc gm hi hl hn j7 cr7 fl7 y1 y2 y3 y4 y5 => by
          rw [ck0 4 (by decide), lt_e, ck0 4 (by decide), x80 4 (by decide), up_same, if_neg (nI_nm1 (by omega))]
          have j8 := jj_u j7 (c := 122) (k := 80 + 5 * r + 4) (by decide) (nI n)
          rcases sn_sim j8 with ⟨gm8, s1, s2, s3, s4⟩ | ⟨gc8, gm8, s1, s2, s3, s4, s5⟩
          · obtain ⟨gc9, t1, t2, t3, t4, t5⟩ := rw_add s3 (cr_c cr7 (fc_av gc (i3 + 1))) hr (nI q) (nI w) (nI h) (nI l) (nI n)
            rw [s1, bd2_e, if_neg no10, t1, bd2_e, if_neg no10, s2, bd2_e]
            refine Or.inl ⟨i3 + 1, gc9, gm8, by omega, rfl, rfl, jj_w t2 (Nat.zero_le _), t3, ⟨⟨q, w, h, l, n, q9, w1, w2, h11, hl, hn, t4, ?_, ?_, ?_, ?_, ?_⟩, fun k hk => ?_⟩, fl_t (fl_t fl7 (fl_c (fc_av gc _))) t5⟩
            · rw [s4.1 122 (by decide), up_oj (by omega)]; exact y2
            · rw [s4.1 122 (by decide), up_oj (by omega)]; exact y3
            · rw [s4.1 122 (by decide), up_oj (by omega)]; exact y4
            · rw [s4.1 122 (by decide), up_oj (by omega)]; exact y5
            · rw [s4.1 122 (by decide), up_same]
            · rw [s4.1 122 (by decide), up_oj (by omega)]; exact y1 k hk
          · rw [s1, bd2_e, if_pos rfl, s2, bd2_e]
            exact Or.inr ⟨gc8, gm8, rfl, rfl, s3⟩
        simp only [jn2_e, jn0_e]
        -- behind the wall, if there is one
        have fin1 : ∀ (i3 l w' : Nat) (gc gm : PH), i < i3 → l ≤ 3 → JJ 2 B L N i3 w' [] gc gm → CR r gc → FL r hc gc → (∀ k, k < 80 + 5 * r → gm 122 k = hm 122 k) → gm 122 (80 + 5 * r) = nI q → gm 122 (80 + 5 * r + 1) = nI (w - 1) → gm 122 (80 + 5 * r + 2) = nI h → LOK 2 B L N i r hc hm (if nI w = 1 then bd2 (mD_takesNumber 1 99 gc) fun r25 h26 => if r25 = 0 then some (0, h26) else lt (h26 90 9) fun x27 => bd2 (mD_takesSign 59 h26) fun r20 h21 => if r20 = 0 then some (0, h21) else bd2 (mR_add 91 (nI q) (nI w) (nI h) (nI l) x27 h21) fun r22 h23 => if r22 = 0 then some (0, h23) else some (1, h23) else if nI w = 2 then bd2 (mD_takesNumber 1 99 gc) fun r25 h26 => if r25 = 0 then some (0, h26) else lt (h26 90 9) fun x27 => bd2 (mD_takesSign 59 h26) fun r20 h21 => if r20 = 0 then some (0, h21) else bd2 (mR_add 91 (nI q) (nI w) (nI h) (nI l) x27 h21) fun r22 h23 => if r22 = 0 then some (0, h23) else some (1, h23) else bd2 (mD_takesSign 59 gc) fun r20 h21 => if r20 = 0 then some (0, h21) else bd2 (mR_add 91 (nI q) (nI w) (nI h) (nI l) 0 h21) fun r22 h23 => if r22 = 0 then some (0, h23) else some (1, h23)) (ck (nI (80 + 5 * r + 3)) 160 <| lt (up gm 122 (ix (nI (80 + 5 * r + 3))) (nI l)) fun h17 => ck (nI (80 + 5 * r + 3)) 160 <| if (h17 122 (ix (nI (80 + 5 * r + 3)))) = (-1) then some ((-1), h17) else if nI (w - 1) = 0 then bd2 (mm_readNumber 1 99 h17) fun r25 h26 => ck (nI (80 + 5 * r + 4)) 160 <| lt (up h26 122 (ix (nI (80 + 5 * r + 4))) r25) fun h21 => ck (nI (80 + 5 * r + 4)) 160 <| if (h21 122 (ix (nI (80 + 5 * r + 4)))) = (-1) then some ((-1), h21) else bd2 (mm_readMark 59 h21) fun r22 h23 => some (r22, h23) else if nI (w - 1) = 1 then bd2 (mm_readNumber 1 99 h17) fun r25 h26 => ck (nI (80 + 5 * r + 4)) 160 <| lt (up h26 122 (ix (nI (80 + 5 * r + 4))) r25) fun h21 => ck (nI (80 + 5 * r + 4)) 160 <| if (h21 122 (ix (nI (80 + 5 * r + 4)))) = (-1) then some ((-1), h21) else bd2 (mm_readMark 59 h21) fun r22 h23 => some (r22, h23) else ck (nI (80 + 5 * r + 4)) 160 <| lt (up h17 122 (ix (nI (80 + 5 * r + 4))) 0) fun h21 => ck (nI (80 + 5 * r + 4)) 160 <| if (h21 122 (ix (nI (80 + 5 * r + 4)))) = (-1) then some ((-1), h21) else bd2 (mm_readMark 59 h21) fun r22 h23 => some (r22, h23)) (OFQ H r hm) := fun i3 l w' gc gm hi hl j7 cr7 fl7 y1 y2 y3 y4 => by
          rw [ck0 3 (by decide), lt_e, ck0 3 (by decide), x80 3 (by decide), up_same, if_neg (nI_nm1 (by omega))]
          have j8 := jj_u j7 (c := 122) (k := 80 + 5 * r + 3) (by decide) (nI l)
          have z1 : ∀ k, k < 80 + 5 * r → up gm 122 (80 + 5 * r + 3) (nI l) 122 k = hm 122 k := fun k hk => by rw [up_oj (by omega)]; exact y1 k hk
          have z2 : up gm 122 (80 + 5 * r + 3) (nI l) 122 (80 + 5 * r) = nI q := by rw [up_oj (by omega)]; exact y2
          have z3 : up gm 122 (80 + 5 * r + 3) (nI l) 122 (80 + 5 * r + 1) = nI (w - 1) := by rw [up_oj (by omega)]; exact y3
          have z4 : up gm 122 (80 + 5 * r + 3) (nI l) 122 (80 + 5 * r + 2) = nI h := by rw [up_oj (by omega)]; exact y4
          have z5 : up gm 122 (80 + 5 * r + 3) (nI l) 122 (80 + 5 * r + 3) = nI l := up_same
          generalize up gm 122 (80 + 5 * r + 3) (nI l) = hm8 at j8 z1 z2 z3 z4 z5 ⊢
          have num : LOK 2 B L N i r hc hm (bd2 (mD_takesNumber 1 99 gc) fun r25 h26 => if r25 = 0 then some (0, h26) else lt (h26 90 9) fun x27 => bd2 (mD_takesSign 59 h26) fun r20 h21 => if r20 = 0 then some (0, h21) else bd2 (mR_add 91 (nI q) (nI w) (nI h) (nI l) x27 h21) fun r22 h23 => if r22 = 0 then some (0, h23) else some (1, h23)) (bd2 (mm_readNumber 1 99 hm8) fun r25 h26 => ck (nI (80 + 5 * r + 4)) 160 <| lt (up h26 122 (ix (nI (80 + 5 * r + 4))) r25) fun h21 => ck (nI (80 + 5 * r + 4)) 160 <| if (h21 122 (ix (nI (80 + 5 * r + 4)))) = (-1) then some ((-1), h21) else bd2 (mm_readMark 59 h21) fun r22 h23 => some (r22, h23)) (OFQ H r hm) := by
            rcases nb_sim j8 1 99 with ⟨n, gc6, gm6, p1, p2, p3, p4, p5, p6, p7, p8, p9, p10, p11⟩ | ⟨gc6, gm6, e1, e2, e3, e4, e5⟩
            · rw [p6, bd2_e, if_neg no10, lt_e, p8, p7, bd2_e]
              have n9' : n ≤ 99 := by have := le_n p3 p5 (y := 99) (by decide); omega
              exact fin2 _ l n _ gc6 gm6 (by omega) hl n9' p9 (cr_c cr7 p10) (fl_t fl7 (fl_c p10)) (fun k hk => by rw [p11.1 122 (by decide)]; exact z1 k hk) (by rw [p11.1 122 (by decide)]; exact z2) (by rw [p11.1 122 (by decide)]; exact z3) (by rw [p11.1 122 (by decide)]; exact z4) (by rw [p11.1 122 (by decide)]; exact z5)
            · rw [e1, bd2_e, if_pos rfl, e2, bd2_e, ck0 4 (by decide), lt_e, ck0 4 (by decide), x80 4 (by decide), up_same, if_pos rfl]
              exact Or.inr ⟨gc6, _, rfl, rfl, ff_u e3 (by decide) _⟩
          by_cases c1 : w = 1
          · rw [if_pos (show nI w = (1 : Int32) by rw [c1]; rfl), if_pos (show nI (w - 1) = (0 : Int32) by rw [c1]; rfl)]
            exact num
          · rw [if_neg (show ¬ nI w = (1 : Int32) from fun z => c1 ((nI_eq (b := 1) (by omega) (by decide)).mp z)), if_neg (show ¬ nI (w - 1) = (0 : Int32) from fun z => by have := (nI_eq (b := 0) (by omega) (by decide)).mp z; omega)]
            by_cases c2 : w = 2
            · rw [if_pos (show nI w = (2 : Int32) by rw [c2]; rfl), if_pos (show nI (w - 1) = (1 : Int32) by rw [c2]; rfl)]
              exact num
            · rw [if_neg (show ¬ nI w = (2 : Int32) from fun z => c2 ((nI_eq (b := 2) (by omega) (by decide)).mp z)), if_neg (show ¬ nI (w - 1) = (1 : Int32) from fun z => by have := (nI_eq (b := 1) (by omega) (by decide)).mp z; omega)]
              exact fin2 _ l 0 _ gc hm8 hi hl (by decide) j8 cr7 fl7 z1 z2 z3 z4 z5
        by_cases c2 : w = 2
        · rw [if_pos (show nI w = (2 : Int32) by rw [c2]; rfl), if_pos (show nI (w - 1) = (1 : Int32) by rw [c2]; rfl)]
          rcases nb_sim j6 0 3 with ⟨l, gc7, gm7, p1', p2', p3', p4', p5', p6', p7', p8', p9', p10', p11'⟩ | ⟨gc7, gm7, e1, e2, e3, e4, e5⟩
          · rw [p6', bd2_e, if_neg no10, lt_e, p8', p7', bd2_e]
            have l3 : l ≤ 3 := by have := le_n p3' p5' (y := 3) (by decide); omega
            exact fin1 _ l _ gc7 gm7 (by omega) l3 p9' (cr_c cr6 p10') (fl_t fl6 (fl_c p10')) (fun k hk => by rw [p11'.1 122 (by decide)]; exact k6 k hk) (by rw [p11'.1 122 (by decide)]; exact k6q) (by rw [p11'.1 122 (by decide)]; exact k6w) (by rw [p11'.1 122 (by decide)]; exact k6h)
          · rw [e1, bd2_e, if_pos rfl, e2, bd2_e, ck0 3 (by decide), lt_e, ck0 3 (by decide), x80 3 (by decide), up_same, if_pos rfl]
            exact Or.inr ⟨gc7, _, rfl, rfl, ff_u e3 (by decide) _⟩
        · rw [if_neg (show ¬ nI w = (2 : Int32) from fun z => c2 ((nI_eq (b := 2) (by omega) (by decide)).mp z)), if_neg (show ¬ nI (w - 1) = (1 : Int32) from fun z => by have := (nI_eq (b := 1) (by omega) (by decide)).mp z; omega)]
          exact fin1 _ 0 _ gc6 hm6 (by omega) (by decide) j6 cr6 fl6 k6 k6q k6w k6h
      · rw [e1, bd2_e, if_pos rfl, e2, bd2_e, ck0 2 (by decide), lt_e, ck0 2 (by decide), x80 2 (by decide), up_same, if_pos rfl]
        exact Or.inr ⟨gc6, _, rfl, rfl, ff_u e3 (by decide) _⟩
    · have ref : ∀ K : Option (Int32 × PH), (if gc2 90 6 = 1 then bd (mX_within (gc2 90 7) 1 4 gc2) fun r8 => if r8 = 0 then (bd2 (mD_refuse 1 gc2) fun r6 h7 => some (nb r6, h7)) else K else bd2 (mD_refuse 1 gc2) fun r6 h7 => some (nb r6, h7)) = bd2 (mD_refuse 1 gc2) fun r6 h7 => some (nb r6, h7) := fun K => by
        by_cases c6 : gc2 90 6 = 1
        · rw [if_pos c6]
          have t2 : (tt B L (i + 1 + 1)).1 = 2 := by
            apply Classical.byContradiction
            intro z
            exact c_nw j3.1 z c6
          rcases c_wv j3.1 t2 with ⟨w', y1, y2, y3, y4⟩ | ⟨y1, _⟩
          · rw [wv2l] at y1
            have w0 : w' = 0 := by
              apply Classical.byContradiction
              intro z
              exact y ⟨w', by omega, by omega, t2, by rw [← y2, wv2m w' (by omega) (by omega)]⟩
            rw [y4, w0, within_n (by decide), bd_e, if_pos rfl]
          · rw [y1] at c6; exact absurd c6 (by decide)
        · rw [if_neg c6]
      have mref : ∀ K : Option (Int32 × PH), (if hm3 104 14 = 2 then bd (mm_isIn (hm3 104 15) 21 24 hm3) fun r7 => if r7 = 0 then (bd2 (mm_errs 1 hm3) fun r5 h6 => some (r5, h6)) else K else bd2 (mm_errs 1 hm3) fun r5 h6 => some (r5, h6)) = bd2 (mm_errs 1 hm3) fun r5 h6 => some (r5, h6) := fun K => by
        have k : TkM (tt B L (i + 1 + 1)) (hm3 104 14) (hm3 104 15) := j3.2.1.2.2.2
        rcases k with ⟨_, e⟩ | ⟨_, e⟩ | ⟨a, a2, e, e2⟩ | ⟨_, _, e, _⟩ | ⟨_, _, e, _⟩
        · rw [e, if_neg (by decide)]
        · rw [e, if_neg (by decide)]
        · rw [if_pos e, e2, isIn_n (fun z => ?_), bd_e, if_pos rfl]
          have z1 : 21 ≤ (tt B L (i + 1 + 1)).2 := (nI_leI (a := 21) (by decide) (by omega)).mp z.1
          have z2 : (tt B L (i + 1 + 1)).2 ≤ 24 := (nI_leI (b := 24) (by omega) (by decide)).mp z.2
          exact y ⟨(tt B L (i + 1 + 1)).2 - 20, by omega, by omega, a, by omega⟩
        · rw [e, if_neg (by decide)]
        · rw [e, if_neg (by decide)]
      rw [ref, mref]
      obtain ⟨gc8, gm8, s1, s2, s3, s4, s5⟩ := j_ref j3 1
      rw [s1, bd2_e, s2, bd2_e]
      exact Or.inr ⟨gc8, gm8, rfl, rfl, s3⟩
  · rw [e1, bd2_e, if_pos rfl]
    rw [e2, bd2_e, bd2_e, ck1, lt_e, ck1, x0, up_same, if_pos rfl]
    exact Or.inr ⟨gc2, _, rfl, rfl, ff_u e3 (by decide) _⟩
end
