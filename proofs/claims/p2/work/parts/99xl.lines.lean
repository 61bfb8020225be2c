/-! LINES: a row of the class, a line of the law -/
def CR (r : Nat) (h : PH) : Prop := h 91 0 = 16 ∧ h 91 1 = 5 ∧ h 91 3 = nI r
theorem ad_91 {r : Nat} {h : PH} (c : CR r h) (hr : r < 16) (a b d e f : Int32) : ∃ g, mR_add 91 a b d e f h = some (1, g) ∧ CR (r + 1) g ∧ (g 92 (5 * r) = a ∧ g 92 (5 * r + 1) = b ∧ g 92 (5 * r + 2) = d ∧ g 92 (5 * r + 3) = e ∧ g 92 (5 * r + 4) = f) ∧ (∀ j, j < 5 * r → g 92 j = h 92 j) ∧ ∀ x, x ≠ 91 → x ≠ 92 → g x = h x := by
  obtain ⟨c0, c1, c3⟩ := c
  have k : ∀ j x, ∀ q : PH, up q 92 j x 91 1 = q 91 1 := fun j x q => up_oc (by decide)
  have k3 : ∀ j x, ∀ q : PH, up q 92 j x 91 3 = q 91 3 := fun j x q => up_oc (by decide)
  have xi : ∀ j, j < 5 → ix (nI (5 * r + j)) = 5 * r + j := fun j hj => nI_clamp (by omega)
  have add : mR_add 91 a b d e f h = some (1, up (up (up (up (up (up h 92 (5 * r) a) 92 (5 * r + 1) b) 92 (5 * r + 2) d) 92 (5 * r + 3) e) 92 (5 * r + 4) f) 91 3 (nI (r + 1))) := by
    unfold mR_add
    rw [c3, c0, if_pos (show nI r < (16 : Int32) from nI_lt (b := 16) hr (by decide)), lt_e, c1, show nI r * (5 : Int32) = nI (r * 5) from nI_mul r 5, Nat.mul_comm r 5, show ln (91 + 1) = 80 from rfl, ck_nI (by omega) (by decide), lt_e, show ix (nI (5 * r)) = 5 * r from nI_clamp (by omega), jn1_e, k, c1, if_neg (by decide), nI_1, ck_nI (by omega) (by decide), lt_e, xi 1 (by decide)]
    dsimp only
    rw [jn1_e, k, k, c1, if_neg (by decide), show nI (5 * r) + (2 : Int32) = nI (5 * r + 2) from nI_add _ 2, ck_nI (by omega) (by decide), lt_e, xi 2 (by decide)]
    dsimp only
    rw [jn1_e, k, k, k, c1, if_neg (by decide), show nI (5 * r) + (3 : Int32) = nI (5 * r + 3) from nI_add _ 3, ck_nI (by omega) (by decide), lt_e, xi 3 (by decide)]
    dsimp only
    rw [jn1_e, k, k, k, k, c1, if_neg (by decide), show nI (5 * r) + (4 : Int32) = nI (5 * r + 4) from nI_add _ 4, ck_nI (by omega) (by decide), lt_e, xi 4 (by decide)]
    dsimp only
    rw [lt_e, k3, k3, k3, k3, k3, c3, nI_1]
  refine ⟨_, add, ⟨?_, ?_, up_same⟩, ⟨?_, ?_, ?_, ?_, ?_⟩, fun j hj => ?_, fun x x1 x2 => ?_⟩
  · rw [up_oj (by decide), up_oc (by decide), up_oc (by decide), up_oc (by decide), up_oc (by decide), up_oc (by decide)]; exact c0
  · rw [up_oj (by decide), k, k, k, k, k]; exact c1
  · rw [up_oc (by decide), up_oj (by omega), up_oj (by omega), up_oj (by omega), up_oj (by omega), up_same]
  · rw [up_oc (by decide), up_oj (by omega), up_oj (by omega), up_oj (by omega), up_same]
  · rw [up_oc (by decide), up_oj (by omega), up_oj (by omega), up_same]
  · rw [up_oc (by decide), up_oj (by omega), up_same]
  · rw [up_oc (by decide), up_same]
  · rw [up_oc (by decide), up_oj (by omega), up_oj (by omega), up_oj (by omega), up_oj (by omega), up_oj (by omega)]
  · rw [up_cell x1, up_cell x2, up_cell x2, up_cell x2, up_cell x2, up_cell x2]
theorem cu_of {s : Nat} {B : Nat → Nat} {L N i : Nat} {h g : PH} (c : CU s B L N i h) (f : ∀ b, 85 ≤ b → b ≤ 90 → g b = h b) : CU s B L N i g := by
  obtain ⟨c1, c2, c3, c4, c5, c6, c7⟩ := c
  refine ⟨ctk_b c1 (f 85 (by decide) (by decide)) (f 86 (by decide) (by decide)) (f 87 (by decide) (by decide)) (f 88 (by decide) (by decide)) (f 89 (by decide) (by decide)), c2, ?_, ?_, ?_, ?_, ?_⟩
  · rw [f 90 (by decide) (by decide)]; exact c3
  · rw [f 90 (by decide) (by decide), f 87 (by decide) (by decide)]; exact c4
  · rw [f 90 (by decide) (by decide), f 88 (by decide) (by decide)]; exact c5
  · rw [f 90 (by decide) (by decide)]; exact c6
  · rw [f 90 (by decide) (by decide)]; exact c7
/-- codes and lines of a law: of each line its word, its sum, its condition -/
def cdo (Ls : List (Nat × List (Nat × Nat) × List (Nat × Nat))) : List (Nat × Nat) := Ls.flatMap (fun l => l.2.1 ++ l.2.2)
def LCl (Ls : List (Nat × List (Nat × Nat) × List (Nat × Nat))) (h : PH) : Prop := ∀ r w A W, Ls[r]? = some (w, A, W) → h 92 (5 * r) = nI w ∧ h 92 (5 * r + 1) = nI (cdo (Ls.take r)).length ∧ h 92 (5 * r + 2) = nI (cdo (Ls.take r) ++ A).length ∧ h 92 (5 * r + 3) = nI (cdo (Ls.take r) ++ A ++ W).length
def LMl (Ls : List (Nat × List (Nat × Nat) × List (Nat × Nat))) (h : PH) : Prop := ∀ r w A W, Ls[r]? = some (w, A, W) → h 114 (32 + r) = nI w ∧ h 115 (32 + r) = nI (xp (cdo (Ls.take r))).length ∧ h 116 (32 + r) = nI (xp (cdo (Ls.take r) ++ A)).length ∧ h 117 (32 + r) = nI (xp (cdo (Ls.take r) ++ A ++ W)).length
def LQ (Ls : List (Nat × List (Nat × Nat) × List (Nat × Nat))) : Prop := ∀ l, l ∈ Ls → l.1 < 3 ∧ Qv PT 3 l.2.1 ∧ (l.2.2 = [] ∨ (l.2.2 ≠ [] ∧ Qv P01 22 l.2.2))
theorem lapp_at {α : Type} {Ls : List α} {l l' : α} {r : Nat} (h : (Ls ++ [l])[r]? = some l') : (r < Ls.length ∧ Ls[r]? = some l' ∧ (Ls ++ [l]).take r = Ls.take r) ∨ (r = Ls.length ∧ l' = l ∧ (Ls ++ [l]).take r = Ls) := by
  by_cases z : r < Ls.length
  · rw [List.getElem?_append_left z] at h
    exact Or.inl ⟨z, h, List.take_append_of_le_length (by omega)⟩
  · rw [List.getElem?_append_right (by omega)] at h
    obtain ⟨a, _⟩ := List.getElem?_eq_some_iff.mp h
    have a : r - Ls.length < 1 := a
    have er : r = Ls.length := by omega
    subst er
    rw [Nat.sub_self] at h
    have h : some l = some l' := h
    cases h
    exact Or.inr ⟨rfl, rfl, by rw [List.take_left]⟩
/-- class and model frames of a line -/
def FL (r : Nat) (h g : PH) : Prop := (∀ b, b ≠ 90 → b ≠ 91 → b ≠ 92 → b ≠ 93 → b ≠ 94 → g b = h b) ∧ g 90 8 = h 90 8 ∧ ∀ j, j < 5 * r → g 92 j = h 92 j
def FN (r : Nat) (h g : PH) : Prop := (∀ b, b ≠ 104 → (b < 114 ∨ 120 < b) → g b = h b) ∧ (∀ j, j ≠ 12 → j ≠ 13 → j ≠ 14 → j ≠ 15 → j ≠ 25 → j ≠ 26 → j ≠ 28 → j ≠ 29 → j ≠ 30 → g 104 j = h 104 j) ∧ ∀ b j, 114 ≤ b → b ≤ 117 → j ≠ 32 + r → g b j = h b j
theorem fl_t {r : Nat} {h g f : PH} (a : FL r h g) (b : FL r g f) : FL r h f := ⟨fun x x1 x2 x3 x4 x5 => by rw [b.1 x x1 x2 x3 x4 x5, a.1 x x1 x2 x3 x4 x5], by rw [b.2.1, a.2.1], fun j hj => by rw [b.2.2 j hj, a.2.2 j hj]⟩
theorem fn_t {r : Nat} {h g f : PH} (a : FN r h g) (b : FN r g f) : FN r h f := ⟨fun x x1 x2 => by rw [b.1 x x1 x2, a.1 x x1 x2], fun j j1 j2 j3 j4 j5 j6 j7 j8 j9 => by rw [b.2.1 j j1 j2 j3 j4 j5 j6 j7 j8 j9, a.2.1 j j1 j2 j3 j4 j5 j6 j7 j8 j9], fun x j x1 x2 x3 => by rw [b.2.2 x j x1 x2 x3, a.2.2 x j x1 x2 x3]⟩
theorem fl_c {r : Nat} {h g : PH} (a : FC h g) : FL r h g := ⟨fun x x1 _ _ x4 x5 => a.1 x x1 x4 x5, a.2, fun j _ => by rw [a.1 92 (by decide) (by decide) (by decide)]⟩
theorem fn_m {r : Nat} {h g : PH} (a : FM h g) : FN r h g := ⟨fun x x1 x2 => a.1 x x1 (by omega) (by omega) (by omega), a.2, fun x j x1 x2 _ => by rw [a.1 x (by omega) (by omega) (by omega) (by omega)]⟩
theorem fn_up {r : Nat} (h : PH) {c : Nat} (hc : 114 ≤ c ∧ c ≤ 117) (v : Int32) : FN r h (up h c (32 + r) v) := ⟨fun x x1 x2 => up_cell (by omega), fun j _ _ _ _ _ _ _ _ _ => up_oc (by omega), fun x j _ _ x3 => by
  by_cases z : x = c
  · rw [z, up_oj x3]
  · rw [up_oc z]⟩
theorem fl_r (r : Nat) (h : PH) : FL r h h := fl_c (fc_r h)
theorem fn_r (r : Nat) (h : PH) : FN r h h := fn_m (fm_r h)
theorem jj_up {s : Nat} {B : Nat → Nat} {L N i w : Nat} {C : List (Nat × Nat)} {hc hm : PH} (j : JJ s B L N i w C hc hm) {c k : Nat} (hk : 114 ≤ c ∧ c ≤ 117) (v : Int32) : JJ s B L N i w C hc (up hm c k v) := ⟨j.1, mu_of j.2.1 (up_cell (by omega)) (up_cell (by omega)) (fun q _ _ => up_oc (by omega)), j.2.2.1, mc_of j.2.2.2.1 (up_cell (by omega)) (up_cell (by omega)) (up_oc (by omega)), j.2.2.2.2⟩
/-- the model's line behind sum and condition -/
def tlM (k0 k1 : PH → Option (Int32 × PH)) (k2 : Int32 → PH → Option (Int32 × PH)) (n : Nat) (v1 x2 : Int32) (h11 : PH) : Option (Int32 × PH) := ck x2 48 <| lt (up h11 117 (ix x2) (h11 104 25)) fun h12 => bd (mm_isSign 59 h12) fun r13 => if r13 = 0 then k1 h12 else bd (mm_reads h12) fun h14 => lt (v1 + 1) fun x15 => mm_readLaw_L2 k0 k1 k2 n x15 h14
def tlC (x1 x3 x6 : Int32) (h9 : PH) : Option (Int32 × PH) := bd2 (mD_takesSign 59 h9) fun r10 h11 => if r10 = 0 then some (0, h11) else bd2 (mR_add 91 x1 x3 x6 (h11 93 3) 0 h11) fun r12 h13 => if r12 = 0 then some (0, h13) else some (1, h13)
/-- both stand behind a line, r of them are done -/
def JL (s : Nat) (B : Nat → Nat) (L N i : Nat) (C : List (Nat × Nat)) (r : Nat) (hc hm : PH) : Prop := JJ s B L N i 0 C hc hm ∧ CR r hc ∧ hm 104 26 = 0
/-- how a line ends: r + 1 are done; or both have the same fault -/
theorem tl_sim {B : Nat → Nat} {L N i r : Nat} {C : List (Nat × Nat)} {hc hm : PH} (k0 : PH → Option (Int32 × PH)) (k2 : Int32 → PH → Option (Int32 × PH)) (n : Nat) (x1 x3 x6 : Int32) (j : JL 0 B L N i C r hc hm) (hr : r < 16) : (∃ gc gm, tlC x1 x3 x6 hc = some (1, gc) ∧ tlM k0 kp1 k2 n (nI r) (nI (32 + r)) hm = mm_readLaw_L2 k0 kp1 k2 n (nI (r + 1)) gm ∧ JL 0 B L N (i + 1) C (r + 1) gc gm ∧ (gc 92 (5 * r) = x1 ∧ gc 92 (5 * r + 1) = x3 ∧ gc 92 (5 * r + 2) = x6 ∧ gc 92 (5 * r + 3) = nI C.length) ∧ gm 117 (32 + r) = nI (xp C).length ∧ (∀ b, 114 ≤ b → b ≤ 116 → gm b = hm b) ∧ FL r hc gc ∧ FN r hm gm) ∨ (∃ gc gm, tlC x1 x3 x6 hc = some (0, gc) ∧ tlM k0 kp1 k2 n (nI r) (nI (32 + r)) hm = some (-1, gm) ∧ FF gc gm ∧ FL r hc gc ∧ FN r hm gm) := by
  obtain ⟨jj, cr, o⟩ := j
  have e25 := jj.2.2.2.1.1
  unfold tlC tlM mD_takesSign
  rw [ck_nI (show 32 + r < 48 by omega) (by decide), lt_e, show ix (nI (32 + r)) = 32 + r from nI_clamp (by omega), e25]
  have j2 := jj_up jj (c := 117) (k := 32 + r) (by omega) (nI (xp C).length)
  by_cases x : (tt B L i).1 = 4 ∧ (tt B L i).2 = 59
  · obtain ⟨gm, d1, d2, d3, d4, d5⟩ := j_adv j2 (by omega)
    have cr2 : CR r (avH hc (i + 1)) := by unfold CR; rw [avH_b hc _ 91 (by decide)]; exact cr
    obtain ⟨gc, a1, a2, a3, a4, a5⟩ := ad_91 cr2 hr x1 x3 x6 (avH hc (i + 1) 93 3) 0
    have e93 : avH hc (i + 1) 93 3 = nI C.length := d3.2.2.1.2.2.1
    rw [show mD_isSign 59 hc = some 1 from c_s1 (x := 59) jj.1 x (by decide), bd_e, if_neg no10, d1, bd_e, bd2_e, if_neg no10, a1, bd2_e, if_neg no10, show mm_isSign 59 (up hm 117 (32 + r) (nI (xp C).length)) = some 1 from m_s1 (x := 59) j2.2.1 x (by decide), bd_e, if_neg no10, d2, bd_e, lt_e, nI_1]
    refine Or.inl ⟨gc, gm, rfl, rfl, ⟨⟨cu_of d3.1 (fun b b1 b2 => a5 b (by omega) (by omega)), d3.2.1, cc_b d3.2.2.1 (a5 93 (by decide) (by decide)) (a5 94 (by decide) (by decide)), d3.2.2.2.1, by have := d3.2.2.2.2; omega⟩, a2, ?_⟩, ⟨a3.1, a3.2.1, a3.2.2.1, by rw [a3.2.2.2.1, e93]⟩, ?_, fun b b1 b2 => ?_, ?_, ?_⟩
    · rw [d5.2 26 (by decide) (by decide) (by decide) (by decide), up_oc (by decide)]; exact o
    · rw [d5.1 117 (by decide), up_same]
    · rw [d5.1 b (by omega), up_cell (by omega)]
    · exact fl_t (fl_c d4) ⟨fun x _ x2 x3 _ _ => a5 x x2 x3, by rw [a5 90 (by decide) (by decide)], a4⟩
    · exact fn_t (fn_up hm (by omega) _) (fn_m (fm_x (fx_4 d5)))
  · obtain ⟨gc, gm, r1, r2, r3, r4, r5⟩ := j_ref j2 1
    rw [show mD_isSign 59 hc = some 0 from c_s0 (x := 59) jj.1 x (by decide), bd_e, if_pos rfl, r1, bd2_e, bd2_e, if_pos (show nb 0 = (0 : Int32) from rfl), show mm_isSign 59 (up hm 117 (32 + r) (nI (xp C).length)) = some 0 from m_s0 (x := 59) j2.2.1 x (by decide), bd_e, if_pos rfl]
    unfold kp1
    rw [r2, bd2_e]
    exact Or.inr ⟨gc, gm, rfl, rfl, r3, fl_c r4, fn_t (fn_up hm (by omega) _) (fn_m (fm_x r5))⟩
theorem c_lw {B : Nat → Nat} {L N i : Nat} {h : PH} (c : CU 0 B L N i h) {w : Nat} (x : (tt B L i).1 = 2 ∧ (tt B L i).2 = w) (hw : w < 19) : h 90 6 = 1 ∧ h 90 7 = nI w := by
  rcases cu_tk c with ⟨a, _⟩ | ⟨a, _⟩ | ⟨_, _, ⟨y, y1, y2, f, f2⟩ | ⟨f, f2⟩⟩ | ⟨a, _⟩ | ⟨a, _⟩
  · omega
  · omega
  · rw [wv0l] at y1
    rw [wv0 y y1] at y2
    exact ⟨f, by rw [f2, y2, x.2]⟩
  · exact absurd (by rw [wv0 w hw, x.2]) (f2 w (by rw [wv0l]; exact hw))
  · omega
  · omega
theorem m_lw {B : Nat → Nat} {L i : Nat} {h : PH} (m : MU B L i h) {w : Nat} (x : (tt B L i).1 = 2 ∧ (tt B L i).2 = w) : h 104 14 = 2 ∧ h 104 15 = nI w := by
  have k : TkM (tt B L i) (h 104 14) (h 104 15) := m.2.2.2
  rcases k with ⟨a, _⟩ | ⟨a, _⟩ | ⟨_, _, e, e2⟩ | ⟨a, _⟩ | ⟨a, _⟩
  · omega
  · omega
  · exact ⟨e, by rw [e2, x.2]⟩
  · omega
  · omega
/-- a line of the law -/
theorem ll_sim {B : Nat → Nat} {L N i r w : Nat} {Ls : List (Nat × List (Nat × Nat) × List (Nat × Nat))} {hc hm : PH} (k0 : PH → Option (Int32 × PH)) (k2 : Int32 → PH → Option (Int32 × PH)) (n : Nat) (j : JL 0 B L N i (cdo Ls) r hc hm) (hl : Ls.length = r) (lc : LCl Ls hc) (lm : LMl Ls hm) (lq : LQ Ls) (hr : r < 16) (x : (tt B L i).1 = 2 ∧ (tt B L i).2 = w) (hw : w < 3) : (∃ i2 Ls2 gc gm, i < i2 ∧ mD_lawLine hc = some (1, gc) ∧ mm_readLaw_L2 k0 kp1 k2 (n + 1) (nI r) hm = mm_readLaw_L2 k0 kp1 k2 n (nI (r + 1)) gm ∧ JL 0 B L N i2 (cdo Ls2) (r + 1) gc gm ∧ Ls2.length = r + 1 ∧ LCl Ls2 gc ∧ LMl Ls2 gm ∧ LQ Ls2 ∧ FL r hc gc ∧ FN r hm gm) ∨ (∃ gc gm, mD_lawLine hc = some (0, gc) ∧ mm_readLaw_L2 k0 kp1 k2 (n + 1) (nI r) hm = some (-1, gm) ∧ FF gc gm ∧ FL r hc gc ∧ FN r hm gm) := by
  obtain ⟨jj, cr, o⟩ := j
  obtain ⟨mw1, mw2⟩ := m_lw jj.2.1 x
  obtain ⟨cw1, cw2⟩ := c_lw jj.1 x (by omega)
  have ilw : mm_isLineWord hm = some 1 := by
    unfold mm_isLineWord
    rw [mw1, if_pos rfl, mw2, isIn_y (show (0 : Int32) ≤ nI w ∧ nI w ≤ (2 : Int32) from ⟨nI_le (a := 0) (by omega) (by omega), nI_le (b := 2) (by omega) (by decide)⟩), bd_e, if_neg no10]
  generalize hC : cdo Ls = C at jj
  have x32 : (32 : Int32) + nI r = nI (32 + r) := nI_add 32 r
  have ixx : ix (nI (32 + r)) = 32 + r := nI_clamp (by omega)
  -- the model's line, piece by piece
  have ml : mm_readLaw_L2 k0 kp1 k2 (n + 1) (nI r) hm = bd (mm_reads (up hm 114 (32 + r) (nI w))) fun h4 => bd2 (mm_readSum (up h4 115 (32 + r) (h4 104 25))) fun r6 h7 => if r6 = (-1) then some ((-1), h7) else bd (mm_isWord 3 (up h7 116 (32 + r) (h7 104 25))) fun r9 => if r9 = 0 then tlM k0 kp1 k2 n (nI r) (nI (32 + r)) (up h7 116 (32 + r) (h7 104 25)) else bd (mm_reads (up h7 116 (32 + r) (h7 104 25))) fun h16 => bd2 (mm_readAny h16) fun r17 h18 => if r17 = (-1) then some ((-1), h18) else tlM k0 kp1 k2 n (nI r) (nI (32 + r)) h18 := by
    have ckk : ∀ (q : Option (Int32 × PH)), ck (nI (32 + r)) 48 q = q := fun q => ck_nI (by omega) (by decide)
    rw [mm_readLaw_L2, ilw, bd_e, if_neg no10, if_neg (show ¬ nI r = (16 : Int32) from fun z => by have := (nI_eq (b := 16) (by omega) (by decide)).mp z; omega), lt_e, x32, ckk, mw2, ixx]
    simp only [lt_e, ckk, ixx, jn1_e]
    unfold tlM
    simp only [ckk, ixx, lt_e]
  have cl : mD_lawLine hc = bd (mD_advance hc) fun h2 => bd2 (mD_expression h2) fun r4 h5 => if r4 = 0 then some (0, h5) else bd (mD_isWord 3 h5) fun r7 => if r7 = 0 then tlC (nI w) (h2 93 3) (h5 93 3) h5 else bd (mD_advance h5) fun h14 => bd2 (mD_condition 30 0 h14) fun r15 h16 => if r15 = 0 then some (0, h16) else tlC (nI w) (h2 93 3) (h5 93 3) h16 := by
    unfold mD_lawLine
    rw [cw2]
    rfl
  have j1 := jj_up jj (c := 114) (k := 32 + r) (by omega) (nI w)
  obtain ⟨gm1, d1, d2, d3, d4, d5⟩ := j_adv j1 (by omega)
  rw [cl, ml, d1, bd_e, d2, bd_e]
  have e25 := d3.2.2.2.1.1
  have e93 : avH hc (i + 1) 93 3 = nI C.length := d3.2.2.1.2.2.1
  rw [e25, e93]
  have j2 := jj_up d3 (c := 115) (k := 32 + r) (by omega) (nI (xp C).length)
  have fnA : FN r hm (up gm1 115 (32 + r) (nI (xp C).length)) := fn_t (fn_t (fn_up hm (by omega) _) (fn_m (fm_x (fx_4 d5)))) (fn_up gm1 (by omega) _)
  rcases ex_sim (jj_w j2 (show 1 ≤ 0 + 1 by decide)) with ⟨i2, A, hc2, hm2, e1, e2, e3, e4, e5, e6, e7⟩ | ⟨hc2, hm2, e1, e2, e3, e4, e5⟩
  · rw [e1, bd2_e, if_neg no10, e2, bd2_e, if_neg (show ¬ (0 : Int32) = -1 by decide)]
    have f25 := e4.2.2.2.1.1
    have f93 : hc2 93 3 = nI (C ++ A).length := e4.2.2.1.2.2.1
    rw [f25, f93]
    have j3 := jj_up e4 (c := 116) (k := 32 + r) (by omega) (nI (xp (C ++ A)).length)
    have fnB : FN r hm (up hm2 116 (32 + r) (nI (xp (C ++ A)).length)) := fn_t (fn_t fnA (fn_m (fm_x e7))) (fn_up hm2 (by omega) _)
    have flB : FL r hc hc2 := fl_t (fl_c d4) (fl_c e6)
    have v114 : up hm2 116 (32 + r) (nI (xp (C ++ A)).length) 114 (32 + r) = nI w := by rw [up_oc (by decide), e7.1 114 (by decide) (by decide) (by decide), up_oc (by decide), d5.1 114 (by decide), up_same]
    have v115 : up hm2 116 (32 + r) (nI (xp (C ++ A)).length) 115 (32 + r) = nI (xp C).length := by rw [up_oc (by decide), e7.1 115 (by decide) (by decide) (by decide), up_same]
    have v116 : up hm2 116 (32 + r) (nI (xp (C ++ A)).length) 116 (32 + r) = nI (xp (C ++ A)).length := up_same
    have o3 : up hm2 116 (32 + r) (nI (xp (C ++ A)).length) 104 26 = 0 := by rw [up_oc (by decide), e7.2 26 (by decide) (by decide) (by decide) (by decide) (by decide) (by decide) (by decide), up_oc (by decide), d5.2 26 (by decide) (by decide) (by decide) (by decide), up_oc (by decide)]; exact o
    generalize up hm2 116 (32 + r) (nI (xp (C ++ A)).length) = hm3 at j3 fnB v114 v115 v116 o3 ⊢
    have cr2 : ∀ g, FL r hc g → g 91 = hc 91 → CR r g := fun g _ e => by unfold CR; rw [e]; exact cr
    have h91 : hc2 91 = hc 91 := by rw [e6.1 91 (by decide) (by decide) (by decide), d4.1 91 (by decide) (by decide) (by decide)]
    -- behind the condition, if there is one
    have fin : ∀ (i3 : Nat) (W : List (Nat × Nat)) (gc gm : PH), i2 ≤ i3 → (W = [] ∨ (W ≠ [] ∧ Qv P01 22 W)) → JJ 0 B L N i3 0 (C ++ A ++ W) gc gm → gm 104 26 = 0 → gc 91 = hc 91 → FL r hc gc → FN r hm gm → gm 114 (32 + r) = nI w → gm 115 (32 + r) = nI (xp C).length → gm 116 (32 + r) = nI (xp (C ++ A)).length → (∃ i2 Ls2 gc' gm', i < i2 ∧ tlC (nI w) (nI C.length) (nI (C ++ A).length) gc = some (1, gc') ∧ tlM k0 kp1 k2 n (nI r) (nI (32 + r)) gm = mm_readLaw_L2 k0 kp1 k2 n (nI (r + 1)) gm' ∧ JL 0 B L N i2 (cdo Ls2) (r + 1) gc' gm' ∧ Ls2.length = r + 1 ∧ LCl Ls2 gc' ∧ LMl Ls2 gm' ∧ LQ Ls2 ∧ FL r hc gc' ∧ FN r hm gm') ∨ (∃ gc' gm', tlC (nI w) (nI C.length) (nI (C ++ A).length) gc = some (0, gc') ∧ tlM k0 kp1 k2 n (nI r) (nI (32 + r)) gm = some (-1, gm') ∧ FF gc' gm' ∧ FL r hc gc' ∧ FN r hm gm') := fun i3 W gc gm hi3 hW j4 o4 h91' fl fn w1 w2 w3 => by
      rcases tl_sim k0 k2 n (nI w) (nI C.length) (nI (C ++ A).length) ⟨j4, cr2 gc fl h91', o4⟩ hr with ⟨gc', gm', t1, t2, t3, t4, t5, t6, t7, t8⟩ | ⟨gc', gm', t1, t2, t3, t4, t5⟩
      · have fl' := fl_t fl t7
        have fn' := fn_t fn t8
        have cde : cdo (Ls ++ [(w, A, W)]) = C ++ A ++ W := by
          unfold cdo
          rw [List.flatMap_append]
          show cdo Ls ++ (A ++ W ++ []) = _
          rw [hC, List.append_nil, List.append_assoc]
        refine Or.inl ⟨i3 + 1, Ls ++ [(w, A, W)], gc', gm', by omega, t1, t2, by rw [cde]; exact t3, by rw [List.length_append, hl]; rfl, ?_, ?_, ?_, fl', fn'⟩
        · intro q w' A' W' hq
          rcases lapp_at hq with ⟨z, z2, z3⟩ | ⟨z, z2, z3⟩
          · rw [z3, fl'.2.2 _ (by omega), fl'.2.2 _ (by omega), fl'.2.2 _ (by omega), fl'.2.2 _ (by omega)]
            exact lc q w' A' W' z2
          · cases z2
            rw [z3, z, hl, hC]
            exact t4
        · intro q w' A' W' hq
          rcases lapp_at hq with ⟨z, z2, z3⟩ | ⟨z, z2, z3⟩
          · rw [z3, fn'.2.2 114 _ (by decide) (by decide) (by omega), fn'.2.2 115 _ (by decide) (by decide) (by omega), fn'.2.2 116 _ (by decide) (by decide) (by omega), fn'.2.2 117 _ (by decide) (by decide) (by omega)]
            exact lm q w' A' W' z2
          · cases z2
            rw [z3, z, hl, hC, t6 114 (by decide) (by decide), t6 115 (by decide) (by decide), t6 116 (by decide) (by decide)]
            exact ⟨w1, w2, w3, t5⟩
        · intro l hl2
          rcases List.mem_append.mp hl2 with z | z
          · exact lq l z
          · have : l = (w, A, W) := by simpa using z
            rw [this]
            exact ⟨hw, e5, hW⟩
      · exact Or.inr ⟨gc', gm', t1, t2, t3, fl_t fl t4, fn_t fn t5⟩
    by_cases x3 : (tt B L i2).1 = 2 ∧ (tt B L i2).2 = 3
    · obtain ⟨gm4, a1, a2, a3, a4, a5⟩ := j_adv j3 (by omega)
      rw [show mD_isWord 3 hc2 = some 1 from c_w1 (x := 3) j3.1 x3 (by decide), bd_e, if_neg no10, a1, bd_e, show mm_isWord 3 hm3 = some 1 from m_w1 (x := 3) j3.2.1 x3 (by decide), bd_e, if_neg no10, a2, bd_e]
      rcases cd_sim (jj_w a3 (Nat.zero_le _)) (by rw [a5.2 26 (by decide) (by decide) (by decide) (by decide)]; exact o3) with ⟨i3, W, gc, gm, b1, b2, b3, b4, b5, b6, b7, b8⟩ | ⟨gc, gm, b1, b2, b3, b4, b5⟩
      · rw [b2, bd2_e, if_neg no10, b3, bd2_e, if_neg (show ¬ (0 : Int32) = -1 by decide)]
        have fm4 : FM hm3 gm := fm_t (fm_x (fx_4 a5)) b8
        refine fin i3 W gc gm (by omega) (Or.inr ⟨?_, b6⟩) b4 b5 ?_ (fl_t flB (fl_t (fl_c a4) (fl_c b7))) (fn_t fnB (fn_m fm4)) ?_ ?_ ?_
        · intro z
          subst z
          obtain ⟨_, f, _, f2⟩ := b6
          have := (f2 (fun _ => 0) [] (by decide)).1
          rw [evC] at this
          cases this
        · rw [b7.1 91 (by decide) (by decide) (by decide), a4.1 91 (by decide) (by decide) (by decide)]; exact h91
        · rw [fm4.1 114 (by decide) (by decide) (by decide) (by decide)]; exact v114
        · rw [fm4.1 115 (by decide) (by decide) (by decide) (by decide)]; exact v115
        · rw [fm4.1 116 (by decide) (by decide) (by decide) (by decide)]; exact v116
      · rw [b1, bd2_e, if_pos rfl, b2, bd2_e, if_pos rfl]
        exact Or.inr ⟨gc, gm, rfl, rfl, b3, fl_t flB (fl_t (fl_c a4) (fl_c b4)), fn_t fnB (fn_m (fm_t (fm_x (fx_4 a5)) b5))⟩
    · rw [show mD_isWord 3 hc2 = some 0 from c_w0 (x := 3) j3.1 x3 (by decide), bd_e, if_pos rfl, show mm_isWord 3 hm3 = some 0 from m_w0 (x := 3) j3.2.1 x3 (by decide), bd_e, if_pos rfl]
      exact fin i2 [] hc2 hm3 (Nat.le_refl _) (Or.inl rfl) (by rw [List.append_nil]; exact jj_w j3 (Nat.zero_le _)) o3 h91 flB fnB v114 v115 v116
  · rw [e1, bd2_e, if_pos rfl, e2, bd2_e, if_pos rfl]
    exact Or.inr ⟨hc2, hm2, rfl, rfl, e3, fl_t (fl_c d4) (fl_c e4), fn_t fnA (fn_m (fm_x e5))⟩
