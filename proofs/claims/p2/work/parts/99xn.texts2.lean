/-! LINES of next and of the office -/
theorem le_n {v : Nat} {x : Int32} {y : Int} (hv : v < 10000) (h : nI v ≤ x) (e : x.toInt ≤ y) : (v : Int) ≤ y := by
  rw [Int32.le_iff_toInt_le, nI_toInt (by omega)] at h
  omega
def NXQ (r : Nat) (hm gc gm : PH) : Prop := ∃ a b, a ≤ 11 ∧ b ≤ 11 ∧ gc 92 (5 * r) = nI a ∧ gc 92 (5 * r + 1) = nI b ∧ gm 123 = up (up hm 123 (12 + a) (hm 123 (12 + a) ||| (1 <<< (nI b &&& 31)))) 123 (12 + b) (up hm 123 (12 + a) (hm 123 (12 + a) ||| (1 <<< (nI b &&& 31))) 123 (12 + b) ||| (1 <<< (nI a &&& 31))) 123
/-- houses on both sides -/
def HH (H : Nat) (hc hm : PH) : Prop := H ≤ 12 ∧ hc 90 8 = nI H ∧ hm 104 6 = nI H
theorem hh_t {H : Nat} {hc hm gc gm : PH} (a : HH H hc hm) (b : gc 90 8 = hc 90 8) (d : gm 104 6 = hm 104 6) : HH H gc gm := ⟨a.1, by rw [b]; exact a.2.1, by rw [d]; exact a.2.2⟩
theorem hh_le {H v : Nat} (h : H ≤ 12) (hv : v < 10000) (e : nI v ≤ nI H - 1) : v ≤ 11 := by
  have k : ∀ H, H ≤ 12 → (nI H - 1).toInt ≤ 11 := by decide
  have := le_n hv e (k H h)
  omega
theorem hh_lt {H v : Nat} (h : H ≤ 12) (hv : v < 10000) (e : nI v ≤ nI H - 1) : v < H := by
  have k : ∀ H, H ≤ 12 → (nI H - 1).toInt = (H : Int) - 1 := by decide
  have := le_n hv e (Int.le_of_eq (k H h))
  omega
theorem nx_sim {B : Nat → Nat} {L N i r H : Nat} {hc hm : PH} (j : JJ 3 B L N i 0 [] hc hm) (cr : CR r hc) (hr : r < 16) (hh : HH H hc hm) (x : (tt B L i).1 = 2 ∧ (tt B L i).2 = 25) : LOK 3 B L N i r hc hm (mD_nextLine hc) (mm_readNext hm) (NXQ r hm) := by
  obtain ⟨gm1, d1, d2, d3, d4, d5⟩ := j_adv j (by omega)
  have h1 := hh_t hh d4.2 (d5.2 6 (by decide) (by decide) (by decide) (by decide))
  unfold mD_nextLine mm_readNext mm_readTold
  rw [d1, bd_e, h1.2.1, hh.2.2, show mm_isWord 25 hm = some 1 from m_w1 (x := 25) j.2.1 x (by decide), bd_e, if_neg no10, d2, bd_e]
  rcases nb_sim d3 0 (nI H - 1) with ⟨a, gc2, gm2, n1, n2, n3, n4, n5, n6, n7, n8, n9, n10, n11⟩ | ⟨gc2, gm2, e1, e2, e3, e4, e5⟩
  · have a11 := hh_le hh.1 n3 n5
    have h2 := hh_t h1 n10.2 (n11.2 6 (by decide) (by decide) (by decide) (by decide))
    rw [n6, bd2_e, if_neg no10, lt_e, n8, n7, bd2_e, bd2_e, if_neg (nI_nm1 (by omega))]
    by_cases y : (tt B L (i + 1 + 1)).1 = 2 ∧ (tt B L (i + 1 + 1)).2 = 26
    · have cw : mD_isWord 1 gc2 = some 1 := by
        have := c_wd (s := 3) (by decide) n9.1 1 (by decide)
        rw [show (wv 3).getD 1 99 = 26 from rfl, if_pos y] at this
        exact this
      obtain ⟨gm3, g1, g2, g3, g4, g5⟩ := j_adv n9 (by omega)
      have h3 := hh_t h2 g4.2 (g5.2 6 (by decide) (by decide) (by decide) (by decide))
      rw [cw, bd_e, if_neg no10, g1, bd_e, jn0_e, show mm_isWord 26 gm2 = some 1 from m_w1 (x := 26) n9.2.1 y (by decide), bd_e, if_neg no10, g2, bd_e, jn0_e, h3.2.1, h3.2.2]
      by_cases z : (tt B L (i + 1 + 1 + 1)).1 = 3 ∧ (tt B L (i + 1 + 1 + 1)).2 = a
      · obtain ⟨m1, m2, m3⟩ := m_nm g3.2.1 z.1
        obtain ⟨c1, c2⟩ := c_nm g3.1 z.1
        obtain ⟨gc8, gm8, s1, s2, s3, s4, s5⟩ := j_ref g3 2
        rw [if_pos c1, if_pos (by rw [c2, z.2]), s1, bd2_e, if_pos m1, if_pos (by rw [m2, z.2]), s2, bd2_e]
        exact Or.inr ⟨gc8, gm8, rfl, rfl, s3⟩
      · have cn : ∀ K K' : Option (Int32 × PH), (if avH gc2 (i + 1 + 1 + 1) 90 6 = 2 then (if avH gc2 (i + 1 + 1 + 1) 90 7 = nI a then K else K') else K') = K' := fun K K' => by
          by_cases c1 : (tt B L (i + 1 + 1 + 1)).1 = 3
          · obtain ⟨c2, c3⟩ := c_nm g3.1 c1
            obtain ⟨m1, m2, m3⟩ := m_nm g3.2.1 c1
            rw [if_pos c2, if_neg (by rw [c3]; exact fun q => z ⟨c1, (nI_eq (by omega) (by omega)).mp q⟩)]
          · rw [if_neg (c_nn g3.1 c1)]
        have mn : ∀ K K' : Option (Int32 × PH), (if gm3 104 14 = 3 then (if gm3 104 15 = nI a then K else K') else K') = K' := fun K K' => by
          by_cases c1 : (tt B L (i + 1 + 1 + 1)).1 = 3
          · obtain ⟨m1, m2, m3⟩ := m_nm g3.2.1 c1
            rw [if_pos m1, if_neg (by rw [m2]; exact fun q => z ⟨c1, (nI_eq (by omega) (by omega)).mp q⟩)]
          · rw [if_neg (m_nn g3.2.1 c1)]
        rw [cn, mn]
        rcases nb_sim g3 0 (nI H - 1) with ⟨b, gc4, gm4, p1, p2, p3, p4, p5, p6, p7, p8, p9, p10, p11⟩ | ⟨gc4, gm4, e1, e2, e3, e4, e5⟩
        · have b11 := hh_le hh.1 p3 p5
          have xa : (12 : Int32) + nI a = nI (12 + a) := nI_add 12 a
          have xb : (12 : Int32) + nI b = nI (12 + b) := nI_add 12 b
          have ixa : ix (nI (12 + a)) = 12 + a := nI_clamp (by omega)
          have ixb : ix (nI (12 + b)) = 12 + b := nI_clamp (by omega)
          have cka : ∀ (q : Option (Int32 × PH)), ck (nI (12 + a)) 24 q = q := fun q => ck_nI (by omega) (by decide)
          have ckb : ∀ (q : Option (Int32 × PH)), ck (nI (12 + b)) 24 q = q := fun q => ck_nI (by omega) (by decide)
          rw [p6, bd2_e, if_neg no10, p7, bd2_e, if_neg (nI_nm1 (by omega)), xa, cka, cka, ixa, lt_e, xb, ckb, ckb, ixb, lt_e]
          have e123 : gm4 123 = hm 123 := by rw [p11.1 123 (by decide), g5.1 123 (by decide), n11.1 123 (by decide), d5.1 123 (by decide)]
          have j5 := jj_u (jj_u p9 (c := 123) (k := 12 + a) (by decide) (gm4 123 (12 + a) ||| (1 <<< (nI b &&& 31)))) (c := 123) (k := 12 + b) (by decide) (up gm4 123 (12 + a) (gm4 123 (12 + a) ||| (1 <<< (nI b &&& 31))) 123 (12 + b) ||| (1 <<< (nI a &&& 31)))
          have v123 : up (up gm4 123 (12 + a) (gm4 123 (12 + a) ||| (1 <<< (nI b &&& 31)))) 123 (12 + b) (up gm4 123 (12 + a) (gm4 123 (12 + a) ||| (1 <<< (nI b &&& 31))) 123 (12 + b) ||| (1 <<< (nI a &&& 31))) 123 = up (up hm 123 (12 + a) (hm 123 (12 + a) ||| (1 <<< (nI b &&& 31)))) 123 (12 + b) (up hm 123 (12 + a) (hm 123 (12 + a) ||| (1 <<< (nI b &&& 31))) 123 (12 + b) ||| (1 <<< (nI a &&& 31))) 123 := by
            have u1 : ∀ v, up gm4 123 (12 + a) v 123 = up hm 123 (12 + a) v 123 := fun v => by
              funext k
              by_cases z : k = 12 + a
              · rw [z, up_same, up_same]
              · rw [up_oj z, up_oj z, e123]
            rw [e123, u1]
            funext k
            by_cases z : k = 12 + b
            · rw [z, up_same, up_same]
            · rw [up_oj z, up_oj z, u1]
          generalize up (up gm4 123 (12 + a) (gm4 123 (12 + a) ||| (1 <<< (nI b &&& 31)))) 123 (12 + b) (up gm4 123 (12 + a) (gm4 123 (12 + a) ||| (1 <<< (nI b &&& 31))) 123 (12 + b) ||| (1 <<< (nI a &&& 31))) = hm5 at j5 v123 ⊢
          have cr4 : CR r gc4 := cr_c (cr_c (cr_c (cr_c cr d4) n10) g4) p10
          have fl4 : FL r hc gc4 := fl_t (fl_t (fl_t (fl_c d4) (fl_c n10)) (fl_c g4)) (fl_c p10)
          rcases sn_sim j5 with ⟨gm8, s1, s2, s3, s4⟩ | ⟨gc8, gm8, s1, s2, s3, s4, s5⟩
          · have e9 : avH gc4 (i + 1 + 1 + 1 + 1 + 1) 90 9 = nI b := by rw [avH_o _ _ 9 (by decide) (by decide) (by decide)]; exact p8
            obtain ⟨gc9, t1, t2, t3, t4, t5⟩ := rw_add s3 (cr_c cr4 (fc_av gc4 _)) hr (nI a) (nI b) 0 0 0
            rw [s1, bd2_e, if_neg no10, e9, t1, bd2_e, if_neg no10, s2, bd2_e]
            exact Or.inl ⟨_, gc9, gm8, by omega, rfl, rfl, jj_w t2 (Nat.zero_le _), t3, ⟨a, b, a11, b11, t4.1, t4.2.1, by rw [s4.1 123 (by decide)]; exact v123⟩, fl_t (fl_t fl4 (fl_c (fc_av gc4 _))) t5⟩
          · rw [s1, bd2_e, if_pos rfl, s2, bd2_e]
            exact Or.inr ⟨gc8, gm8, rfl, rfl, s3⟩
        · rw [e1, bd2_e, if_pos rfl, e2, bd2_e, if_pos rfl]
          exact Or.inr ⟨gc4, gm4, rfl, rfl, e3⟩
    · have cw : mD_isWord 1 gc2 = some 0 := by
        have := c_wd (s := 3) (by decide) n9.1 1 (by decide)
        rw [show (wv 3).getD 1 99 = 26 from rfl, if_neg y] at this
        exact this
      obtain ⟨gc8, gm8, s1, s2, s3, s4, s5⟩ := j_ref n9 1
      rw [cw, bd_e, if_pos rfl, s1, bd2_e, show mm_isWord 26 gm2 = some 0 from m_w0 (x := 26) n9.2.1 y (by decide), bd_e, if_pos rfl, s2, bd2_e]
      exact Or.inr ⟨gc8, gm8, rfl, rfl, s3⟩
  · rw [e1, bd2_e, if_pos rfl, e2, bd2_e, bd2_e, if_pos rfl]
    exact Or.inr ⟨gc2, gm2, rfl, rfl, e3⟩
/-- the office: class row (q, w, h, wall, n), the model's (q, w - 1, h, wall, n) -/
def OFQ (H r : Nat) (hm gc gm : PH) : Prop := (∃ q w h l n, q ≤ 999 ∧ 1 ≤ w ∧ w ≤ 4 ∧ h < H ∧ l ≤ 3 ∧ n ≤ 99 ∧ (gc 92 (5 * r) = nI q ∧ gc 92 (5 * r + 1) = nI w ∧ gc 92 (5 * r + 2) = nI h ∧ gc 92 (5 * r + 3) = nI l ∧ gc 92 (5 * r + 4) = nI n) ∧ gm 122 (80 + 5 * r) = nI q ∧ gm 122 (80 + 5 * r + 1) = nI (w - 1) ∧ gm 122 (80 + 5 * r + 2) = nI h ∧ gm 122 (80 + 5 * r + 3) = nI l ∧ gm 122 (80 + 5 * r + 4) = nI n) ∧ ∀ j, j < 80 + 5 * r → gm 122 j = hm 122 j
theorem wv2l : (wv 2).length = 5 := by decide
theorem wv2m : ∀ w, 1 ≤ w → w ≤ 4 → (wv 2).getD w 99 = 20 + w := by
  intro w h1 h2
  have : w = 1 ∨ w = 2 ∨ w = 3 ∨ w = 4 := by omega
  rcases this with e | e | e | e <;> subst e <;> rfl
theorem of_sim {B : Nat → Nat} {L N i r H : Nat} {hc hm : PH} (j : JJ 2 B L N i 0 [] hc hm) (cr : CR r hc) (hr : r < 16) (hh : HH H hc hm) (x : (tt B L i).1 = 2 ∧ (tt B L i).2 = 19) : LOK 2 B L N i r hc hm (mD_officeLine hc) (mm_readDeed (nI (80 + 5 * r)) hm) (OFQ H r hm) := by
  have x80 : ∀ k, k < 5 → ix (nI (80 + 5 * r + k)) = 80 + 5 * r + k := fun k hk => nI_clamp (by omega)
  have ck0 : ∀ k, k < 5 → ∀ (q : Option (Int32 × PH)), ck (nI (80 + 5 * r + k)) 160 q = q := fun k hk q => ck_nI (by omega) (by decide)
  have x0 : ix (nI (80 + 5 * r)) = 80 + 5 * r := nI_clamp (by omega)
  have ck1 : ∀ (q : Option (Int32 × PH)), ck (nI (80 + 5 * r)) 160 q = q := fun q => ck_nI (by omega) (by decide)
  have a1e : nI (80 + 5 * r) + 1 = nI (80 + 5 * r + 1) := nI_1 _
  have a2e : nI (80 + 5 * r) + 2 = nI (80 + 5 * r + 2) := nI_add _ 2
  have a3e : nI (80 + 5 * r) + 3 = nI (80 + 5 * r + 3) := nI_add _ 3
  have a4e : nI (80 + 5 * r) + 4 = nI (80 + 5 * r + 4) := nI_add _ 4
  obtain ⟨gm1, d1, d2, d3, d4, d5⟩ := j_adv j (by omega)
  have h1 := hh_t hh d4.2 (d5.2 6 (by decide) (by decide) (by decide) (by decide))
  unfold mD_officeLine mm_readDeed mm_readTold
  rw [d1, bd_e, show mm_isWord 19 hm = some 1 from m_w1 (x := 19) j.2.1 x (by decide), bd_e, if_neg no10, d2, bd_e]
  rcases nb_sim d3 0 999 with ⟨q, gc2, gm2, n1, n2, n3, n4, n5, n6, n7, n8, n9, n10, n11⟩ | ⟨gc2, gm2, e1, e2, e3, e4, e5⟩
  · rw [n6, bd2_e, if_neg no10, lt_e, n8, jn0_e, n7, bd2_e, bd2_e, ck1, lt_e (up gm2 122 (ix (nI (80 + 5 * r))) (nI q)), ck1, x0, up_same, if_neg (nI_nm1 (by omega)), jn0_e]
    have q9 : q ≤ 999 := by have := le_n n3 n5 (y := 999) (by decide); omega
    have h2 := hh_t h1 n10.2 (n11.2 6 (by decide) (by decide) (by decide) (by decide))
    have j3 := jj_u n9 (c := 122) (k := 80 + 5 * r) (by decide) (nI q)
    have fl2 : FL r hc gc2 := fl_t (fl_c d4) (fl_c n10)
    have cr2 : CR r gc2 := cr_c (cr_c cr d4) n10
    have k122 : ∀ k, k ≠ 80 + 5 * r → up gm2 122 (80 + 5 * r) (nI q) 122 k = hm 122 k := fun k hk => by rw [up_oj hk, n11.1 122 (by decide), d5.1 122 (by decide)]
    have kq : up gm2 122 (80 + 5 * r) (nI q) 122 (80 + 5 * r) = nI q := up_same
    have h3 : HH H gc2 (up gm2 122 (80 + 5 * r) (nI q)) := hh_t h2 rfl (up_oc (by decide))
    generalize up gm2 122 (80 + 5 * r) (nI q) = hm3 at j3 k122 kq h3 ⊢
    by_cases y : ∃ w, 1 ≤ w ∧ w ≤ 4 ∧ (tt B L (i + 1 + 1)).1 = 2 ∧ (tt B L (i + 1 + 1)).2 = 20 + w
    · obtain ⟨w, w1, w2, w4, w5⟩ := y
      have cw : gc2 90 6 = 1 ∧ gc2 90 7 = nI w := by
        rcases c_wv j3.1 w4 with ⟨w', y1, y2, y3, y4⟩ | ⟨_, y2⟩
        · have : w' = w := wv_inj 2 (by decide) w' y1 w (by rw [wv2l]; omega) (by rw [y2, w5, wv2m w w1 w2])
          rw [← this]
          exact ⟨y3, y4⟩
        · exact absurd (by rw [wv2m w w1 w2, w5]) (y2 w (by rw [wv2l]; omega))
      obtain ⟨mw1, mw2⟩ := m_lw j3.2.1 ⟨w4, w5⟩
      obtain ⟨gm4, g1, g2, g3, g4, g5⟩ := j_adv j3 (by omega)
      have h4 := hh_t h3 g4.2 (g5.2 6 (by decide) (by decide) (by decide) (by decide))
      have s21 : nI (20 + w) - 21 = nI (w - 1) := by rw [show (21 : Int32) = nI 21 from rfl, nI_sub (by omega), show 20 + w - 21 = w - 1 by omega]
      rw [if_pos cw.1, cw.2, within_y (show (1 : Int32) ≤ nI w ∧ nI w ≤ (4 : Int32) from ⟨nI_le (a := 1) w1 (by omega), nI_le (b := 4) w2 (by decide)⟩), bd_e, if_neg no10, lt_e, g1, bd_e, h4.2.1]
      rw [if_pos mw1, mw2, isIn_y (show (21 : Int32) ≤ nI (20 + w) ∧ nI (20 + w) ≤ (24 : Int32) from ⟨nI_le (a := 21) (by omega) (by omega), nI_le (b := 24) (by omega) (by decide)⟩), bd_e, if_neg no10, lt_e, s21, g2, bd_e, a1e, ck0 1 (by decide), lt_e, x80 1 (by decide), a2e, a3e, a4e]
      have j5 := jj_u g3 (c := 122) (k := 80 + 5 * r + 1) (by decide) (nI (w - 1))
      have h5 : HH H (avH gc2 (i + 1 + 1 + 1)) (up gm4 122 (80 + 5 * r + 1) (nI (w - 1))) := hh_t h4 rfl (up_oc (by decide))
      have k5 : ∀ k, k < 80 + 5 * r → up gm4 122 (80 + 5 * r + 1) (nI (w - 1)) 122 k = hm 122 k := fun k hk => by rw [up_oj (by omega), g5.1 122 (by decide)]; exact k122 k (by omega)
      have k5q : up gm4 122 (80 + 5 * r + 1) (nI (w - 1)) 122 (80 + 5 * r) = nI q := by rw [up_oj (by omega), g5.1 122 (by decide)]; exact kq
      have k5w : up gm4 122 (80 + 5 * r + 1) (nI (w - 1)) 122 (80 + 5 * r + 1) = nI (w - 1) := up_same
      rw [h5.2.2]
      generalize up gm4 122 (80 + 5 * r + 1) (nI (w - 1)) = hm5 at j5 k5 k5q k5w h5 ⊢
      have fl3 : FL r hc (avH gc2 (i + 1 + 1 + 1)) := fl_t fl2 (fl_c g4)
      have cr3 : CR r (avH gc2 (i + 1 + 1 + 1)) := cr_c cr2 g4
      rcases nb_sim j5 0 (nI H - 1) with ⟨h, gc6, gm6, p1, p2, p3, p4, p5, p6, p7, p8, p9, p10, p11⟩ | ⟨gc6, gm6, e1, e2, e3, e4, e5⟩
      · have h11 := hh_lt hh.1 p3 p5
        rw [p6, bd2_e, if_neg no10, lt_e, p8, p7, bd2_e, ck0 2 (by decide), lt_e, ck0 2 (by decide), x80 2 (by decide), up_same, if_neg (nI_nm1 (by omega))]
        have j6 := jj_u p9 (c := 122) (k := 80 + 5 * r + 2) (by decide) (nI h)
        have k6 : ∀ k, k < 80 + 5 * r → up gm6 122 (80 + 5 * r + 2) (nI h) 122 k = hm 122 k := fun k hk => by rw [up_oj (by omega), p11.1 122 (by decide)]; exact k5 k hk
        have k6q : up gm6 122 (80 + 5 * r + 2) (nI h) 122 (80 + 5 * r) = nI q := by rw [up_oj (by omega), p11.1 122 (by decide)]; exact k5q
        have k6w : up gm6 122 (80 + 5 * r + 2) (nI h) 122 (80 + 5 * r + 1) = nI (w - 1) := by rw [up_oj (by omega), p11.1 122 (by decide)]; exact k5w
        have k6h : up gm6 122 (80 + 5 * r + 2) (nI h) 122 (80 + 5 * r + 2) = nI h := up_same
        generalize up gm6 122 (80 + 5 * r + 2) (nI h) = hm6 at j6 k6 k6q k6w k6h ⊢
        have fl6 : FL r hc gc6 := fl_t fl3 (fl_c p10)
        have cr6 : CR r gc6 := cr_c cr3 p10
        -- behind all numbers
        have fin2 : ∀ (i3 l n w' : Nat) (gc gm : PH), i < i3 → l ≤ 3 → n ≤ 99 → JJ 2 B L N i3 w' [] gc gm → CR r gc → FL r hc gc → (∀ k, k < 80 + 5 * r → gm 122 k = hm 122 k) → gm 122 (80 + 5 * r) = nI q → gm 122 (80 + 5 * r + 1) = nI (w - 1) → gm 122 (80 + 5 * r + 2) = nI h → gm 122 (80 + 5 * r + 3) = nI l → LOK 2 B L N i r hc hm (bd2 (mD_takesSign 59 gc) fun r20 h21 => if r20 = 0 then some (0, h21) else bd2 (mR_add 91 (nI q) (nI w) (nI h) (nI l) (nI n) h21) fun r22 h23 => if r22 = 0 then some (0, h23) else some (1, h23)) (ck (nI (80 + 5 * r + 4)) 160 <| lt (up gm 122 (ix (nI (80 + 5 * r + 4))) (nI n)) fun h21 => ck (nI (80 + 5 * r + 4)) 160 <| if (h21 122 (ix (nI (80 + 5 * r + 4)))) = (-1) then some ((-1), h21) else bd2 (mm_readMark 59 h21) fun r22 h23 => some (r22, h23)) (OFQ H r hm) := fun i3 l n w' gc gm hi hl hn j7 cr7 fl7 y1 y2 y3 y4 y5 => by
          rw [ck0 4 (by decide), lt_e, ck0 4 (by decide), x80 4 (by decide), up_same, if_neg (nI_nm1 (by omega))]
          have j8 := jj_u j7 (c := 122) (k := 80 + 5 * r + 4) (by decide) (nI n)
          rcases sn_sim j8 with ⟨gm8, s1, s2, s3, s4⟩ | ⟨gc8, gm8, s1, s2, s3, s4, s5⟩
          · obtain ⟨gc9, t1, t2, t3, t4, t5⟩ := rw_add s3 (cr_c cr7 (fc_av gc (i3 + 1))) hr (nI q) (nI w) (nI h) (nI l) (nI n)
            rw [s1, bd2_e, if_neg no10, t1, bd2_e, if_neg no10, s2, bd2_e]
            refine Or.inl ⟨i3 + 1, gc9, gm8, by omega, rfl, rfl, jj_w t2 (Nat.zero_le _), t3, ⟨⟨q, w, h, l, n, q9, w1, w2, h11, hl, hn, t4, ?_, ?_, ?_, ?_, ?_⟩, fun k hk => ?_⟩, fl_t (fl_t fl7 (fl_c (fc_av gc _))) t5⟩
            · rw [s4.1 122 (by decide), up_oj (by omega)]; exact y2
            · rw [s4.1 122 (by decide), up_oj (by omega)]; exact y3
            · rw [s4.1 122 (by decide), up_oj (by omega)]; exact y4
            · rw [s4.1 122 (by decide), up_oj (by omega)]; exact y5
            · rw [s4.1 122 (by decide), up_same]
            · rw [s4.1 122 (by decide), up_oj (by omega)]; exact y1 k hk
          · rw [s1, bd2_e, if_pos rfl, s2, bd2_e]
            exact Or.inr ⟨gc8, gm8, rfl, rfl, s3⟩
        simp only [jn2_e, jn0_e]
        -- behind the wall, if there is one
        have fin1 : ∀ (i3 l w' : Nat) (gc gm : PH), i < i3 → l ≤ 3 → JJ 2 B L N i3 w' [] gc gm → CR r gc → FL r hc gc → (∀ k, k < 80 + 5 * r → gm 122 k = hm 122 k) → gm 122 (80 + 5 * r) = nI q → gm 122 (80 + 5 * r + 1) = nI (w - 1) → gm 122 (80 + 5 * r + 2) = nI h → LOK 2 B L N i r hc hm (if nI w = 1 then bd2 (mD_takesNumber 1 99 gc) fun r25 h26 => if r25 = 0 then some (0, h26) else lt (h26 90 9) fun x27 => bd2 (mD_takesSign 59 h26) fun r20 h21 => if r20 = 0 then some (0, h21) else bd2 (mR_add 91 (nI q) (nI w) (nI h) (nI l) x27 h21) fun r22 h23 => if r22 = 0 then some (0, h23) else some (1, h23) else if nI w = 2 then bd2 (mD_takesNumber 1 99 gc) fun r25 h26 => if r25 = 0 then some (0, h26) else lt (h26 90 9) fun x27 => bd2 (mD_takesSign 59 h26) fun r20 h21 => if r20 = 0 then some (0, h21) else bd2 (mR_add 91 (nI q) (nI w) (nI h) (nI l) x27 h21) fun r22 h23 => if r22 = 0 then some (0, h23) else some (1, h23) else bd2 (mD_takesSign 59 gc) fun r20 h21 => if r20 = 0 then some (0, h21) else bd2 (mR_add 91 (nI q) (nI w) (nI h) (nI l) 0 h21) fun r22 h23 => if r22 = 0 then some (0, h23) else some (1, h23)) (ck (nI (80 + 5 * r + 3)) 160 <| lt (up gm 122 (ix (nI (80 + 5 * r + 3))) (nI l)) fun h17 => ck (nI (80 + 5 * r + 3)) 160 <| if (h17 122 (ix (nI (80 + 5 * r + 3)))) = (-1) then some ((-1), h17) else if nI (w - 1) = 0 then bd2 (mm_readNumber 1 99 h17) fun r25 h26 => ck (nI (80 + 5 * r + 4)) 160 <| lt (up h26 122 (ix (nI (80 + 5 * r + 4))) r25) fun h21 => ck (nI (80 + 5 * r + 4)) 160 <| if (h21 122 (ix (nI (80 + 5 * r + 4)))) = (-1) then some ((-1), h21) else bd2 (mm_readMark 59 h21) fun r22 h23 => some (r22, h23) else if nI (w - 1) = 1 then bd2 (mm_readNumber 1 99 h17) fun r25 h26 => ck (nI (80 + 5 * r + 4)) 160 <| lt (up h26 122 (ix (nI (80 + 5 * r + 4))) r25) fun h21 => ck (nI (80 + 5 * r + 4)) 160 <| if (h21 122 (ix (nI (80 + 5 * r + 4)))) = (-1) then some ((-1), h21) else bd2 (mm_readMark 59 h21) fun r22 h23 => some (r22, h23) else ck (nI (80 + 5 * r + 4)) 160 <| lt (up h17 122 (ix (nI (80 + 5 * r + 4))) 0) fun h21 => ck (nI (80 + 5 * r + 4)) 160 <| if (h21 122 (ix (nI (80 + 5 * r + 4)))) = (-1) then some ((-1), h21) else bd2 (mm_readMark 59 h21) fun r22 h23 => some (r22, h23)) (OFQ H r hm) := fun i3 l w' gc gm hi hl j7 cr7 fl7 y1 y2 y3 y4 => by
          rw [ck0 3 (by decide), lt_e, ck0 3 (by decide), x80 3 (by decide), up_same, if_neg (nI_nm1 (by omega))]
          have j8 := jj_u j7 (c := 122) (k := 80 + 5 * r + 3) (by decide) (nI l)
          have z1 : ∀ k, k < 80 + 5 * r → up gm 122 (80 + 5 * r + 3) (nI l) 122 k = hm 122 k := fun k hk => by rw [up_oj (by omega)]; exact y1 k hk
          have z2 : up gm 122 (80 + 5 * r + 3) (nI l) 122 (80 + 5 * r) = nI q := by rw [up_oj (by omega)]; exact y2
          have z3 : up gm 122 (80 + 5 * r + 3) (nI l) 122 (80 + 5 * r + 1) = nI (w - 1) := by rw [up_oj (by omega)]; exact y3
          have z4 : up gm 122 (80 + 5 * r + 3) (nI l) 122 (80 + 5 * r + 2) = nI h := by rw [up_oj (by omega)]; exact y4
          have z5 : up gm 122 (80 + 5 * r + 3) (nI l) 122 (80 + 5 * r + 3) = nI l := up_same
          generalize up gm 122 (80 + 5 * r + 3) (nI l) = hm8 at j8 z1 z2 z3 z4 z5 ⊢
          have num : LOK 2 B L N i r hc hm (bd2 (mD_takesNumber 1 99 gc) fun r25 h26 => if r25 = 0 then some (0, h26) else lt (h26 90 9) fun x27 => bd2 (mD_takesSign 59 h26) fun r20 h21 => if r20 = 0 then some (0, h21) else bd2 (mR_add 91 (nI q) (nI w) (nI h) (nI l) x27 h21) fun r22 h23 => if r22 = 0 then some (0, h23) else some (1, h23)) (bd2 (mm_readNumber 1 99 hm8) fun r25 h26 => ck (nI (80 + 5 * r + 4)) 160 <| lt (up h26 122 (ix (nI (80 + 5 * r + 4))) r25) fun h21 => ck (nI (80 + 5 * r + 4)) 160 <| if (h21 122 (ix (nI (80 + 5 * r + 4)))) = (-1) then some ((-1), h21) else bd2 (mm_readMark 59 h21) fun r22 h23 => some (r22, h23)) (OFQ H r hm) := by
            rcases nb_sim j8 1 99 with ⟨n, gc6, gm6, p1, p2, p3, p4, p5, p6, p7, p8, p9, p10, p11⟩ | ⟨gc6, gm6, e1, e2, e3, e4, e5⟩
            · rw [p6, bd2_e, if_neg no10, lt_e, p8, p7, bd2_e]
              have n9' : n ≤ 99 := by have := le_n p3 p5 (y := 99) (by decide); omega
              exact fin2 _ l n _ gc6 gm6 (by omega) hl n9' p9 (cr_c cr7 p10) (fl_t fl7 (fl_c p10)) (fun k hk => by rw [p11.1 122 (by decide)]; exact z1 k hk) (by rw [p11.1 122 (by decide)]; exact z2) (by rw [p11.1 122 (by decide)]; exact z3) (by rw [p11.1 122 (by decide)]; exact z4) (by rw [p11.1 122 (by decide)]; exact z5)
            · rw [e1, bd2_e, if_pos rfl, e2, bd2_e, ck0 4 (by decide), lt_e, ck0 4 (by decide), x80 4 (by decide), up_same, if_pos rfl]
              exact Or.inr ⟨gc6, _, rfl, rfl, ff_u e3 (by decide) _⟩
          by_cases c1 : w = 1
          · rw [if_pos (show nI w = (1 : Int32) by rw [c1]; rfl), if_pos (show nI (w - 1) = (0 : Int32) by rw [c1]; rfl)]
            exact num
          · rw [if_neg (show ¬ nI w = (1 : Int32) from fun z => c1 ((nI_eq (b := 1) (by omega) (by decide)).mp z)), if_neg (show ¬ nI (w - 1) = (0 : Int32) from fun z => by have := (nI_eq (b := 0) (by omega) (by decide)).mp z; omega)]
            by_cases c2 : w = 2
            · rw [if_pos (show nI w = (2 : Int32) by rw [c2]; rfl), if_pos (show nI (w - 1) = (1 : Int32) by rw [c2]; rfl)]
              exact num
            · rw [if_neg (show ¬ nI w = (2 : Int32) from fun z => c2 ((nI_eq (b := 2) (by omega) (by decide)).mp z)), if_neg (show ¬ nI (w - 1) = (1 : Int32) from fun z => by have := (nI_eq (b := 1) (by omega) (by decide)).mp z; omega)]
              exact fin2 _ l 0 _ gc hm8 hi hl (by decide) j8 cr7 fl7 z1 z2 z3 z4 z5
        by_cases c2 : w = 2
        · rw [if_pos (show nI w = (2 : Int32) by rw [c2]; rfl), if_pos (show nI (w - 1) = (1 : Int32) by rw [c2]; rfl)]
          rcases nb_sim j6 0 3 with ⟨l, gc7, gm7, p1', p2', p3', p4', p5', p6', p7', p8', p9', p10', p11'⟩ | ⟨gc7, gm7, e1, e2, e3, e4, e5⟩
          · rw [p6', bd2_e, if_neg no10, lt_e, p8', p7', bd2_e]
            have l3 : l ≤ 3 := by have := le_n p3' p5' (y := 3) (by decide); omega
            exact fin1 _ l _ gc7 gm7 (by omega) l3 p9' (cr_c cr6 p10') (fl_t fl6 (fl_c p10')) (fun k hk => by rw [p11'.1 122 (by decide)]; exact k6 k hk) (by rw [p11'.1 122 (by decide)]; exact k6q) (by rw [p11'.1 122 (by decide)]; exact k6w) (by rw [p11'.1 122 (by decide)]; exact k6h)
          · rw [e1, bd2_e, if_pos rfl, e2, bd2_e, ck0 3 (by decide), lt_e, ck0 3 (by decide), x80 3 (by decide), up_same, if_pos rfl]
            exact Or.inr ⟨gc7, _, rfl, rfl, ff_u e3 (by decide) _⟩
        · rw [if_neg (show ¬ nI w = (2 : Int32) from fun z => c2 ((nI_eq (b := 2) (by omega) (by decide)).mp z)), if_neg (show ¬ nI (w - 1) = (1 : Int32) from fun z => by have := (nI_eq (b := 1) (by omega) (by decide)).mp z; omega)]
          exact fin1 _ 0 _ gc6 hm6 (by omega) (by decide) j6 cr6 fl6 k6 k6q k6w k6h
      · rw [e1, bd2_e, if_pos rfl, e2, bd2_e, ck0 2 (by decide), lt_e, ck0 2 (by decide), x80 2 (by decide), up_same, if_pos rfl]
        exact Or.inr ⟨gc6, _, rfl, rfl, ff_u e3 (by decide) _⟩
    · have ref : ∀ K : Option (Int32 × PH), (if gc2 90 6 = 1 then bd (mX_within (gc2 90 7) 1 4 gc2) fun r8 => if r8 = 0 then (bd2 (mD_refuse 1 gc2) fun r6 h7 => some (nb r6, h7)) else K else bd2 (mD_refuse 1 gc2) fun r6 h7 => some (nb r6, h7)) = bd2 (mD_refuse 1 gc2) fun r6 h7 => some (nb r6, h7) := fun K => by
        by_cases c6 : gc2 90 6 = 1
        · rw [if_pos c6]
          have t2 : (tt B L (i + 1 + 1)).1 = 2 := by
            apply Classical.byContradiction
            intro z
            exact c_nw j3.1 z c6
          rcases c_wv j3.1 t2 with ⟨w', y1, y2, y3, y4⟩ | ⟨y1, _⟩
          · rw [wv2l] at y1
            have w0 : w' = 0 := by
              apply Classical.byContradiction
              intro z
              exact y ⟨w', by omega, by omega, t2, by rw [← y2, wv2m w' (by omega) (by omega)]⟩
            rw [y4, w0, within_n (by decide), bd_e, if_pos rfl]
          · rw [y1] at c6; exact absurd c6 (by decide)
        · rw [if_neg c6]
      have mref : ∀ K : Option (Int32 × PH), (if hm3 104 14 = 2 then bd (mm_isIn (hm3 104 15) 21 24 hm3) fun r7 => if r7 = 0 then (bd2 (mm_errs 1 hm3) fun r5 h6 => some (r5, h6)) else K else bd2 (mm_errs 1 hm3) fun r5 h6 => some (r5, h6)) = bd2 (mm_errs 1 hm3) fun r5 h6 => some (r5, h6) := fun K => by
        have k : TkM (tt B L (i + 1 + 1)) (hm3 104 14) (hm3 104 15) := j3.2.1.2.2.2
        rcases k with ⟨_, e⟩ | ⟨_, e⟩ | ⟨a, a2, e, e2⟩ | ⟨_, _, e, _⟩ | ⟨_, _, e, _⟩
        · rw [e, if_neg (by decide)]
        · rw [e, if_neg (by decide)]
        · rw [if_pos e, e2, isIn_n (fun z => ?_), bd_e, if_pos rfl]
          have z1 : 21 ≤ (tt B L (i + 1 + 1)).2 := (nI_leI (a := 21) (by decide) (by omega)).mp z.1
          have z2 : (tt B L (i + 1 + 1)).2 ≤ 24 := (nI_leI (b := 24) (by omega) (by decide)).mp z.2
          exact y ⟨(tt B L (i + 1 + 1)).2 - 20, by omega, by omega, a, by omega⟩
        · rw [e, if_neg (by decide)]
        · rw [e, if_neg (by decide)]
      rw [ref, mref]
      obtain ⟨gc8, gm8, s1, s2, s3, s4, s5⟩ := j_ref j3 1
      rw [s1, bd2_e, s2, bd2_e]
      exact Or.inr ⟨gc8, gm8, rfl, rfl, s3⟩
  · rw [e1, bd2_e, if_pos rfl]
    rw [e2, bd2_e, bd2_e, ck1, lt_e, ck1, x0, up_same, if_pos rfl]
    exact Or.inr ⟨gc2, _, rfl, rfl, ff_u e3 (by decide) _⟩
