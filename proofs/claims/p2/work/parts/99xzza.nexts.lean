/-! WHO IS NEXT, told in range: kept by every call -/
theorem rn_fr {h g : PH} (e : ∀ x, x = 14 ∨ x = 15 ∨ x = 48 ∨ x = 49 → g x = h x) (r : RNX h) : RNX g := by
  obtain ⟨⟨m, m1, m2, m3⟩, ⟨n, n1, n2, n3⟩⟩ := r
  refine ⟨⟨m, m1, by rw [e 14 (by omega)]; exact m2, fun q hq => ?_⟩, ⟨n, n1, by rw [e 48 (by omega)]; exact n2, fun q hq => ?_⟩⟩
  · rw [show (14 : Nat) + 1 = 15 from rfl, e 15 (by omega)]; exact m3 q hq
  · rw [show (48 : Nat) + 1 = 49 from rfl, e 49 (by omega)]; exact n3 q hq
theorem rn_cs {S : List Nat} {h h1 h2 : PH} (f1 : Fr S h1 h) (n : 14 ∉ S ∧ 15 ∉ S ∧ 48 ∉ S ∧ 49 ∉ S) (cs : CS h h1 h2) (r : RNX h) : RNX h2 := rn_fr (fun x hx => by
  rw [cs.2.2.2.2 x (by omega)]
  rcases hx with z | z | z | z <;> subst z
  · exact f1 14 n.1
  · exact f1 15 n.2.1
  · exact f1 48 n.2.2.1
  · exact f1 49 n.2.2.2) r
theorem rn_p {h h2 : PH} (cs : CS h h h2) (r : RNX h) : RNX h2 := rn_fr (fun x hx => cs.2.2.2.2 x (by omega)) r
theorem rn_first : RNX hI := ⟨⟨0, by decide, rfl, fun r hr => absurd hr (Nat.not_lt_zero r)⟩, ⟨0, by decide, rfl, fun r hr => absurd hr (Nat.not_lt_zero r)⟩⟩
theorem rn_image (a1 : Int32) (h : PH) (i : IM h) (rl : RLA h) (r : RNX h) {rX : Int32} {h1 h2 : PH} (e1 : mX_image (if a1 = 0 then 0 else 1) h = some (rX, h1)) (cs : CS h h1 h2) : RNX h2 := by
  have ss := cs.2.2.2.2
  obtain ⟨⟨m, m1, m2, m3⟩, ⟨n, n1, n2, n3⟩⟩ := id r
  by_cases c : a1 = 0
  · rw [if_pos c] at e1
    by_cases cz : h 0 13 = 0
    · unfold mX_image at e1
      rw [if_pos rfl, if_pos cz] at e1
      cases e1
      exact rn_fr (fun x hx => ss x (by omega)) r
    · obtain ⟨g, eg, w, d1, d2, t7, -, z70⟩ := xi_back h i.1 cz
      rw [eg] at e1
      cases e1
      obtain ⟨w1, w2⟩ := w 4 (by decide)
      have w1 : h1 14 3 = h 48 3 := w1
      have w2 : ∀ j, j < (h 48 3).toNatClampNeg * 5 → h1 15 j = h 49 j := w2
      rw [n2, clm (by omega)] at w2
      refine ⟨⟨n, n1, by rw [ss 14 (by decide), w1]; exact n2, fun q hq => ?_⟩, ⟨n, n1, by rw [ss 48 (by decide), t7 48 (by decide) (by decide)]; exact n2, fun q hq => ?_⟩⟩
      · rw [show (14 : Nat) + 1 = 15 from rfl, ss 15 (by decide), w2 _ (by omega), w2 _ (by omega)]
        exact n3 q hq
      · rw [show (48 : Nat) + 1 = 49 from rfl, ss 49 (by decide), t7 49 (by decide) (by decide)]
        exact n3 q hq
  · rw [if_neg c] at e1
    obtain ⟨g, eg, w, d1, d2, t7, -⟩ := xi_take 1 (by decide) h i.1
    rw [eg] at e1
    cases e1
    obtain ⟨w1, w2⟩ := w 4 (by decide)
    have w1 : h1 48 3 = h 14 3 := w1
    have w2 : ∀ j, j < (h 14 3).toNatClampNeg * 5 → h1 49 j = h 15 j := w2
    rw [m2, clm (by omega)] at w2
    refine ⟨⟨m, m1, by rw [ss 14 (by decide), t7 14 (by decide) (by decide)]; exact m2, fun q hq => ?_⟩, ⟨m, m1, by rw [ss 48 (by decide), w1]; exact m2, fun q hq => ?_⟩⟩
    · rw [show (14 : Nat) + 1 = 15 from rfl, ss 15 (by decide), t7 15 (by decide) (by decide)]
      exact m3 q hq
    · rw [show (48 : Nat) + 1 = 49 from rfl, ss 49 (by decide), w2 _ (by omega), w2 _ (by omega)]
      exact m3 q hq
theorem rn_text (k : Nat) (a1 : Int32) (h : PH) (i : IM h) (rl : RLA h) (rx : RTX h) (t : TWN k h) (rn : RNX h) {rX rm : Int32} {h1 h2 : PH} (e1 : mX_text a1 h = some (rX, h1)) (e2 : mm_text a1 h1 = some (rm, h2)) (cs : CS h h1 h2) : RNX h2 := by
  have x104 := cs.2.2.2.1
  have ss := cs.2.2.2.2
  obtain ⟨t1, t2, t3, ⟨H, N, M, u, s0, Ls, t4, t5⟩, t6⟩ := id t
  have h12 : H ≤ 12 := t4.1.1.1
  have eH1 : h 1 1 = nI H := t4.1.1.2.1
  have eH6 : h 104 6 = nI H := t4.1.1.2.2.1
  have rw0 := rows_t i.1
  have fX := fpX_text a1 h e1
  have c48 : h1 48 = h 48 := fX 48 (show 48 ∉ FPdX_text a1 from (by decide : 48 ∉ FPdX_text 0))
  have c49 : h1 49 = h 49 := fX 49 (show 49 ∉ FPdX_text a1 from (by decide : 49 ∉ FPdX_text 0))
  have old : h1 14 = h 14 → h1 15 = h 15 → RNX h2 := fun y1 y2 => rn_fr (fun x hx => by
    rw [ss x (by omega)]
    rcases hx with z | z | z | z <;> subst z
    · exact y1
    · exact y2
    · exact c48
    · exact c49) rn
  unfold mX_text at e1
  unfold mm_text at e2
  rw [show mD_forgetFault h = some (up (up h 90 2 0) 90 3 (-1)) from rfl, bd_e] at e1
  rw [lt_e, lt_e, lt_e, lt_e, lt_e, lt_e] at e2
  have hF : ∀ b, b ≠ 90 → up (up h 90 2 0) 90 3 (-1) b = h b := fun b hb => by rw [up_cell hb, up_cell hb]
  have F2 : up (up h 90 2 0) 90 3 (-1) 90 2 = 0 := by rw [up_oj (by decide), up_same]
  have F3 : up (up h 90 2 0) 90 3 (-1) 90 3 = -1 := up_same
  have iF : Inv (up (up h 90 2 0) 90 3 (-1)) := inv_put (inv_put i.1 (show sp 90 2 = (-2147483648, 2147483647) from rfl) (r_full _)) (show sp 90 3 = (-2147483648, 2147483647) from rfl) (r_full _)
  generalize up (up h 90 2 0) 90 3 (-1) = hf at e1 hF F2 F3 iF
  have hM : ∀ b, b ≠ 104 → up (up (up (up (up (up h1 104 0 0) 104 31 0) 104 32 (-1)) 104 12 0) 104 25 0) 104 26 0 b = h1 b := fun b hb => by rw [up_cell hb, up_cell hb, up_cell hb, up_cell hb, up_cell hb, up_cell hb]
  have hM4 : ∀ j, j ≠ 0 → j ≠ 31 → j ≠ 32 → j ≠ 12 → j ≠ 25 → j ≠ 26 → up (up (up (up (up (up h1 104 0 0) 104 31 0) 104 32 (-1)) 104 12 0) 104 25 0) 104 26 0 104 j = h 104 j := fun j j0 j1 j2 j3 j4 j5 => by rw [up_oj j5, up_oj j4, up_oj j3, up_oj j2, up_oj j1, up_oj j0, x104 104 (by decide)]
  have M12 : up (up (up (up (up (up h1 104 0 0) 104 31 0) 104 32 (-1)) 104 12 0) 104 25 0) 104 26 0 104 12 = 0 := by rw [up_oj (by decide), up_oj (by decide), up_same]
  have M25 : up (up (up (up (up (up h1 104 0 0) 104 31 0) 104 32 (-1)) 104 12 0) 104 25 0) 104 26 0 104 25 = 0 := by rw [up_oj (by decide), up_same]
  have M26 : up (up (up (up (up (up h1 104 0 0) 104 31 0) 104 32 (-1)) 104 12 0) 104 25 0) 104 26 0 104 26 = 0 := up_same
  generalize up (up (up (up (up (up h1 104 0 0) 104 31 0) 104 32 (-1)) 104 12 0) 104 25 0) 104 26 0 = hm at e2 hM hM4 M12 M25 M26
  by_cases f : 0 ≤ a1 ∧ a1 ≤ 3
  · obtain ⟨s, s1, s2, es⟩ := nat_of (rng_of (x := 0) (y := 3) rfl rfl f) (by decide)
    have hs4 : s < 4 := by omega
    obtain ⟨L, L1, L2, eL⟩ := nat_of (show R 0 400 (h 85 4) from inv_rng i.1 rfl) (by decide)
    have e11 : h 104 11 = nI L := by rw [← rl.2.2.2]; exact eL
    have bt : ∀ j, j < L → (h 86 j &&& 255) = nI ((h 111 j).toInt.toNat) ∧ h 111 j = nI ((h 111 j).toInt.toNat) ∧ (h 111 j).toInt.toNat < 256 := fun j hj => by
      obtain ⟨b1, b2⟩ := rx.1 j (by rw [e11, nI_toInt L2]; omega)
      obtain ⟨w, w1, w2, ew⟩ := nat_of b2 (by decide)
      rw [b1, ew, nI_toInt w2, Int.toNat_natCast]
      exact ⟨rfl, rfl, by omega⟩
    have tc : TC (fun j => (h 111 j).toInt.toNat) L hf := ⟨by omega, by rw [hF 85 (by decide)]; exact eL, fun j hj => by rw [hF 86 (by decide)]; exact ⟨(bt j hj).1, (bt j hj).2.2⟩⟩
    have tm : TM (fun j => (h 111 j).toInt.toNat) L hm := ⟨by omega, by rw [hM4 11 (by decide) (by decide) (by decide) (by decide) (by decide) (by decide)]; exact e11, fun j hj => by rw [hM 111 (by decide), x104 111 (by decide)]; exact ⟨(bt j hj).2.1, (bt j hj).2.2⟩, fun j hj => by rw [hM 112 (by decide), x104 112 (by decide)]; exact wd_ch i j hj⟩
    have e1H : hf 1 1 = nI H := by rw [hF 1 (by decide)]; exact eH1
    have tx := tx_rows (s := s) (H := H) hs4 tc iF F2 F3 tm M12 M25 M26 h12 (by rw [hM4 6 (by decide) (by decide) (by decide) (by decide) (by decide) (by decide)]; exact eH6)
    rw [within_y f, bd_e, jn2_e, if_neg no10, e1H, es] at e1
    rw [isIn_y f, bd_e, jn2_e, if_neg no10, es] at e2
    have rdC : ∀ {x : Int32} {g : PH}, mD_reads (nI s) (nI H) hf = some (x, g) → ∀ b, b < 85 → g b = h b := fun {x g} e b hb => by
      have := fpD_reads (nI s) (nI H) hf e b (by
        unfold FPdD_reads
        simp only [List.mem_cons, List.not_mem_nil, or_false]
        omega)
      have this : g b = hf b := this
      rw [this, hF b (by omega)]
    rcases tx with ⟨r, gc, gm, r1, r2, r3, cr, q⟩ | ⟨gc, gm, r2, r3⟩
    · have gC := rdC r2
      rw [r2, bd2_e, if_neg no10] at e1
      change (lt (up gc 85 4 0) fun h6 => if (1 : Int32) = 0 then some (-1, h6) else bd2 (mX_keepText (nI s) h6) fun r7 h8 => some (r7, h8)) = some (rX, h1) at e1
      rw [lt_e, if_neg no10] at e1
      have hC : ∀ b, b ≠ 85 → up gc 85 4 0 b = gc b := fun b hb => up_cell hb
      rcases s4 hs4 with e | e | e | e
      · subst e
        obtain ⟨y, g, k1, k2⟩ := bd2_s e1
        cases k2
        unfold mX_keepText at k1
        rw [if_pos (show nI 0 = (0 : Int32) from rfl)] at k1
        obtain ⟨g1, q1, k1⟩ := bd_s k1
        obtain ⟨g2, q2, k1⟩ := bd_s k1
        cases k1
        exact old (by rw [fpR_copyFrom 8 93 g1 q2 14 (by decide), fpR_copyFrom 6 91 _ q1 14 (by decide), hC 14 (by decide), gC 14 (by decide)]) (by rw [fpR_copyFrom 8 93 g1 q2 15 (by decide), fpR_copyFrom 6 91 _ q1 15 (by decide), hC 15 (by decide), gC 15 (by decide)])
      · subst e
        obtain ⟨y, g, k1, k2⟩ := bd2_s e1
        cases k2
        unfold mX_keepText at k1
        rw [if_neg (show ¬ nI 1 = (0 : Int32) by decide), if_pos (show nI 1 = (1 : Int32) from rfl)] at k1
        obtain ⟨g1, q1, k1⟩ := bd_s k1
        obtain ⟨g2, q2, k1⟩ := bd_s k1
        cases k1
        exact old (by rw [fpP_forget g1 q2 14 (by decide), fpR_copyFrom 10 91 _ q1 14 (by decide), hC 14 (by decide), gC 14 (by decide)]) (by rw [fpP_forget g1 q2 15 (by decide), fpR_copyFrom 10 91 _ q1 15 (by decide), hC 15 (by decide), gC 15 (by decide)])
      · subst e
        obtain ⟨y, g, k1, k2⟩ := bd2_s e1
        cases k2
        unfold mX_keepText at k1
        rw [if_neg (show ¬ nI 2 = (0 : Int32) by decide), if_neg (show ¬ nI 2 = (1 : Int32) by decide), if_pos (show nI 2 = (2 : Int32) from rfl)] at k1
        obtain ⟨g1, q1, k1⟩ := bd_s k1
        obtain ⟨g2, q2, k1⟩ := bd_s k1
        cases k1
        exact old (by rw [fpP_forget g1 q2 14 (by decide), fpR_copyFrom 12 91 _ q1 14 (by decide), hC 14 (by decide), gC 14 (by decide)]) (by rw [fpP_forget g1 q2 15 (by decide), fpR_copyFrom 12 91 _ q1 15 (by decide), hC 15 (by decide), gC 15 (by decide)])
      · subst e
        have sr := (q.2.2.2 rfl).2
        have c91 : up gc 85 4 0 91 1 = nI 5 ∧ up gc 85 4 0 91 3 = nI r := by rw [hC 91 (by decide)]; exact ⟨cr.2.1, cr.2.2⟩
        have w14 : up gc 85 4 0 14 1 = nI 5 := by rw [hC 14 (by decide), gC 14 (by decide)]; exact (rw0.1 4 (by decide)).1
        obtain ⟨g1, p1, p2⟩ := cp_d 14 91 r 5 (by decide) (by show r * 5 ≤ 80; omega) (by show r * 5 ≤ 80; omega) (by decide) (h := up gc 85 4 0) (by omega) c91.2 c91.1 w14
        unfold mX_keepText at e1
        rw [if_neg (show ¬ nI 3 = (0 : Int32) by decide), if_neg (show ¬ nI 3 = (1 : Int32) by decide), if_neg (show ¬ nI 3 = (2 : Int32) by decide), p1, bd_e, bd2_e] at e1
        have eh := (Prod.mk.inj (Option.some.inj e1)).2
        have c3 : (up gc 85 4 0 91 3).toNatClampNeg = r := by rw [c91.2]; exact clm (by omega)
        have wd : ∀ j, j < r * 5 → h2 15 j = gc 92 j := fun j hj => by
          rw [ss 15 (by decide), ← eh]
          have := p2.2.2.2 j (by rw [c3]; exact hj)
          rw [show (14 : Nat) + 1 = 15 from rfl, show (91 : Nat) + 1 = 92 from rfl, hC 92 (by decide)] at this
          exact this
        refine ⟨⟨r, r1, by rw [ss 14 (by decide), ← eh, p2.2.1]; exact c91.2, fun q' hq => ?_⟩, ?_⟩
        · rw [show (14 : Nat) + 1 = 15 from rfl, wd _ (by omega), wd _ (by omega)]
          exact sr q' hq
        · obtain ⟨n, n1, n2, n3⟩ := rn.2
          refine ⟨n, n1, by rw [ss 48 (by decide), c48]; exact n2, fun q' hq => ?_⟩
          rw [show (48 : Nat) + 1 = 49 from rfl, ss 49 (by decide), c49]
          exact n3 q' hq
    · have gC := rdC r2
      rw [r2, bd2_e, if_pos rfl] at e1
      change (lt (up gc 85 4 0) fun h6 => if (0 : Int32) = 0 then some (-1, h6) else bd2 (mX_keepText (nI s) h6) fun r7 h8 => some (r7, h8)) = some (rX, h1) at e1
      rw [lt_e, if_pos rfl] at e1
      have eh := (Prod.mk.inj (Option.some.inj e1)).2
      exact old (by rw [← eh, up_cell (by decide)]; exact gC 14 (by decide)) (by rw [← eh, up_cell (by decide)]; exact gC 15 (by decide))
  · rw [within_n f, bd_e, jn2_e, if_pos rfl] at e1
    change (lt (up hf 85 4 0) fun h6 => if (0 : Int32) = 0 then some (-1, h6) else bd2 (mX_keepText a1 h6) fun r7 h8 => some (r7, h8)) = some (rX, h1) at e1
    rw [lt_e, if_pos rfl] at e1
    have eh := (Prod.mk.inj (Option.some.inj e1)).2
    exact old (by rw [← eh, up_cell (by decide)]; exact hF 14 (by decide)) (by rw [← eh, up_cell (by decide)]; exact hF 15 (by decide))
