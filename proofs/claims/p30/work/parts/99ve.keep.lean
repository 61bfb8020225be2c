section
/-! THE TAPE'S LENGTH, THE IMAGE; then every call keeps the relation. Printed by wip/gen/prel3.py -/
theorem rla_tp {h g : PH} (hc : ∀ b, b ∈ KC → b ≠ 85 → g b = h b) (h4 : ∀ j, 1000 + j ∈ KM → j ≠ 11 → g 104 j = h 104 j) (hm : ∀ b, 104 < b → b < 1000 → b ∈ KM → g b = h b) (tp : g 85 4 = g 104 11) (rl : RLA h) : RLA g := by
  obtain ⟨q, qi, qf, qt⟩ := rl
  refine ⟨⟨ls_fr_piece (hc 18 (by decide) (by decide)) (hc 19 (by decide) (by decide)) (h4 42 (by decide) (by decide)) (hm 127 (by decide) (by decide) (by decide)) q.1, ls_fr_dough (hc 20 (by decide) (by decide)) (hc 21 (by decide) (by decide)) (h4 45 (by decide) (by decide)) (hm 129 (by decide) (by decide) (by decide)) q.2.1, ls_fr_mark (hc 22 (by decide) (by decide)) (hc 23 (by decide) (by decide)) (h4 49 (by decide) (by decide)) (hm 132 (by decide) (by decide) (by decide)) q.2.2.1, ls_fr_bite (hc 24 (by decide) (by decide)) (hc 25 (by decide) (by decide)) (h4 51 (by decide) (by decide)) (hm 133 (by decide) (by decide) (by decide)) (hm 134 (by decide) (by decide) (by decide)) q.2.2.2.1, ls_fr_crumb (hc 26 (by decide) (by decide)) (hc 27 (by decide) (by decide)) (h4 54 (by decide) (by decide)) (hm 135 (by decide) (by decide) (by decide)) q.2.2.2.2.1, ls_fr_loaf (hc 28 (by decide) (by decide)) (hc 29 (by decide) (by decide)) (h4 57 (by decide) (by decide)) (hm 137 (by decide) (by decide) (by decide)) (hm 138 (by decide) (by decide) (by decide)) q.2.2.2.2.2.1, ls_fr_heir (hc 30 (by decide) (by decide)) (hc 31 (by decide) (by decide)) (h4 62 (by decide) (by decide)) (hm 141 (by decide) (by decide) (by decide)) q.2.2.2.2.2.2.1, ls_fr_member (hc 32 (by decide) (by decide)) (hc 33 (by decide) (by decide)) (h4 66 (by decide) (by decide)) (hm 144 (by decide) (by decide) (by decide)) (hm 145 (by decide) (by decide) (by decide)) q.2.2.2.2.2.2.2⟩, fun z => lia_fr (fun b h1 h2 => hc b ?_ (by omega)) (hm 148 (by decide) (by decide) (by decide)) (qi ?_), ?_, tp⟩
  · have : ∀ b, b < 68 → 52 ≤ b → b ∈ KC := by decide
    exact this b (by omega) h1
  · rw [h4 72 (by decide) (by decide)] at z; exact z
  · rw [hc 0 (by decide) (by decide), h4 72 (by decide) (by decide)]; exact qf
theorem rla_tps {S T : List Nat} {h h1 h2 : PH} (f1 : Fr S h1 h) (f2 : Fk T h2 h1) (s1 : ∀ b, b ∈ KC → b ≠ 85 → b ∉ S) (s2 : ∀ b, b ∈ KM → b ≠ 1011 → b ∉ T) (s3 : ∀ b, b ∈ S → b < 104) (s4 : ∀ b, b ∈ T → 104 ≤ b) (tp : h2 85 4 = h2 104 11) (rl : RLA h) : RLA h2 := by
  have k4 : ∀ j, kk 104 j = 1000 + j := fun j => rfl
  have kn : ∀ b j, b ≠ 104 → kk b j = b := fun b j hb => by unfold kk; rw [if_neg hb]
  refine rla_tp (fun b hb h85 => ?_) (fun j hj h11 => ?_) (fun b h4 h5 hb => ?_) tp rl
  · have lt : b < 104 := by
      have : ∀ b, b ∈ KC → b < 104 := by decide
      exact this b hb
    rw [← f1 b (s1 b hb h85)]
    funext j
    exact f2 b j (by rw [kn b j (by omega)]; intro q; have := s4 b q; omega)
  · rw [← f1 104 (fun q => by have := s3 104 q; omega)]
    exact f2 104 j (by rw [k4]; exact s2 _ hj (by omega))
  · rw [← f1 b (fun q => by have := s3 b q; omega)]
    funext j
    exact f2 b j (by rw [kn b j (by omega)]; exact s2 b hb (by omega))
theorem rl_feed (a1 a2 a3 a4 a5 : Int32) (h : PH) (i : IM h) (gi : GI h) (rl : RLA h) : ∃ rX h1 rm h2, mX_feed a1 a2 a3 a4 a5 h = some (rX, h1) ∧ mm_feed a1 a2 a3 a4 a5 h1 = some (rm, h2) ∧ CS h h1 h2 ∧ RLA h2 ∧ rX = rm := by
  obtain ⟨rX, h1, rm, h2, e1, e2, cs⟩ := cs_feed a1 a2 a3 a4 a5 h i gi
  refine ⟨rX, h1, rm, h2, e1, e2, cs, ?_⟩
  obtain ⟨l, l1, l2, el⟩ := nat_of (show R 0 400 (h 85 4) from inv_rng i.1 rfl) (by decide)
  have em : h1 104 11 = nI l := by rw [cs.2.2.2.1 104 (by decide), ← rl.2.2.2]; exact el
  have key : h2 85 4 = h2 104 11 ∧ rX = rm := by
    rw [cs.2.2.2.2 85 (by decide)]
    by_cases c : l + 20 ≤ 400
    · obtain ⟨g, q1, q2, -, -⟩ := feed_class a1 a2 a3 a4 a5 h l el c
      rw [q1] at e1
      cases e1
      obtain ⟨g', q3, q4, -, -⟩ := feed_model a1 a2 a3 a4 a5 h1 l em c
      rw [q3] at e2
      cases e2
      exact ⟨by rw [q2, q4], rfl⟩
    · unfold mX_feed at e1
      rw [el, show nI l + 20 = nI (l + 20) from nI_add l 20, if_neg (show ¬ nI (l + 20) ≤ (400 : Int32) from nI_ge (a := 400) (by omega) (by omega))] at e1
      cases e1
      unfold mm_feed at e2
      rw [lt_e, up_oj (by decide), em, if_neg (show ¬ nI l ≤ (380 : Int32) from nI_ge (a := 380) (by omega) (by omega))] at e2
      cases e2
      exact ⟨by rw [up_oj (by decide), el, em], rfl⟩
  exact ⟨rla_tps (fpX_feed a1 a2 a3 a4 a5 h e1) (fkm_feed a1 a2 a3 a4 a5 h1 e2) (by decide : ∀ b, b ∈ KC → b ≠ 85 → b ∉ FPdX_feed 0 0 0 0 0) (by decide : ∀ b, b ∈ KM → b ≠ 1011 → b ∉ FKdm_feed 0 0 0 0 0) (by decide : ∀ b, b ∈ FPdX_feed 0 0 0 0 0 → b < 104) (by decide : ∀ b, b ∈ FKdm_feed 0 0 0 0 0 → 104 ≤ b) key.1 rl, key.2⟩
theorem rl_end (a1 : Int32) (h : PH) (i : IM h) (gi : GI h) (rl : RLA h) : ∃ rX h1 rm h2, mX_end a1 h = some (rX, h1) ∧ mm_end a1 h1 = some (rm, h2) ∧ CS h h1 h2 ∧ RLA h2 ∧ rX = rm := by
  obtain ⟨rX, h1, rm, h2, e1, e2, cs⟩ := cs_end a1 h i gi
  refine ⟨rX, h1, rm, h2, e1, e2, cs, ?_⟩
  have em : h1 104 11 = h 85 4 := by rw [cs.2.2.2.1 104 (by decide), rl.2.2.2]
  have key : h2 85 4 = h2 104 11 ∧ rX = rm := by
    rw [cs.2.2.2.2 85 (by decide)]
    unfold mX_end at e1
    unfold mm_end at e2
    rw [lt_e, up_oj (by decide), em] at e2
    by_cases c1 : a1 < 0
    · rw [if_pos c1] at e1
      cases e1
      rw [isIn_n (fun q => absurd c1 (Int32.not_lt.mpr q.1)), bd_e, if_pos rfl] at e2
      cases e2
      exact ⟨by rw [up_oj (by decide)]; exact em.symm, rfl⟩
    · rw [if_neg c1] at e1
      by_cases c2 : a1 ≤ h 85 4
      · rw [if_pos c2, lt_e] at e1
        cases e1
        rw [isIn_y ⟨Int32.not_lt.mp c1, c2⟩, bd_e, if_neg (by decide), lt_e] at e2
        cases e2
        exact ⟨by rw [up_same, up_same], rfl⟩
      · rw [if_neg c2] at e1
        cases e1
        rw [isIn_n (fun q => c2 q.2), bd_e, if_pos rfl] at e2
        cases e2
        exact ⟨by rw [up_oj (by decide)]; exact em.symm, rfl⟩
  exact ⟨rla_tps (fpX_end a1 h e1) (fkm_end a1 h1 e2) (by decide : ∀ b, b ∈ KC → b ≠ 85 → b ∉ FPdX_end 0) (by decide : ∀ b, b ∈ KM → b ≠ 1011 → b ∉ FKdm_end 0) (by decide : ∀ b, b ∈ FPdX_end 0 → b < 104) (by decide : ∀ b, b ∈ FKdm_end 0 → 104 ≤ b) key.1 rl, key.2⟩
theorem xtext85 (p : Int32) (h : PH) {r : Int32 × PH} (e : mX_text p h = some r) : r.2 85 4 = 0 := by
  unfold mX_text at e
  obtain ⟨h1, -, e⟩ := bd_s e
  obtain ⟨r2, -, e⟩ := bd_s e
  refine v_j2 (fun (x : Int32) (g : PH) => r.2 85 4 = 0) e (fun x4 h5 e => ?_) (fun j3 kj e => ?_)
  · obtain ⟨h6, e6, e⟩ := lt_some e
    have z : h6 85 4 = 0 := by rw [e6]; exact up_same
    rcases ite_or e with ⟨-, e⟩ | ⟨-, e⟩
    · cases e
      exact z
    · obtain ⟨r7, h8, e8, e⟩ := bd2_s e
      cases e
      rw [← z]
      have f : h8 85 = h6 85 := fpX_keepText p h6 e8 85 (show 85 ∉ FPdX_keepText p from (by decide : 85 ∉ FPdX_keepText 0))
      show h8 85 4 = h6 85 4
      rw [f]
  · rcases ite_or e with ⟨-, e⟩ | ⟨-, e⟩
    · exact kj _ _ e
    · obtain ⟨r9, h10, -, e⟩ := bd2_s e
      rcases ite_or e with ⟨-, e⟩ | ⟨-, e⟩
      · exact kj _ _ e
      · exact kj _ _ e
theorem mtext11 (p : Int32) (h : PH) {r : Int32 × PH} (e : mm_text p h = some r) : r.2 104 11 = 0 := by
  unfold mm_text at e
  obtain ⟨h1, -, e⟩ := lt_some e
  obtain ⟨h2, -, e⟩ := lt_some e
  obtain ⟨h3, -, e⟩ := lt_some e
  obtain ⟨h4, -, e⟩ := lt_some e
  obtain ⟨h5, -, e⟩ := lt_some e
  obtain ⟨h6, -, e⟩ := lt_some e
  obtain ⟨r7, -, e⟩ := bd_s e
  refine v_j2 (fun (x : Int32) (g : PH) => r.2 104 11 = 0) e (fun x9 h10 e => ?_) (fun j8 kj e => ?_)
  · obtain ⟨h11, e11, e⟩ := lt_some e
    have z : h11 104 11 = 0 := by rw [e11]; exact up_same
    rcases ite_or e with ⟨-, e⟩ | ⟨-, e⟩
    · cases e
      exact z
    · rcases ite_or e with ⟨-, e⟩ | ⟨-, e⟩
      · obtain ⟨h12, e12, e⟩ := bd_s e
        cases e
        rw [← z]
        exact fkm_takesLaw x9 h11 e12 104 11 (show kk 104 11 ∉ FKdm_takesLaw x9 from (by decide : 1011 ∉ FKdm_takesLaw 0))
      · obtain ⟨h12, e12, e⟩ := bd_s e
        cases e
        rw [← z]
        exact fkm_takesOther p x9 h11 e12 104 11 (show kk 104 11 ∉ FKdm_takesOther p x9 from (by decide : 1011 ∉ FKdm_takesOther 0 0))
  · rcases ite_or e with ⟨-, e⟩ | ⟨-, e⟩
    · exact kj _ _ e
    · obtain ⟨r14, h15, -, e⟩ := bd2_s e
      rcases ite_or e with ⟨-, e⟩ | ⟨-, e⟩
      · obtain ⟨h16, -, e⟩ := lt_some e
        obtain ⟨h17, -, e⟩ := lt_some e
        exact kj _ _ e
      · exact kj _ _ e
theorem rl_text (a1 : Int32) (h : PH) (i : IM h) (gi : GI h) (rl : RLA h) : ∃ rX h1 rm h2, mX_text a1 h = some (rX, h1) ∧ mm_text a1 h1 = some (rm, h2) ∧ CS h h1 h2 ∧ RLA h2 ∧ True := by
  obtain ⟨rX, h1, rm, h2, e1, e2, cs⟩ := cs_text a1 h i gi
  have t1 : h1 85 4 = 0 := xtext85 a1 h e1
  have t2 : h2 104 11 = 0 := mtext11 a1 h1 e2
  exact ⟨rX, h1, rm, h2, e1, e2, cs, rla_tps (fpX_text a1 h e1) (fkm_text a1 h1 e2) (by decide : ∀ b, b ∈ KC → b ≠ 85 → b ∉ FPdX_text 0) (by decide : ∀ b, b ∈ KM → b ≠ 1011 → b ∉ FKdm_text 0) (by decide : ∀ b, b ∈ FPdX_text 0 → b < 104) (by decide : ∀ b, b ∈ FKdm_text 0 → 104 ≤ b) (by rw [cs.2.2.2.2 85 (by decide), t1, t2]) rl, trivial⟩
theorem pq_piece_0 : ∀ k, k < 9 → pm (175 + 1 * k) = (127, k) ∧ 175 + 1 * k < 1850 := by decide +kernel
theorem pq_dough_0 : ∀ k, k < 8 → pm (184 + 5 * k) = (129, k) ∧ 184 + 5 * k < 1850 := by decide +kernel
theorem pq_mark_0 : ∀ k, k < 5 → pm (224 + 1 * k) = (132, k) ∧ 224 + 1 * k < 1850 := by decide +kernel
theorem pq_bite_0 : ∀ k, k < 8 → pm (185 + 5 * k) = (133, k) ∧ 185 + 5 * k < 1850 := by decide +kernel
theorem pq_bite_1 : ∀ k, k < 8 → pm (186 + 5 * k) = (134, k) ∧ 186 + 5 * k < 1850 := by decide +kernel
theorem pq_crumb_0 : ∀ k, k < 16 → pm (229 + 1 * k) = (135, k) ∧ 229 + 1 * k < 1850 := by decide +kernel
theorem pq_loaf_0 : ∀ k, k < 6 → pm (245 + 2 * k) = (137, k) ∧ 245 + 2 * k < 1850 := by decide +kernel
theorem pq_loaf_1 : ∀ k, k < 6 → pm (246 + 2 * k) = (138, k) ∧ 246 + 2 * k < 1850 := by decide +kernel
theorem pq_heir_0 : ∀ k, k < 12 → pm (130 + 4 * k) = (141, k) ∧ 130 + 4 * k < 1850 := by decide +kernel
theorem pq_member_0 : ∀ k, k < 8 → pm (187 + 5 * k) = (144, k) ∧ 187 + 5 * k < 1850 := by decide +kernel
theorem pq_member_1 : ∀ k, k < 8 → pm (188 + 5 * k) = (145, k) ∧ 188 + 5 * k < 1850 := by decide +kernel
theorem rl_image (a1 : Int32) (h : PH) (i : IM h) (gi : GI h) (rl : RLA h) : ∃ rX h1 rm h2, mX_image (if a1 = 0 then 0 else 1) h = some (rX, h1) ∧ mm_image (if a1 = 0 then 0 else 1) h1 = some (rm, h2) ∧ CS h h1 h2 ∧ RLA h2 ∧ rX = rm := by
  obtain ⟨rX, h1, rm, h2, e1, e2, cs⟩ := cs_image a1 h i gi
  refine ⟨rX, h1, rm, h2, e1, e2, cs, ?_⟩
  have x104 := cs.2.2.2.1
  have s104 := cs.2.2.2.2
  have h148 := x104 148 (by decide)
  have tpm : h2 104 11 = h1 104 11 := fkm_image _ h1 e2 104 11 (show kk 104 11 ∉ FKdm_image _ from (by decide : 1011 ∉ FKdm_image 0))
  by_cases c : a1 = 0
  · rw [if_pos c] at e1 e2
    by_cases cz : h 0 13 = 0
    · unfold mX_image at e1
      rw [if_pos rfl, if_pos cz] at e1
      cases e1
      unfold mm_image at e2
      rw [lt_e, jn0_e, if_pos rfl, if_pos (by rw [up_oj (by decide), ← rl.2.2.1]; exact cz)] at e2
      cases e2
      exact ⟨rla_fr (fun b hb => up_cell (by
        have : ∀ b, b ∈ KC → b < 104 := by decide
        have := this b hb
        omega)) (fun j hj => up_oj (by
        intro q
        rw [q] at hj
        exact absurd hj (by decide))) (fun b hb _ => up_cell (by omega)) rl, rfl⟩
    · have nz : ¬ h 104 72 = 0 := by rw [← rl.2.2.1]; exact cz
      obtain ⟨g, eg, t2, -, -, t5, t6, -⟩ := xi_back h i.1 cz
      rw [eg] at e1
      cases e1
      obtain ⟨g', eg', g72, -, u⟩ := kc_image 0 (Or.inl rfl) h1 (Or.inr (by rw [x104 104 (by decide)]; exact nz))
      rw [eg'] at e2
      cases e2
      obtain ⟨u1, u2, -⟩ := u rfl
      refine ⟨⟨⟨?_, ?_, ?_, ?_, ?_, ?_, ?_, ?_⟩, fun _ => ?_, ?_, ?_⟩, rfl⟩
      · have q : LI_piece h := (rl.2.1 nz).1
        unfold LI_piece at q
        unfold LS_piece
        obtain ⟨d1, d2⟩ := t2 6 (by decide)
        have d1 : h1 18 3 = h 52 3 := d1
        have d2 : ∀ j, j < (h 52 3).toNatClampNeg * 1 → h1 19 j = h 53 j := d2
        rw [← s104 18 (by decide)] at d1
        rw [← s104 19 (by decide)] at d2
        have m1 : h2 104 42 = h 148 119 := by have := u1 119 (by decide); rw [h148] at this; exact this
        have y0 : ∀ j, j < 9 → h2 127 j = (fun k => h 148 (175 + 1 * k)) j := fun j hj => by
          obtain ⟨p1, p2⟩ := pq_piece_0 j hj
          have := u1 _ p2
          rw [p1, h148] at this
          exact this
        exact w1_x q d1 m1 9 (show (h 52 3).toInt ≤ ((9 : Nat) : Int) from (show R 0 9 (h 52 3) from inv_rng i.1 rfl).2) d2 y0
      · have q : LI_dough h := (rl.2.1 nz).2.1
        unfold LI_dough at q
        unfold LS_dough
        obtain ⟨d1, d2⟩ := t2 7 (by decide)
        have d1 : h1 20 3 = h 54 3 := d1
        have d2 : ∀ j, j < (h 54 3).toNatClampNeg * 1 → h1 21 j = h 55 j := d2
        rw [← s104 20 (by decide)] at d1
        rw [← s104 21 (by decide)] at d2
        have m1 : h2 104 45 = h 148 120 := by have := u1 120 (by decide); rw [h148] at this; exact this
        have y0 : ∀ j, j < 8 → h2 129 j = (fun k => h 148 (184 + 5 * k)) j := fun j hj => by
          obtain ⟨p1, p2⟩ := pq_dough_0 j hj
          have := u1 _ p2
          rw [p1, h148] at this
          exact this
        exact w1_x q d1 m1 8 (show (h 54 3).toInt ≤ ((8 : Nat) : Int) from (show R 0 8 (h 54 3) from inv_rng i.1 rfl).2) d2 y0
      · have q : LI_mark h := (rl.2.1 nz).2.2.1
        unfold LI_mark at q
        unfold LS_mark
        obtain ⟨d1, d2⟩ := t2 8 (by decide)
        have d1 : h1 22 3 = h 56 3 := d1
        have d2 : ∀ j, j < (h 56 3).toNatClampNeg * 1 → h1 23 j = h 57 j := d2
        rw [← s104 22 (by decide)] at d1
        rw [← s104 23 (by decide)] at d2
        have m1 : h2 104 49 = h 148 121 := by have := u1 121 (by decide); rw [h148] at this; exact this
        have y0 : ∀ j, j < 5 → h2 132 j = (fun k => h 148 (224 + 1 * k)) j := fun j hj => by
          obtain ⟨p1, p2⟩ := pq_mark_0 j hj
          have := u1 _ p2
          rw [p1, h148] at this
          exact this
        exact w1_x q d1 m1 5 (show (h 56 3).toInt ≤ ((5 : Nat) : Int) from (show R 0 5 (h 56 3) from inv_rng i.1 rfl).2) d2 y0
      · have q : LI_bite h := (rl.2.1 nz).2.2.2.1
        unfold LI_bite at q
        unfold LS_bite
        obtain ⟨d1, d2⟩ := t2 9 (by decide)
        have d1 : h1 24 3 = h 58 3 := d1
        have d2 : ∀ j, j < (h 58 3).toNatClampNeg * 2 → h1 25 j = h 59 j := d2
        rw [← s104 24 (by decide)] at d1
        rw [← s104 25 (by decide)] at d2
        have m1 : h2 104 51 = h 148 122 := by have := u1 122 (by decide); rw [h148] at this; exact this
        have y0 : ∀ j, j < 8 → h2 133 j = (fun k => h 148 (185 + 5 * k)) j := fun j hj => by
          obtain ⟨p1, p2⟩ := pq_bite_0 j hj
          have := u1 _ p2
          rw [p1, h148] at this
          exact this
        have y1 : ∀ j, j < 8 → h2 134 j = (fun k => h 148 (186 + 5 * k)) j := fun j hj => by
          obtain ⟨p1, p2⟩ := pq_bite_1 j hj
          have := u1 _ p2
          rw [p1, h148] at this
          exact this
        exact w2_x q d1 m1 8 (show (h 58 3).toInt ≤ ((8 : Nat) : Int) from (show R 0 8 (h 58 3) from inv_rng i.1 rfl).2) d2 y0 y1
      · have q : LI_crumb h := (rl.2.1 nz).2.2.2.2.1
        unfold LI_crumb at q
        unfold LS_crumb
        obtain ⟨d1, d2⟩ := t2 10 (by decide)
        have d1 : h1 26 3 = h 60 3 := d1
        have d2 : ∀ j, j < (h 60 3).toNatClampNeg * 1 → h1 27 j = h 61 j := d2
        rw [← s104 26 (by decide)] at d1
        rw [← s104 27 (by decide)] at d2
        have m1 : h2 104 54 = h 148 123 := by have := u1 123 (by decide); rw [h148] at this; exact this
        have y0 : ∀ j, j < 16 → h2 135 j = (fun k => h 148 (229 + 1 * k)) j := fun j hj => by
          obtain ⟨p1, p2⟩ := pq_crumb_0 j hj
          have := u1 _ p2
          rw [p1, h148] at this
          exact this
        exact w1_x q d1 m1 16 (show (h 60 3).toInt ≤ ((16 : Nat) : Int) from (show R 0 16 (h 60 3) from inv_rng i.1 rfl).2) d2 y0
      · have q : LI_loaf h := (rl.2.1 nz).2.2.2.2.2.1
        unfold LI_loaf at q
        unfold LS_loaf
        obtain ⟨d1, d2⟩ := t2 11 (by decide)
        have d1 : h1 28 3 = h 62 3 := d1
        have d2 : ∀ j, j < (h 62 3).toNatClampNeg * 2 → h1 29 j = h 63 j := d2
        rw [← s104 28 (by decide)] at d1
        rw [← s104 29 (by decide)] at d2
        have m1 : h2 104 57 = h 148 124 := by have := u1 124 (by decide); rw [h148] at this; exact this
        have y0 : ∀ j, j < 6 → h2 137 j = (fun k => h 148 (245 + 2 * k)) j := fun j hj => by
          obtain ⟨p1, p2⟩ := pq_loaf_0 j hj
          have := u1 _ p2
          rw [p1, h148] at this
          exact this
        have y1 : ∀ j, j < 6 → h2 138 j = (fun k => h 148 (246 + 2 * k)) j := fun j hj => by
          obtain ⟨p1, p2⟩ := pq_loaf_1 j hj
          have := u1 _ p2
          rw [p1, h148] at this
          exact this
        exact w2_x q d1 m1 6 (show (h 62 3).toInt ≤ ((6 : Nat) : Int) from (show R 0 6 (h 62 3) from inv_rng i.1 rfl).2) d2 y0 y1
      · have q : LI_heir h := (rl.2.1 nz).2.2.2.2.2.2.1
        unfold LI_heir at q
        unfold LS_heir
        obtain ⟨d1, d2⟩ := t2 12 (by decide)
        have d1 : h1 30 3 = h 64 3 := d1
        have d2 : ∀ j, j < (h 64 3).toNatClampNeg * 2 → h1 31 j = h 65 j := d2
        rw [← s104 30 (by decide)] at d1
        rw [← s104 31 (by decide)] at d2
        have m1 : h2 104 62 = h 148 125 := by have := u1 125 (by decide); rw [h148] at this; exact this
        have y0 : ∀ j, j < 12 → h2 141 j = (fun k => h 148 (130 + 4 * k)) j := fun j hj => by
          obtain ⟨p1, p2⟩ := pq_heir_0 j hj
          have := u1 _ p2
          rw [p1, h148] at this
          exact this
        exact wh_x q d1 m1 d2 y0
      · have q : LI_member h := (rl.2.1 nz).2.2.2.2.2.2.2
        unfold LI_member at q
        unfold LS_member
        obtain ⟨d1, d2⟩ := t2 13 (by decide)
        have d1 : h1 32 3 = h 66 3 := d1
        have d2 : ∀ j, j < (h 66 3).toNatClampNeg * 2 → h1 33 j = h 67 j := d2
        rw [← s104 32 (by decide)] at d1
        rw [← s104 33 (by decide)] at d2
        have m1 : h2 104 66 = h 148 126 := by have := u1 126 (by decide); rw [h148] at this; exact this
        have y0 : ∀ j, j < 8 → h2 144 j = (fun k => h 148 (187 + 5 * k)) j := fun j hj => by
          obtain ⟨p1, p2⟩ := pq_member_0 j hj
          have := u1 _ p2
          rw [p1, h148] at this
          exact this
        have y1 : ∀ j, j < 8 → h2 145 j = (fun k => h 148 (188 + 5 * k)) j := fun j hj => by
          obtain ⟨p1, p2⟩ := pq_member_1 j hj
          have := u1 _ p2
          rw [p1, h148] at this
          exact this
        exact w2_x q d1 m1 8 (show (h 66 3).toInt ≤ ((8 : Nat) : Int) from (show R 0 8 (h 66 3) from inv_rng i.1 rfl).2) d2 y0 y1
      · exact lia_fr (fun b q1 q2 => by rw [s104 b (by omega), t5 b (by omega) (by omega)]) (by rw [u2, h148]) (rl.2.1 nz)
      · rw [s104 0 (by decide), t6, g72]
        obtain ⟨k, k1, k2, ek⟩ := nat_of (show R 0 1 (h 0 13) from inv_rng i.1 rfl) (by decide)
        rw [ek] at cz ⊢
        have : k = 0 ∨ k = 1 := by omega
        rcases this with rfl | rfl
        · exact absurd rfl cz
        · rfl
      · rw [tpm, s104 85 (by decide), t5 85 (by decide) (by decide), x104 104 (by decide)]
        exact rl.2.2.2
  · rw [if_neg c] at e1 e2
    obtain ⟨g, eg, t2, -, -, t5, t6⟩ := xi_take 1 (by decide) h i.1
    rw [eg] at e1
    cases e1
    obtain ⟨g', eg', g72, u, -⟩ := kc_image 1 (Or.inr rfl) h1 (Or.inl rfl)
    rw [eg'] at e2
    cases e2
    obtain ⟨u1, u2⟩ := u rfl
    have uc : ∀ b, 104 < b → b ≠ 148 → h2 b = h b := fun b q1 q2 => by
      rw [← x104 b (by omega)]
      funext j
      exact u2 b j q2 (fun q => by omega)
    have u4 : ∀ j, j ≠ 73 → j ≠ 72 → j ≠ 71 → j ≠ 0 → h2 104 j = h 104 j := fun j j1 j2 j3 j4 => by
      rw [← x104 104 (by decide)]
      exact u2 104 j (by decide) (fun _ => ⟨j1, j2, j3, j4⟩)
    have ux : ∀ b, b ≠ 0 → b < 37 ∨ (67 < b ∧ b < 104) → h2 b = h b := fun b q1 q2 => by rw [s104 b (by omega), t5 b q1 (by omega)]
    have q := rl.1
    refine ⟨⟨⟨ls_fr_piece (ux 18 (by decide) (by decide)) (ux 19 (by decide) (by decide)) (u4 42 (by decide) (by decide) (by decide) (by decide)) (uc 127 (by decide) (by decide)) q.1, ls_fr_dough (ux 20 (by decide) (by decide)) (ux 21 (by decide) (by decide)) (u4 45 (by decide) (by decide) (by decide) (by decide)) (uc 129 (by decide) (by decide)) q.2.1, ls_fr_mark (ux 22 (by decide) (by decide)) (ux 23 (by decide) (by decide)) (u4 49 (by decide) (by decide) (by decide) (by decide)) (uc 132 (by decide) (by decide)) q.2.2.1, ls_fr_bite (ux 24 (by decide) (by decide)) (ux 25 (by decide) (by decide)) (u4 51 (by decide) (by decide) (by decide) (by decide)) (uc 133 (by decide) (by decide)) (uc 134 (by decide) (by decide)) q.2.2.2.1, ls_fr_crumb (ux 26 (by decide) (by decide)) (ux 27 (by decide) (by decide)) (u4 54 (by decide) (by decide) (by decide) (by decide)) (uc 135 (by decide) (by decide)) q.2.2.2.2.1, ls_fr_loaf (ux 28 (by decide) (by decide)) (ux 29 (by decide) (by decide)) (u4 57 (by decide) (by decide) (by decide) (by decide)) (uc 137 (by decide) (by decide)) (uc 138 (by decide) (by decide)) q.2.2.2.2.2.1, ls_fr_heir (ux 30 (by decide) (by decide)) (ux 31 (by decide) (by decide)) (u4 62 (by decide) (by decide) (by decide) (by decide)) (uc 141 (by decide) (by decide)) q.2.2.2.2.2.2.1, ls_fr_member (ux 32 (by decide) (by decide)) (ux 33 (by decide) (by decide)) (u4 66 (by decide) (by decide) (by decide) (by decide)) (uc 144 (by decide) (by decide)) (uc 145 (by decide) (by decide)) q.2.2.2.2.2.2.2⟩, fun _ => ⟨?_, ?_, ?_, ?_, ?_, ?_, ?_, ?_⟩, ?_, ?_⟩, rfl⟩
    · have q : LS_piece h := rl.1.1
      unfold LS_piece at q
      unfold LI_piece
      obtain ⟨d1, d2⟩ := t2 6 (by decide)
      have d1 : h1 52 3 = h 18 3 := d1
      have d2 : ∀ j, j < (h 18 3).toNatClampNeg * 1 → h1 53 j = h 19 j := d2
      rw [← s104 52 (by decide)] at d1
      rw [← s104 53 (by decide)] at d2
      have m1 : h2 148 119 = h 104 42 := by have := u1 119 (by decide); rw [this]; exact congrFun (x104 104 (by decide)) 42
      have y0 : ∀ j, j < 9 → (fun k => h2 148 (175 + 1 * k)) j = h 127 j := fun j hj => by
        obtain ⟨p1, p2⟩ := pq_piece_0 j hj
        have := u1 _ p2
        rw [p1, x104 127 (by decide)] at this
        exact this
      exact w1_x q d1 m1 9 (show (h 18 3).toInt ≤ ((9 : Nat) : Int) from (show R 0 9 (h 18 3) from inv_rng i.1 rfl).2) d2 y0
    · have q : LS_dough h := rl.1.2.1
      unfold LS_dough at q
      unfold LI_dough
      obtain ⟨d1, d2⟩ := t2 7 (by decide)
      have d1 : h1 54 3 = h 20 3 := d1
      have d2 : ∀ j, j < (h 20 3).toNatClampNeg * 1 → h1 55 j = h 21 j := d2
      rw [← s104 54 (by decide)] at d1
      rw [← s104 55 (by decide)] at d2
      have m1 : h2 148 120 = h 104 45 := by have := u1 120 (by decide); rw [this]; exact congrFun (x104 104 (by decide)) 45
      have y0 : ∀ j, j < 8 → (fun k => h2 148 (184 + 5 * k)) j = h 129 j := fun j hj => by
        obtain ⟨p1, p2⟩ := pq_dough_0 j hj
        have := u1 _ p2
        rw [p1, x104 129 (by decide)] at this
        exact this
      exact w1_x q d1 m1 8 (show (h 20 3).toInt ≤ ((8 : Nat) : Int) from (show R 0 8 (h 20 3) from inv_rng i.1 rfl).2) d2 y0
    · have q : LS_mark h := rl.1.2.2.1
      unfold LS_mark at q
      unfold LI_mark
      obtain ⟨d1, d2⟩ := t2 8 (by decide)
      have d1 : h1 56 3 = h 22 3 := d1
      have d2 : ∀ j, j < (h 22 3).toNatClampNeg * 1 → h1 57 j = h 23 j := d2
      rw [← s104 56 (by decide)] at d1
      rw [← s104 57 (by decide)] at d2
      have m1 : h2 148 121 = h 104 49 := by have := u1 121 (by decide); rw [this]; exact congrFun (x104 104 (by decide)) 49
      have y0 : ∀ j, j < 5 → (fun k => h2 148 (224 + 1 * k)) j = h 132 j := fun j hj => by
        obtain ⟨p1, p2⟩ := pq_mark_0 j hj
        have := u1 _ p2
        rw [p1, x104 132 (by decide)] at this
        exact this
      exact w1_x q d1 m1 5 (show (h 22 3).toInt ≤ ((5 : Nat) : Int) from (show R 0 5 (h 22 3) from inv_rng i.1 rfl).2) d2 y0
    · have q : LS_bite h := rl.1.2.2.2.1
      unfold LS_bite at q
      unfold LI_bite
      obtain ⟨d1, d2⟩ := t2 9 (by decide)
      have d1 : h1 58 3 = h 24 3 := d1
      have d2 : ∀ j, j < (h 24 3).toNatClampNeg * 2 → h1 59 j = h 25 j := d2
      rw [← s104 58 (by decide)] at d1
      rw [← s104 59 (by decide)] at d2
      have m1 : h2 148 122 = h 104 51 := by have := u1 122 (by decide); rw [this]; exact congrFun (x104 104 (by decide)) 51
      have y0 : ∀ j, j < 8 → (fun k => h2 148 (185 + 5 * k)) j = h 133 j := fun j hj => by
        obtain ⟨p1, p2⟩ := pq_bite_0 j hj
        have := u1 _ p2
        rw [p1, x104 133 (by decide)] at this
        exact this
      have y1 : ∀ j, j < 8 → (fun k => h2 148 (186 + 5 * k)) j = h 134 j := fun j hj => by
        obtain ⟨p1, p2⟩ := pq_bite_1 j hj
        have := u1 _ p2
        rw [p1, x104 134 (by decide)] at this
        exact this
      exact w2_x q d1 m1 8 (show (h 24 3).toInt ≤ ((8 : Nat) : Int) from (show R 0 8 (h 24 3) from inv_rng i.1 rfl).2) d2 y0 y1
    · have q : LS_crumb h := rl.1.2.2.2.2.1
      unfold LS_crumb at q
      unfold LI_crumb
      obtain ⟨d1, d2⟩ := t2 10 (by decide)
      have d1 : h1 60 3 = h 26 3 := d1
      have d2 : ∀ j, j < (h 26 3).toNatClampNeg * 1 → h1 61 j = h 27 j := d2
      rw [← s104 60 (by decide)] at d1
      rw [← s104 61 (by decide)] at d2
      have m1 : h2 148 123 = h 104 54 := by have := u1 123 (by decide); rw [this]; exact congrFun (x104 104 (by decide)) 54
      have y0 : ∀ j, j < 16 → (fun k => h2 148 (229 + 1 * k)) j = h 135 j := fun j hj => by
        obtain ⟨p1, p2⟩ := pq_crumb_0 j hj
        have := u1 _ p2
        rw [p1, x104 135 (by decide)] at this
        exact this
      exact w1_x q d1 m1 16 (show (h 26 3).toInt ≤ ((16 : Nat) : Int) from (show R 0 16 (h 26 3) from inv_rng i.1 rfl).2) d2 y0
    · have q : LS_loaf h := rl.1.2.2.2.2.2.1
      unfold LS_loaf at q
      unfold LI_loaf
      obtain ⟨d1, d2⟩ := t2 11 (by decide)
      have d1 : h1 62 3 = h 28 3 := d1
      have d2 : ∀ j, j < (h 28 3).toNatClampNeg * 2 → h1 63 j = h 29 j := d2
      rw [← s104 62 (by decide)] at d1
      rw [← s104 63 (by decide)] at d2
      have m1 : h2 148 124 = h 104 57 := by have := u1 124 (by decide); rw [this]; exact congrFun (x104 104 (by decide)) 57
      have y0 : ∀ j, j < 6 → (fun k => h2 148 (245 + 2 * k)) j = h 137 j := fun j hj => by
        obtain ⟨p1, p2⟩ := pq_loaf_0 j hj
        have := u1 _ p2
        rw [p1, x104 137 (by decide)] at this
        exact this
      have y1 : ∀ j, j < 6 → (fun k => h2 148 (246 + 2 * k)) j = h 138 j := fun j hj => by
        obtain ⟨p1, p2⟩ := pq_loaf_1 j hj
        have := u1 _ p2
        rw [p1, x104 138 (by decide)] at this
        exact this
      exact w2_x q d1 m1 6 (show (h 28 3).toInt ≤ ((6 : Nat) : Int) from (show R 0 6 (h 28 3) from inv_rng i.1 rfl).2) d2 y0 y1
    · have q : LS_heir h := rl.1.2.2.2.2.2.2.1
      unfold LS_heir at q
      unfold LI_heir
      obtain ⟨d1, d2⟩ := t2 12 (by decide)
      have d1 : h1 64 3 = h 30 3 := d1
      have d2 : ∀ j, j < (h 30 3).toNatClampNeg * 2 → h1 65 j = h 31 j := d2
      rw [← s104 64 (by decide)] at d1
      rw [← s104 65 (by decide)] at d2
      have m1 : h2 148 125 = h 104 62 := by have := u1 125 (by decide); rw [this]; exact congrFun (x104 104 (by decide)) 62
      have y0 : ∀ j, j < 12 → (fun k => h2 148 (130 + 4 * k)) j = h 141 j := fun j hj => by
        obtain ⟨p1, p2⟩ := pq_heir_0 j hj
        have := u1 _ p2
        rw [p1, x104 141 (by decide)] at this
        exact this
      exact wh_x q d1 m1 d2 y0
    · have q : LS_member h := rl.1.2.2.2.2.2.2.2
      unfold LS_member at q
      unfold LI_member
      obtain ⟨d1, d2⟩ := t2 13 (by decide)
      have d1 : h1 66 3 = h 32 3 := d1
      have d2 : ∀ j, j < (h 32 3).toNatClampNeg * 2 → h1 67 j = h 33 j := d2
      rw [← s104 66 (by decide)] at d1
      rw [← s104 67 (by decide)] at d2
      have m1 : h2 148 126 = h 104 66 := by have := u1 126 (by decide); rw [this]; exact congrFun (x104 104 (by decide)) 66
      have y0 : ∀ j, j < 8 → (fun k => h2 148 (187 + 5 * k)) j = h 144 j := fun j hj => by
        obtain ⟨p1, p2⟩ := pq_member_0 j hj
        have := u1 _ p2
        rw [p1, x104 144 (by decide)] at this
        exact this
      have y1 : ∀ j, j < 8 → (fun k => h2 148 (188 + 5 * k)) j = h 145 j := fun j hj => by
        obtain ⟨p1, p2⟩ := pq_member_1 j hj
        have := u1 _ p2
        rw [p1, x104 145 (by decide)] at this
        exact this
      exact w2_x q d1 m1 8 (show (h 32 3).toInt ≤ ((8 : Nat) : Int) from (show R 0 8 (h 32 3) from inv_rng i.1 rfl).2) d2 y0 y1
    · rw [s104 0 (by decide), t6, g72]
    · rw [tpm, s104 85 (by decide), t5 85 (by decide) (by decide), x104 104 (by decide)]
      exact rl.2.2.2
theorem rl_state (a1 : Int32) (h : PH) (i : IM h) (gi : GI h) (rl : RLA h) : ∃ rX h1 rm h2, mX_state a1 h = some (rX, h1) ∧ mm_state a1 h1 = some (rm, h2) ∧ CS h h1 h2 ∧ RLA h2 ∧ True := by
  obtain ⟨rX, h1, rm, h2, e1, e2, cs⟩ := cs_state a1 h i gi
  exact ⟨rX, h1, rm, h2, e1, e2, cs, rla_cs (fpX_state a1 h e1) (fkm_state a1 h1 e2) (by decide : ∀ b, b ∈ KC → b ∉ FPdX_state 0) (by decide : ∀ b, b ∈ KM → b ∉ FKdm_state 0) (by decide : ∀ b, b ∈ FPdX_state 0 → b < 104) (by decide : ∀ b, b ∈ FKdm_state 0 → 104 ≤ b) rl, trivial⟩
theorem rl_house (a1 a2 a3 : Int32) (h : PH) (i : IM h) (gi : GI h) (rl : RLA h) : ∃ rX h1 rm h2, mX_house a1 a2 a3 h = some (rX, h1) ∧ mm_house a1 a2 a3 h1 = some (rm, h2) ∧ CS h h1 h2 ∧ RLA h2 ∧ True := by
  obtain ⟨rX, h1, rm, h2, e1, e2, cs⟩ := cs_house a1 a2 a3 h i gi
  exact ⟨rX, h1, rm, h2, e1, e2, cs, rla_cs (fpX_house a1 a2 a3 h e1) (fkm_house a1 a2 a3 h1 e2) (by decide : ∀ b, b ∈ KC → b ∉ FPdX_house 0 0 0) (by decide : ∀ b, b ∈ KM → b ∉ FKdm_house 0 0 0) (by decide : ∀ b, b ∈ FPdX_house 0 0 0 → b < 104) (by decide : ∀ b, b ∈ FKdm_house 0 0 0 → 104 ≤ b) rl, trivial⟩
theorem rl_set (a1 a2 a3 : Int32) (h : PH) (i : IM h) (gi : GI h) (rl : RLA h) : ∃ rX h1 rm h2, mX_set a1 a2 a3 h = some (rX, h1) ∧ mm_set a1 a2 a3 h1 = some (rm, h2) ∧ CS h h1 h2 ∧ RLA h2 ∧ True := by
  obtain ⟨rX, h1, rm, h2, e1, e2, cs⟩ := cs_set a1 a2 a3 h i gi
  exact ⟨rX, h1, rm, h2, e1, e2, cs, rla_cs (fpX_set a1 a2 a3 h e1) (fkm_set a1 a2 a3 h1 e2) (by decide : ∀ b, b ∈ KC → b ∉ FPdX_set 0 0 0) (by decide : ∀ b, b ∈ KM → b ∉ FKdm_set 0 0 0) (by decide : ∀ b, b ∈ FPdX_set 0 0 0 → b < 104) (by decide : ∀ b, b ∈ FKdm_set 0 0 0 → 104 ≤ b) rl, trivial⟩
theorem rl_act (a1 a2 a3 : Int32) (h : PH) (i : IM h) (gi : GI h) (rl : RLA h) : ∃ rX h1 rm h2, mX_act a1 a2 a3 h = some (rX, h1) ∧ mm_act a1 a2 a3 h1 = some (rm, h2) ∧ CS h h1 h2 ∧ RLA h2 ∧ True := by
  obtain ⟨rX, h1, rm, h2, e1, e2, cs⟩ := cs_act a1 a2 a3 h i gi
  exact ⟨rX, h1, rm, h2, e1, e2, cs, rla_cs (fpX_act a1 a2 a3 h e1) (fkm_act a1 a2 a3 h1 e2) (by decide : ∀ b, b ∈ KC → b ∉ FPdX_act 0 0 0) (by decide : ∀ b, b ∈ KM → b ∉ FKdm_act 0 0 0) (by decide : ∀ b, b ∈ FPdX_act 0 0 0 → b < 104) (by decide : ∀ b, b ∈ FKdm_act 0 0 0 → 104 ≤ b) rl, trivial⟩
theorem rl_quarters (a1 : Int32) (h : PH) (i : IM h) (gi : GI h) (rl : RLA h) : ∃ rX h1 rm h2, mX_quarters a1 h = some (rX, h1) ∧ mm_quarters a1 h1 = some (rm, h2) ∧ CS h h1 h2 ∧ RLA h2 ∧ True := by
  obtain ⟨rX, h1, rm, h2, e1, e2, cs⟩ := cs_quarters a1 h i gi
  exact ⟨rX, h1, rm, h2, e1, e2, cs, rla_cs (fpX_quarters a1 h e1) (fkm_quarters a1 h1 e2) (by decide : ∀ b, b ∈ KC → b ∉ FPdX_quarters 0) (by decide : ∀ b, b ∈ KM → b ∉ FKdm_quarters 0) (by decide : ∀ b, b ∈ FPdX_quarters 0 → b < 104) (by decide : ∀ b, b ∈ FKdm_quarters 0 → 104 ≤ b) rl, trivial⟩
theorem rl_fault (a1 : Int32) (h : PH) (i : IM h) (gi : GI h) (rl : RLA h) : ∃ rX rm h2, mX_fault a1 h = some rX ∧ mm_fault a1 h = some (rm, h2) ∧ CS h h h2 ∧ RLA h2 ∧ True := by
  obtain ⟨rX, rm, h2, e1, e2, cs⟩ := cs_fault a1 h i gi
  exact ⟨rX, rm, h2, e1, e2, cs, rla_cs (S := []) (fun _ _ => rfl) (fkm_fault a1 h e2) (by decide) (by decide : ∀ b, b ∈ KM → b ∉ FKdm_fault 0) (by decide) (by decide : ∀ b, b ∈ FKdm_fault 0 → 104 ≤ b) rl, trivial⟩
theorem rl_of (a1 a2 : Int32) (h : PH) (i : IM h) (gi : GI h) (rl : RLA h) : ∃ rX h1 rm h2, mX_of a1 a2 h = some (rX, h1) ∧ mm_of a1 a2 h1 = some (rm, h2) ∧ CS h h1 h2 ∧ RLA h2 ∧ True := by
  obtain ⟨rX, h1, rm, h2, e1, e2, cs⟩ := cs_of a1 a2 h i gi
  exact ⟨rX, h1, rm, h2, e1, e2, cs, rla_cs (fpX_of a1 a2 h e1) (fkm_of a1 a2 h1 e2) (by decide : ∀ b, b ∈ KC → b ∉ FPdX_of 0 0) (by decide : ∀ b, b ∈ KM → b ∉ FKdm_of 0 0) (by decide : ∀ b, b ∈ FPdX_of 0 0 → b < 104) (by decide : ∀ b, b ∈ FKdm_of 0 0 → 104 ≤ b) rl, trivial⟩
theorem rl_book (a1 a2 : Int32) (h : PH) (i : IM h) (gi : GI h) (rl : RLA h) : ∃ rX rm h2, mX_book a1 a2 h = some rX ∧ mm_book a1 a2 h = some (rm, h2) ∧ CS h h h2 ∧ RLA h2 ∧ True := by
  obtain ⟨rX, rm, h2, e1, e2, cs⟩ := cs_book a1 a2 h i gi
  exact ⟨rX, rm, h2, e1, e2, cs, rla_cs (S := []) (fun _ _ => rfl) (fkm_book a1 a2 h e2) (by decide) (by decide : ∀ b, b ∈ KM → b ∉ FKdm_book 0 0) (by decide) (by decide : ∀ b, b ∈ FKdm_book 0 0 → 104 ≤ b) rl, trivial⟩
theorem rl_goes (a1 a2 : Int32) (h : PH) (i : IM h) (gi : GI h) (rl : RLA h) : ∃ rX h1 rm h2, mX_goes a1 a2 h = some (rX, h1) ∧ mm_goes a1 a2 h1 = some (rm, h2) ∧ CS h h1 h2 ∧ RLA h2 ∧ True := by
  obtain ⟨rX, h1, rm, h2, e1, e2, cs⟩ := cs_goes a1 a2 h i gi
  exact ⟨rX, h1, rm, h2, e1, e2, cs, rla_cs (fpX_goes a1 a2 h e1) (fkm_goes a1 a2 h1 e2) (by decide : ∀ b, b ∈ KC → b ∉ FPdX_goes 0 0) (by decide : ∀ b, b ∈ KM → b ∉ FKdm_goes 0 0) (by decide : ∀ b, b ∈ FPdX_goes 0 0 → b < 104) (by decide : ∀ b, b ∈ FKdm_goes 0 0 → 104 ≤ b) rl, trivial⟩
theorem rl_stands (a1 : Int32) (h : PH) (i : IM h) (gi : GI h) (rl : RLA h) : ∃ rX h1 rm h2, mX_stands a1 h = some (rX, h1) ∧ mm_stands a1 h1 = some (rm, h2) ∧ CS h h1 h2 ∧ RLA h2 ∧ True := by
  obtain ⟨rX, h1, rm, h2, e1, e2, cs⟩ := cs_stands a1 h i gi
  exact ⟨rX, h1, rm, h2, e1, e2, cs, rla_cs (fpX_stands a1 h e1) (fkm_stands a1 h1 e2) (by decide : ∀ b, b ∈ KC → b ∉ FPdX_stands 0) (by decide : ∀ b, b ∈ KM → b ∉ FKdm_stands 0) (by decide : ∀ b, b ∈ FPdX_stands 0 → b < 104) (by decide : ∀ b, b ∈ FKdm_stands 0 → 104 ≤ b) rl, trivial⟩
theorem rl_hears (a1 a2 : Int32) (h : PH) (i : IM h) (gi : GI h) (rl : RLA h) : ∃ rX h1 rm h2, mX_hears a1 a2 h = some (rX, h1) ∧ mm_hears a1 a2 h1 = some (rm, h2) ∧ CS h h1 h2 ∧ RLA h2 ∧ True := by
  obtain ⟨rX, h1, rm, h2, e1, e2, cs⟩ := cs_hears a1 a2 h i gi
  exact ⟨rX, h1, rm, h2, e1, e2, cs, rla_cs (fpX_hears a1 a2 h e1) (fkm_hears a1 a2 h1 e2) (by decide : ∀ b, b ∈ KC → b ∉ FPdX_hears 0 0) (by decide : ∀ b, b ∈ KM → b ∉ FKdm_hears 0 0) (by decide : ∀ b, b ∈ FPdX_hears 0 0 → b < 104) (by decide : ∀ b, b ∈ FKdm_hears 0 0 → 104 ≤ b) rl, trivial⟩
theorem rl_heard (a1 a2 : Int32) (h : PH) (i : IM h) (gi : GI h) (rl : RLA h) : ∃ rX h1 rm h2, mX_heard a1 a2 h = some (rX, h1) ∧ mm_heard a1 a2 h1 = some (rm, h2) ∧ CS h h1 h2 ∧ RLA h2 ∧ True := by
  obtain ⟨rX, h1, rm, h2, e1, e2, cs⟩ := cs_heard a1 a2 h i gi
  exact ⟨rX, h1, rm, h2, e1, e2, cs, rla_cs (fpX_heard a1 a2 h e1) (fkm_heard a1 a2 h1 e2) (by decide : ∀ b, b ∈ KC → b ∉ FPdX_heard 0 0) (by decide : ∀ b, b ∈ KM → b ∉ FKdm_heard 0 0) (by decide : ∀ b, b ∈ FPdX_heard 0 0 → b < 104) (by decide : ∀ b, b ∈ FKdm_heard 0 0 → 104 ≤ b) rl, trivial⟩
theorem rl_ants (a1 a2 : Int32) (h : PH) (i : IM h) (gi : GI h) (rl : RLA h) : ∃ rX h1 rm h2, mX_ants a1 a2 h = some (rX, h1) ∧ mm_ants a1 a2 h1 = some (rm, h2) ∧ CS h h1 h2 ∧ RLA h2 ∧ True := by
  obtain ⟨rX, h1, rm, h2, e1, e2, cs⟩ := cs_ants a1 a2 h i gi
  exact ⟨rX, h1, rm, h2, e1, e2, cs, rla_cs (fpX_ants a1 a2 h e1) (fkm_ants a1 a2 h1 e2) (by decide : ∀ b, b ∈ KC → b ∉ FPdX_ants 0 0) (by decide : ∀ b, b ∈ KM → b ∉ FKdm_ants 0 0) (by decide : ∀ b, b ∈ FPdX_ants 0 0 → b < 104) (by decide : ∀ b, b ∈ FKdm_ants 0 0 → 104 ≤ b) rl, trivial⟩
theorem rl_plate (a1 a2 : Int32) (h : PH) (i : IM h) (gi : GI h) (rl : RLA h) : ∃ rX rm h2, mX_plate a1 a2 h = some rX ∧ mm_plate a1 a2 h = some (rm, h2) ∧ CS h h h2 ∧ RLA h2 ∧ True := by
  obtain ⟨rX, rm, h2, e1, e2, cs⟩ := cs_plate a1 a2 h i gi
  exact ⟨rX, rm, h2, e1, e2, cs, rla_cs (S := []) (fun _ _ => rfl) (fkm_plate a1 a2 h e2) (by decide) (by decide : ∀ b, b ∈ KM → b ∉ FKdm_plate 0 0) (by decide) (by decide : ∀ b, b ∈ FKdm_plate 0 0 → 104 ≤ b) rl, trivial⟩
theorem rl_pans (a1 a2 : Int32) (h : PH) (i : IM h) (gi : GI h) (rl : RLA h) : ∃ rX h1 rm h2, mX_pans a1 a2 h = some (rX, h1) ∧ mm_pans a1 a2 h1 = some (rm, h2) ∧ CS h h1 h2 ∧ RLA h2 ∧ True := by
  obtain ⟨rX, h1, rm, h2, e1, e2, cs⟩ := cs_pans a1 a2 h i gi
  exact ⟨rX, h1, rm, h2, e1, e2, cs, rla_cs (fpX_pans a1 a2 h e1) (fkm_pans a1 a2 h1 e2) (by decide : ∀ b, b ∈ KC → b ∉ FPdX_pans 0 0) (by decide : ∀ b, b ∈ KM → b ∉ FKdm_pans 0 0) (by decide : ∀ b, b ∈ FPdX_pans 0 0 → b < 104) (by decide : ∀ b, b ∈ FKdm_pans 0 0 → 104 ≤ b) rl, trivial⟩
theorem rl_mortgage (a1 a2 a3 a4 : Int32) (h : PH) (i : IM h) (gi : GI h) (rl : RLA h) : ∃ rX rm h2, mX_mortgage a1 a2 a3 a4 h = some rX ∧ mm_mortgage a1 a2 a3 a4 h = some (rm, h2) ∧ CS h h h2 ∧ RLA h2 ∧ True := by
  obtain ⟨rX, rm, h2, e1, e2, cs⟩ := cs_mortgage a1 a2 a3 a4 h i gi
  exact ⟨rX, rm, h2, e1, e2, cs, rla_cs (S := []) (fun _ _ => rfl) (fkm_mortgage a1 a2 a3 a4 h e2) (by decide) (by decide : ∀ b, b ∈ KM → b ∉ FKdm_mortgage 0 0 0 0) (by decide) (by decide : ∀ b, b ∈ FKdm_mortgage 0 0 0 0 → 104 ≤ b) rl, trivial⟩
theorem rl_measures (a1 : Int32) (h : PH) (i : IM h) (gi : GI h) (rl : RLA h) : ∃ rX rm h2, mX_measures a1 h = some rX ∧ mm_measures a1 h = some (rm, h2) ∧ CS h h h2 ∧ RLA h2 ∧ True := by
  obtain ⟨rX, rm, h2, e1, e2, cs⟩ := cs_measures a1 h i gi
  exact ⟨rX, rm, h2, e1, e2, cs, rla_cs (S := []) (fun _ _ => rfl) (fkm_measures a1 h e2) (by decide) (by decide : ∀ b, b ∈ KM → b ∉ FKdm_measures 0) (by decide) (by decide : ∀ b, b ∈ FKdm_measures 0 → 104 ≤ b) rl, trivial⟩
theorem rl_whose (a1 a2 : Int32) (h : PH) (i : IM h) (gi : GI h) (rl : RLA h) : ∃ rX rm h2, mX_whose a1 a2 h = some rX ∧ mm_whose a1 a2 h = some (rm, h2) ∧ CS h h h2 ∧ RLA h2 ∧ True := by
  obtain ⟨rX, rm, h2, e1, e2, cs⟩ := cs_whose a1 a2 h i gi
  exact ⟨rX, rm, h2, e1, e2, cs, rla_cs (S := []) (fun _ _ => rfl) (fkm_whose a1 a2 h e2) (by decide) (by decide : ∀ b, b ∈ KM → b ∉ FKdm_whose 0 0) (by decide) (by decide : ∀ b, b ∈ FKdm_whose 0 0 → 104 ≤ b) rl, trivial⟩
theorem rl_crumbs (a1 : Int32) (h : PH) (i : IM h) (gi : GI h) (rl : RLA h) : ∃ rX h1 rm h2, mX_crumbs a1 h = some (rX, h1) ∧ mm_crumbs a1 h1 = some (rm, h2) ∧ CS h h1 h2 ∧ RLA h2 ∧ True := by
  obtain ⟨rX, h1, rm, h2, e1, e2, cs⟩ := cs_crumbs a1 h i gi
  exact ⟨rX, h1, rm, h2, e1, e2, cs, rla_cs (fpX_crumbs a1 h e1) (fkm_crumbs a1 h1 e2) (by decide : ∀ b, b ∈ KC → b ∉ FPdX_crumbs 0) (by decide : ∀ b, b ∈ KM → b ∉ FKdm_crumbs 0) (by decide : ∀ b, b ∈ FPdX_crumbs 0 → b < 104) (by decide : ∀ b, b ∈ FKdm_crumbs 0 → 104 ≤ b) rl, trivial⟩
theorem rl_ovens (a1 : Int32) (h : PH) (i : IM h) (gi : GI h) (rl : RLA h) : ∃ rX rm h2, mX_ovens a1 h = some rX ∧ mm_ovens a1 h = some (rm, h2) ∧ CS h h h2 ∧ RLA h2 ∧ True := by
  obtain ⟨rX, rm, h2, e1, e2, cs⟩ := cs_ovens a1 h i gi
  exact ⟨rX, rm, h2, e1, e2, cs, rla_cs (S := []) (fun _ _ => rfl) (fkm_ovens a1 h e2) (by decide) (by decide : ∀ b, b ∈ KM → b ∉ FKdm_ovens 0) (by decide) (by decide : ∀ b, b ∈ FKdm_ovens 0 → 104 ≤ b) rl, trivial⟩
theorem rl_alone (a1 : Int32) (h : PH) (i : IM h) (gi : GI h) (rl : RLA h) : ∃ rX h1 rm h2, mX_alone a1 h = some (rX, h1) ∧ mm_alone a1 h1 = some (rm, h2) ∧ CS h h1 h2 ∧ RLA h2 ∧ True := by
  obtain ⟨rX, h1, rm, h2, e1, e2, cs⟩ := cs_alone a1 h i gi
  exact ⟨rX, h1, rm, h2, e1, e2, cs, rla_cs (fpX_alone a1 h e1) (fkm_alone a1 h1 e2) (by decide : ∀ b, b ∈ KC → b ∉ FPdX_alone 0) (by decide : ∀ b, b ∈ KM → b ∉ FKdm_alone 0) (by decide : ∀ b, b ∈ FPdX_alone 0 → b < 104) (by decide : ∀ b, b ∈ FKdm_alone 0 → 104 ≤ b) rl, trivial⟩
theorem rl_line (a1 a2 : Int32) (h : PH) (i : IM h) (gi : GI h) (rl : RLA h) : ∃ rX rm h2, mX_line a1 a2 h = some rX ∧ mm_line a1 a2 h = some (rm, h2) ∧ CS h h h2 ∧ RLA h2 ∧ True := by
  obtain ⟨rX, rm, h2, e1, e2, cs⟩ := cs_line a1 a2 h i gi
  exact ⟨rX, rm, h2, e1, e2, cs, rla_cs (S := []) (fun _ _ => rfl) (fkm_line a1 a2 h e2) (by decide) (by decide : ∀ b, b ∈ KM → b ∉ FKdm_line 0 0) (by decide) (by decide : ∀ b, b ∈ FKdm_line 0 0 → 104 ≤ b) rl, trivial⟩
theorem rl_window (a1 : Int32) (h : PH) (i : IM h) (gi : GI h) (rl : RLA h) : ∃ rX rm h2, mX_window a1 h = some rX ∧ mm_window a1 h = some (rm, h2) ∧ CS h h h2 ∧ RLA h2 ∧ True := by
  obtain ⟨rX, rm, h2, e1, e2, cs⟩ := cs_window a1 h i gi
  exact ⟨rX, rm, h2, e1, e2, cs, rla_cs (S := []) (fun _ _ => rfl) (fkm_window a1 h e2) (by decide) (by decide : ∀ b, b ∈ KM → b ∉ FKdm_window 0) (by decide) (by decide : ∀ b, b ∈ FKdm_window 0 → 104 ≤ b) rl, trivial⟩
theorem rl_council (a1 : Int32) (h : PH) (i : IM h) (gi : GI h) (rl : RLA h) : ∃ rX rm h2, mX_council a1 h = some rX ∧ mm_council a1 h = some (rm, h2) ∧ CS h h h2 ∧ RLA h2 ∧ True := by
  obtain ⟨rX, rm, h2, e1, e2, cs⟩ := cs_council a1 h i gi
  exact ⟨rX, rm, h2, e1, e2, cs, rla_cs (S := []) (fun _ _ => rfl) (fkm_council a1 h e2) (by decide) (by decide : ∀ b, b ∈ KM → b ∉ FKdm_council 0) (by decide) (by decide : ∀ b, b ∈ FKdm_council 0 → 104 ≤ b) rl, trivial⟩
theorem rl_game (a1 a2 : Int32) (h : PH) (i : IM h) (gi : GI h) (rl : RLA h) : ∃ rX h1 rm h2, mX_game a1 a2 h = some (rX, h1) ∧ mm_game a1 a2 h1 = some (rm, h2) ∧ CS h h1 h2 ∧ RLA h2 ∧ True := by
  obtain ⟨rX, h1, rm, h2, e1, e2, cs⟩ := cs_game a1 a2 h i gi
  exact ⟨rX, h1, rm, h2, e1, e2, cs, rla_cs (fpX_game a1 a2 h e1) (fkm_game a1 a2 h1 e2) (by decide : ∀ b, b ∈ KC → b ∉ FPdX_game 0 0) (by decide : ∀ b, b ∈ KM → b ∉ FKdm_game 0 0) (by decide : ∀ b, b ∈ FPdX_game 0 0 → b < 104) (by decide : ∀ b, b ∈ FKdm_game 0 0 → 104 ≤ b) rl, trivial⟩
theorem rl_undo (h : PH) (i : IM h) (gi : GI h) (rl : RLA h) : ∃ rX h1 rm h2, mX_undo h = some (rX, h1) ∧ mm_undo h1 = some (rm, h2) ∧ CS h h1 h2 ∧ RLA h2 ∧ True := by
  obtain ⟨rX, h1, rm, h2, e1, e2, cs⟩ := cs_undo h i gi
  exact ⟨rX, h1, rm, h2, e1, e2, cs, rla_cs (fpX_undo h e1) (fkm_undo h1 e2) (by decide : ∀ b, b ∈ KC → b ∉ FPdX_undo) (by decide : ∀ b, b ∈ KM → b ∉ FKdm_undo) (by decide : ∀ b, b ∈ FPdX_undo → b < 104) (by decide : ∀ b, b ∈ FKdm_undo → 104 ≤ b) rl, trivial⟩
theorem rl_look (a1 : Int32) (h : PH) (i : IM h) (gi : GI h) (rl : RLA h) : ∃ rX rm h2, mX_look a1 h = some rX ∧ mm_look a1 h = some (rm, h2) ∧ CS h h h2 ∧ RLA h2 ∧ True := by
  obtain ⟨rX, rm, h2, e1, e2, cs⟩ := cs_look a1 h i gi
  exact ⟨rX, rm, h2, e1, e2, cs, rla_cs (S := []) (fun _ _ => rfl) (fkm_look a1 h e2) (by decide) (by decide : ∀ b, b ∈ KM → b ∉ FKdm_look 0) (by decide) (by decide : ∀ b, b ∈ FKdm_look 0 → 104 ≤ b) rl, trivial⟩
end
section
/-! WHOSE and LINE answer alike -/
theorem at_row {a m w : Nat} (hs : sp a = spR (m : Int) (w : Int)) (hl : ln (a + 1) = m * w) (hm : m ≤ 400) (hw : w ≤ 5) {h : PH} (i : Inv h) {n k c : Nat} (en : h a 3 = nI n) (hn : n ≤ m) (hk : k < n) (hc : c < w) : mR_at a (nI k) (nI c) h = some (h (a + 1) (k * w + c)) := by
  obtain ⟨r0, r1⟩ := rows_n hs hm hw i
  have big : k * w + c < m * w := by
    have h1 : (k + 1) * w ≤ m * w := Nat.mul_le_mul_right w (by omega)
    rw [Nat.add_mul, Nat.one_mul] at h1
    omega
  have mw : m * w ≤ 2000 := by
    have := Nat.mul_le_mul hm hw
    omega
  have nz : ∀ q : Nat, q < 2 ^ 31 → ¬ nI q < 0 := fun q hq => by
    rw [Int32.lt_iff_toInt_lt, nI_toInt hq]
    simp only [show (0 : Int32).toInt = 0 from rfl]
    omega
  unfold mR_at
  rw [if_neg (nz k (by omega)), en, if_neg (nI_ge hk (by omega)), if_neg (nz c (by omega)), r1, if_pos (nI_lt hc (by omega)), nI_mul, nI_add, ck_nI (by omega) (by omega), show ix (nI (k * w + c)) = k * w + c from nI_clamp (by omega)]
theorem bits_sub (x t : Int32) : (x &&& t) = t ↔ (t &&& (x ^^^ (-1))) = 0 := by
  have e : (-1 : Int32).toBitVec = BitVec.allOnes 32 := by decide
  have z : (0 : Int32).toBitVec = 0#32 := by decide
  rw [← Int32.toBitVec_inj, ← Int32.toBitVec_inj, Int32.toBitVec_and, Int32.toBitVec_and, Int32.toBitVec_xor, e, z]
  generalize x.toBitVec = a
  generalize t.toBitVec = b
  constructor
  · intro h
    apply BitVec.eq_of_getLsbD_eq
    intro i hi
    have := congrArg (fun v => BitVec.getLsbD v i) h
    simp only [BitVec.getLsbD_and, BitVec.getLsbD_xor, BitVec.getLsbD_allOnes, BitVec.getLsbD_zero, hi, decide_true] at this ⊢
    cases ha : a.getLsbD i <;> cases hb : b.getLsbD i <;> simp_all
  · intro h
    apply BitVec.eq_of_getLsbD_eq
    intro i hi
    have := congrArg (fun v => BitVec.getLsbD v i) h
    simp only [BitVec.getLsbD_and, BitVec.getLsbD_xor, BitVec.getLsbD_allOnes, BitVec.getLsbD_zero, hi, decide_true] at this ⊢
    cases ha : a.getLsbD i <;> cases hb : b.getLsbD i <;> simp_all
theorem wh_sim (p1 p2 : Int32) (h g : PH) (i : Inv h) (n : Nat) (hn : n ≤ 8) (en : h 24 3 = nI n) (em : g 104 51 = nI n) (hy : ∀ k, k < n → g 133 k = h 25 (2 * k) ∧ g 134 k = h 25 (2 * k + 1)) : ∀ (f k : Nat) (s : Int32), n < f + k → k ≤ n → ∃ r, mK_biters_L5 24 p1 p2 h f s (nI k) = some r ∧ mm_whose_L35 p1 p2 g f s (nI k) = some (r, g) := by
  intro f
  induction f with
  | zero => intro k s h1 h2; omega
  | succ f ih =>
    intro k s h1 h2
    rw [mK_biters_L5, mm_whose_L35, en, em]
    by_cases e : k = n
    · subst e
      rw [if_pos (nI_le (Nat.le_refl _) (by omega)), if_pos (nI_le (Nat.le_refl _) (by omega))]
      exact ⟨s, rfl, rfl⟩
    · have hk : k < n := by omega
      obtain ⟨y1, y2⟩ := hy k hk
      have a0 : mR_at 24 (nI k) 0 h = some (h 25 (2 * k)) := by
        have := at_row (a := 24) (m := 8) (w := 2) rfl rfl (by decide) (by decide) i (c := 0) en hn hk (by decide)
        rw [nI_0, show k * 2 + 0 = 2 * k by omega] at this
        exact this
      have a1 : mR_at 24 (nI k) 1 h = some (h 25 (2 * k + 1)) := by
        have := at_row (a := 24) (m := 8) (w := 2) rfl rfl (by decide) (by decide) i (c := 1) en hn hk (by decide)
        rw [show nI 1 = (1 : Int32) from rfl, show k * 2 + 1 = 2 * k + 1 by omega] at this
        exact this
      rw [if_neg (nI_ge hk (by omega)), if_neg (nI_ge hk (by omega)), a0, bd_e, ck_nI (by omega) (by decide), show ix (nI k) = k from nI_clamp (by omega), y1]
      by_cases c1 : (h 25 (2 * k) &&& p1) = p1
      · rw [if_pos c1, if_pos ((bits_sub _ _).mp c1), a1, bd_e, ck_nI (by omega) (by decide), y2, nI_1]
        by_cases c2 : h 25 (2 * k + 1) < p2
        · rw [if_pos c2, if_pos c2]
          exact ih (k + 1) s (by omega) (by omega)
        · rw [if_neg c2, if_neg c2, lt_e, lt_e]
          exact ih (k + 1) _ (by omega) (by omega)
      · rw [if_neg c1, if_neg (fun q => c1 ((bits_sub _ _).mpr q)), nI_1]
        exact ih (k + 1) s (by omega) (by omega)
theorem ag_whose (a1 a2 : Int32) (h : PH) (i : IM h) (rl : RLA h) {rX rm : Int32} {h2 : PH} (e1 : mX_whose a1 a2 h = some rX) (e2 : mm_whose a1 a2 h = some (rm, h2)) : rX = rm := by
  unfold mX_whose at e1
  unfold mm_whose at e2
  rw [lt_e] at e2
  have z01 : ¬ (1 : Int32) = 0 := by decide
  by_cases f1 : 0 ≤ a1 ∧ a1 ≤ 255
  · rw [within_y f1, bd_e, if_neg z01] at e1
    rw [isIn_y f1, bd_e, if_neg z01] at e2
    by_cases f2 : 0 ≤ a2 ∧ a2 ≤ 9
    · rw [within_y f2, bd_e, if_neg z01] at e1
      rw [isIn_y f2, bd_e, if_neg z01] at e2
      obtain ⟨n, n1, n2, en⟩ := nat_of (show R 0 8 (h 24 3) from inv_rng i.1 rfl) (by decide)
      have own : LS_bite h := rl.1.2.2.2.1
      unfold LS_bite at own
      obtain ⟨r, q1, q2⟩ := wh_sim a1 a2 h (up h 104 0 0) i.1 n (by omega) en (by rw [up_oj (by decide), ← own.1]; exact en) (fun k hk => by
        obtain ⟨⟨w1, -⟩, w2, -⟩ := own.2 k (by rw [en, nI_toInt n2]; omega)
        rw [up_oc (by decide), up_oc (by decide)]
        exact ⟨w1.symm, w2.symm⟩) FU 0 0 (by unfold FU; omega) (by omega)
      rw [nI_0] at q1 q2
      have q1 : mK_biters 24 a1 a2 h = some r := q1
      rw [q1, bd_e] at e1
      rw [q2] at e2
      cases e1
      cases e2
      rfl
    · rw [within_n f2, bd_e, if_pos rfl] at e1
      rw [isIn_n f2, bd_e, if_pos rfl] at e2
      cases e1
      cases e2
      rfl
  · rw [within_n f1, bd_e, if_pos rfl] at e1
    rw [isIn_n f1, bd_e, if_pos rfl] at e2
    cases e1
    cases e2
    rfl
theorem lfh_st (X : Nat → Int32) (w : Int32) (k : Nat) (hz : ¬ lfh X w k = 0) : ∀ d, lfh X w (k + d) = lfh X w k := by
  intro d
  induction d with
  | zero => rfl
  | succ d ih =>
    rw [show k + (d + 1) = (k + d) + 1 by omega, lfh, ih, if_neg hz]
theorem lfh_rng {X : Nat → Int32} {n : Nat} (hr : ∀ k, k < n → R 0 11 (X (2 * k + 1))) (w : Int32) : ∀ k, k ≤ n → R 0 12 (lfh X w k) := by
  intro k
  induction k with
  | zero => intro _; exact (show R 0 12 (0 : Int32) from ⟨by decide, by decide⟩)
  | succ k ih =>
    intro hk
    rw [lfh]
    split
    · split
      · exact r_w (r_add (hr k (by omega)) (show R 1 1 (1 : Int32) from ⟨by decide, by decide⟩) (e := 1) (f := 12) (by decide)) (by decide)
      · exact ⟨by decide, by decide⟩
    · exact ih (by omega)
theorem lb_go (h : PH) (i : Inv h) (n : Nat) (hn : n ≤ 12) (en : h 30 3 = nI n) (hr : ∀ k, k < n → R 0 11 (h 31 (2 * k + 1))) (p : Int32) : ∀ (f k : Nat), n < f + k → k ≤ n → lfh (h 31) p k = 0 → mK_leftBy_L2 30 p h (fun (x2 : Int32) => bd (mR_at 30 x2 1 h) fun r3 => some r3) f (nI k) = some (if lfh (h 31) p n = 0 then -1 else lfh (h 31) p n - 1) := by
  intro f
  induction f with
  | zero => intro k h1 h2; omega
  | succ f ih =>
    intro k h1 h2 hz
    rw [mK_leftBy_L2, en]
    by_cases e : k = n
    · subst e
      rw [if_pos (nI_le (Nat.le_refl _) (by omega)), if_pos hz]
    · have hk : k < n := by omega
      have a0 : mR_at 30 (nI k) 0 h = some (h 31 (2 * k)) := by
        have := at_row (a := 30) (m := 12) (w := 2) rfl rfl (by decide) (by decide) i (c := 0) en hn hk (by decide)
        rw [nI_0, show k * 2 + 0 = 2 * k by omega] at this
        exact this
      have a1 : mR_at 30 (nI k) 1 h = some (h 31 (2 * k + 1)) := by
        have := at_row (a := 30) (m := 12) (w := 2) rfl rfl (by decide) (by decide) i (c := 1) en hn hk (by decide)
        rw [show nI 1 = (1 : Int32) from rfl, show k * 2 + 1 = 2 * k + 1 by omega] at this
        exact this
      rw [if_neg (nI_ge hk (by omega)), a0, bd_e]
      by_cases c : h 31 (2 * k) = p
      · rw [if_pos c, a1, bd_e]
        have s1 : lfh (h 31) p (k + 1) = h 31 (2 * k + 1) + 1 := by rw [lfh, if_pos hz, if_pos c]
        have r1 : R 1 12 (h 31 (2 * k + 1) + 1) := r_add (hr k hk) (show R 1 1 (1 : Int32) from ⟨by decide, by decide⟩) (by decide)
        have nz : ¬ h 31 (2 * k + 1) + 1 = 0 := fun q => by
          rw [q] at r1
          exact absurd r1.1 (by decide)
        have s2 : lfh (h 31) p n = h 31 (2 * k + 1) + 1 := by
          have := lfh_st (h 31) p (k + 1) (by rw [s1]; exact nz) (n - (k + 1))
          rw [show k + 1 + (n - (k + 1)) = n by omega, s1] at this
          exact this
        rw [s2, if_neg nz, Int32.add_sub_cancel]
      · rw [if_neg c, nI_1]
        exact ih (k + 1) (by omega) (by omega) (by rw [lfh, if_pos hz, if_neg c])
theorem ln_sim (p2 x4 : Int32) (hx : (p2 = 0 ∧ x4 = 1) ∨ (¬ p2 = 0 ∧ x4 = 0)) (h g : PH) (i : Inv h) (n : Nat) (hn : n ≤ 12) (en : h 30 3 = nI n) (hr : ∀ k, k < n → R 0 11 (h 31 (2 * k + 1))) (hy : ∀ w, w < 12 → g 141 w = lfh (h 31) (nI w) n) : ∀ (f k w : Nat), 12 < f + k → k ≤ 12 → w < 12 → ∃ r, mK_lineOf_L5 30 x4 h (fun (x2 : Int32) (x3 : Int32) => if x4 = 0 then some x2 else some x3) f (nI w) (nI k) = some r ∧ mm_line_L33 p2 g (fun (x5 : Int32) (x6 : Int32) => if p2 = 0 then some (x6, g) else some (x5, g)) f (nI w) (nI k) = some (r, g) := by
  intro f
  induction f with
  | zero => intro k w h1 h2; omega
  | succ f ih =>
    intro k w h1 h2 hw
    rw [mK_lineOf_L5, mm_line_L33]
    by_cases e : k = 12
    · subst e
      rw [if_pos (by decide), if_pos (by decide)]
      exact ⟨-1, rfl, rfl⟩
    · have n12 : ¬ (12 : Int32) ≤ nI k := nI_ge (b := 12) (by omega) (by omega)
      have lb : mK_leftBy 30 (nI w) h = some (if lfh (h 31) (nI w) n = 0 then -1 else lfh (h 31) (nI w) n - 1) := by
        have := lb_go h i n hn en hr (nI w) FU 0 (by unfold FU; omega) (by omega) rfl
        rw [nI_0] at this
        exact this
      rw [if_neg n12, if_neg n12, lb, bd_e, ck_nI (by omega) (by decide), show ix (nI w) = w from nI_clamp (by omega), hy w hw]
      have rg := lfh_rng hr (nI w) n (Nat.le_refl _)
      by_cases c : lfh (h 31) (nI w) n = 0
      · rw [if_pos c, if_pos rfl, if_pos c]
        rcases hx with ⟨c1, c2⟩ | ⟨c1, c2⟩
        · rw [if_pos c1, if_neg (by rw [c2]; decide)]
          exact ⟨_, rfl, rfl⟩
        · rw [if_neg c1, if_pos c2]
          exact ⟨_, rfl, rfl⟩
      · rw [if_neg c, if_neg c, ck_nI (by omega) (by decide), lt_e]
        have rg1 : R 1 12 (lfh (h 31) (nI w) n) := r_ne_lo rg (show R 0 0 (0 : Int32) from ⟨by decide, by decide⟩) c (by decide)
        have rg2 : R 0 11 (lfh (h 31) (nI w) n - 1) := r_sub rg1 (show R 1 1 (1 : Int32) from ⟨by decide, by decide⟩) (by decide)
        obtain ⟨w', q1, q2, q3⟩ := nat_of rg2 (by decide)
        have nm : ¬ lfh (h 31) (nI w) n - 1 = -1 := fun q => by
          rw [q] at rg2
          exact absurd rg2.1 (by decide)
        rw [if_neg nm, q3, nI_1]
        exact ih (k + 1) w' (by omega) (by omega) (by omega)
theorem ag_line (a1 a2 : Int32) (h : PH) (i : IM h) (rl : RLA h) {rX rm : Int32} {h2 : PH} (e1 : mX_line a1 a2 h = some rX) (e2 : mm_line a1 a2 h = some (rm, h2)) : rX = rm := by
  unfold mX_line at e1
  unfold mm_line at e2
  rw [lt_e] at e2
  have z01 : ¬ (1 : Int32) = 0 := by decide
  by_cases f1 : 0 ≤ a1 ∧ a1 ≤ 11
  · rw [within_y f1, bd_e, if_neg z01] at e1
    rw [isIn_y f1, bd_e, if_neg z01] at e2
    by_cases f2 : 0 ≤ a2 ∧ a2 ≤ 1
    · rw [within_y f2, bd_e, if_neg z01, jn1_e] at e1
      rw [isIn_y f2, bd_e, if_neg z01] at e2
      obtain ⟨n, n1, n2, en⟩ := nat_of (show R 0 12 (h 30 3) from inv_rng i.1 rfl) (by decide)
      have own : LS_heir h := rl.1.2.2.2.2.2.2.1
      unfold LS_heir at own
      obtain ⟨w, w1, w2, ew⟩ := nat_of (rng_of (x := 0) (y := 11) rfl rfl f1) (by decide)
      have go : ∀ x4 : Int32, (a2 = 0 ∧ x4 = 1) ∨ (¬ a2 = 0 ∧ x4 = 0) → ∃ r, mK_lineOf 30 a1 x4 h = some r ∧ mm_line_L33 a2 (up h 104 0 0) (fun (x5 : Int32) (x6 : Int32) => if a2 = 0 then some (x6, up h 104 0 0) else some (x5, up h 104 0 0)) FU a1 0 = some (r, up h 104 0 0) := fun x4 hx => by
        obtain ⟨r, q1, q2⟩ := ln_sim a2 x4 hx h (up h 104 0 0) i.1 n (by omega) en (fun k hk => (own.2.1 k (by rw [en, nI_toInt n2]; omega)).2) (fun w hw => by
          rw [up_oc (by decide), own.2.2 w hw, en, show (nI n).toNatClampNeg = n from nI_clamp n2]) FU 0 w (by unfold FU; omega) (by omega) (by omega)
        rw [nI_0, ← ew] at q1 q2
        exact ⟨r, q1, q2⟩
      by_cases c : a2 = 0
      · rw [if_pos c] at e1
        dsimp only at e1
        obtain ⟨r, q1, q2⟩ := go 1 (Or.inl ⟨c, rfl⟩)
        rw [q1, bd_e] at e1
        rw [q2] at e2
        cases e1
        cases e2
        rfl
      · rw [if_neg c] at e1
        dsimp only at e1
        obtain ⟨r, q1, q2⟩ := go 0 (Or.inr ⟨c, rfl⟩)
        rw [q1, bd_e] at e1
        rw [q2] at e2
        cases e1
        cases e2
        rfl
    · rw [within_n f2, bd_e, if_pos rfl] at e1
      rw [isIn_n f2, bd_e, if_pos rfl] at e2
      cases e1
      cases e2
      rfl
  · rw [within_n f1, bd_e, if_pos rfl] at e1
    rw [isIn_n f1, bd_e, if_pos rfl] at e2
    cases e1
    cases e2
    rfl
end
section
/-! PLATE answers alike -/
theorem imin_c (x y : Int32) : imin x y = imin y x := by
  unfold imin
  by_cases c1 : y < x
  · rw [if_pos c1, if_neg (Int32.not_lt.mpr (Int32.le_of_lt c1))]
  · by_cases c2 : x < y
    · rw [if_neg c1, if_pos c2]
    · rw [if_neg c1, if_neg c2]
      exact Int32.le_antisymm (Int32.not_lt.mp c1) (Int32.not_lt.mp c2)
theorem greater_eq (x y : Int32) (h : PH) : mm_greater x y h = some (imax x y) := by
  unfold mm_greater imax
  by_cases c1 : x < y
  · rw [if_pos (Int32.le_of_lt c1), if_pos c1]
  · by_cases c2 : x ≤ y
    · rw [if_pos c2, if_neg c1, Int32.le_antisymm c2 (Int32.not_lt.mp c1)]
    · rw [if_neg c2, if_neg c1]
def ps (X : Nat → Int32) (a : Nat) : Nat → Int32
  | 0 => 0
  | d + 1 => ps X a d + X (a + d)
theorem ps_r {X : Nat → Int32} {n : Nat} (hn : n ≤ 9) (hX : ∀ k, k < n → R 0 99 (X k)) (a : Nat) : ∀ d, a + d ≤ n → R 0 (99 * (d : Int)) (ps X a d) := by
  intro d
  induction d with
  | zero => intro _; exact (show R 0 (99 * ((0 : Nat) : Int)) (0 : Int32) from ⟨by decide, by decide⟩)
  | succ d ih =>
    intro hd
    have r1 := ih (by omega)
    have r2 := hX (a + d) (by omega)
    have e := i_add r1 r2 (by omega)
    obtain ⟨a1, a2⟩ := r1
    obtain ⟨b1, b2⟩ := r2
    rw [ps]
    exact ⟨by omega, by omega⟩
def aF (X : Nat → Int32) (g : Nat → Int32) (f : Nat) : Nat → Int32
  | 0 => -1
  | d + 1 => imax (aF X g f d) (imin (ps X f (d + 1)) (g (f + d + 1)))
def dpl (X : Nat → Int32) (n : Nat) : Nat → Nat → Int32
  | 0, f => if f = n then 100000000 else -1
  | k + 1, f => aF X (dpl X n k) f (n - f)
theorem imax_lo {x y : Int32} (h : -1 ≤ x.toInt) : -1 ≤ (imax x y).toInt := by
  unfold imax
  split
  · rename_i c
    rw [Int32.lt_iff_toInt_lt] at c
    omega
  · exact h
theorem aF_lo (X g : Nat → Int32) (f : Nat) : ∀ d, -1 ≤ (aF X g f d).toInt := by
  intro d
  induction d with
  | zero => exact (by decide : (-1 : Int) ≤ (-1 : Int32).toInt)
  | succ d ih => rw [aF]; exact imax_lo ih
theorem imin_m1 {x : Int32} (h : 0 ≤ x.toInt) : imin x (-1) = -1 := by
  unfold imin
  rw [if_pos (by rw [Int32.lt_iff_toInt_lt]; simp only [show (-1 : Int32).toInt = -1 from rfl]; omega)]
theorem imax_m1 {x : Int32} (h : -1 ≤ x.toInt) : imax x (-1) = x := by
  unfold imax
  rw [if_neg (by rw [Int32.lt_iff_toInt_lt]; simp only [show (-1 : Int32).toInt = -1 from rfl]; omega)]
theorem aF_tail {X g : Nat → Int32} {f n : Nat} (hp : ∀ d, f + d ≤ n → 0 ≤ (ps X f d).toInt) (d0 : Nat) : ∀ e, f + d0 + e ≤ n → (∀ j, j < e → g (f + (d0 + j) + 1) = -1) → aF X g f (d0 + e) = aF X g f d0 := by
  intro e
  induction e with
  | zero => intro _ _; rfl
  | succ e ih =>
    intro he hg
    rw [show d0 + (e + 1) = (d0 + e) + 1 by omega, aF, hg e (by omega), imin_m1 (hp _ (by omega)), imax_m1 (aF_lo X g f _)]
    exact ih (by omega) (fun j hj => hg j (by omega))
theorem dpl_inf {X : Nat → Int32} {n : Nat} (hp : ∀ f d, f + d ≤ n → 0 ≤ (ps X f d).toInt) : ∀ k f, f ≤ n → n < f + (k + 1) → dpl X n (k + 1) f = -1 := by
  intro k
  induction k with
  | zero =>
    intro f h1 h2
    have : n - f = 0 := by omega
    rw [dpl, this, aF]
  | succ k ih =>
    intro f h1 h2
    rw [dpl]
    have := aF_tail (X := X) (g := dpl X n (k + 1)) (f := f) (n := n) (fun d hd => hp f d hd) 0 (n - f) (by omega) (fun j hj => ih _ (by omega) (by omega))
    rw [Nat.zero_add] at this
    rw [this, aF]
theorem dpl_1 {X : Nat → Int32} {n : Nat} (hp : ∀ f d, f + d ≤ n → 0 ≤ (ps X f d).toInt ∧ (ps X f d).toInt ≤ 1000) (f : Nat) (hf : f < n) : dpl X n 1 f = ps X f (n - f) := by
  rw [dpl]
  obtain ⟨m, hm⟩ : ∃ m, n - f = m + 1 := ⟨n - f - 1, by omega⟩
  rw [hm, aF]
  have t := aF_tail (X := X) (g := dpl X n 0) (f := f) (n := n) (fun d hd => (hp f d hd).1) 0 m (by omega) (fun j hj => by rw [dpl, if_neg (by omega)])
  rw [Nat.zero_add] at t
  rw [t, aF, dpl, if_pos (by omega)]
  obtain ⟨p1, p2⟩ := hp f (m + 1) (by omega)
  have e1 : imin (ps X f (m + 1)) 100000000 = ps X f (m + 1) := by
    unfold imin
    rw [if_neg (by rw [Int32.lt_iff_toInt_lt]; simp only [show (100000000 : Int32).toInt = 100000000 from rfl]; omega)]
  rw [e1]
  unfold imax
  rw [if_pos (by rw [Int32.lt_iff_toInt_lt]; simp only [show (-1 : Int32).toInt = -1 from rfl]; omega)]
/-! the class's recursion -/
theorem at18 {h : PH} (i : Inv h) {n k : Nat} (hn : n ≤ 9) (en : h 18 3 = nI n) (hk : k < n) : mR_at 18 (nI k) 0 h = some (h 19 k) := by
  have := at_row (a := 18) (m := 9) (w := 1) rfl rfl (by decide) (by decide) i (c := 0) en hn hk (by decide)
  rw [nI_0, show k * 1 + 0 = k by omega] at this
  exact this
theorem ls10 (h : PH) (i : Inv h) (n : Nat) (hn : n ≤ 9) (en : h 18 3 = nI n) (f0 : Nat → Int32 → Int32 → PH → Option Int32) (f : Nat) : ∀ (u d : Nat), n < u + (f + d) → f + d ≤ n → mK_leastShare_L10 18 f0 h u (ps (h 19) f d) (nI (f + d)) = some (ps (h 19) f (n - f)) := by
  intro u
  induction u with
  | zero => intro d h1 h2; omega
  | succ u ih =>
    intro d h1 h2
    rw [mK_leastShare_L10, en]
    by_cases e : f + d = n
    · rw [e, if_pos (nI_le (Nat.le_refl _) (by omega)), show n - f = d by omega]
    · rw [if_neg (nI_ge (by omega) (by omega)), at18 i hn en (by omega), bd_e, lt_e, nI_1]
      have := ih (d + 1) (by omega) (by omega)
      rw [ps] at this
      exact this
theorem ls45 (h : PH) (i : Inv h) (n : Nat) (hn : n ≤ 9) (en : h 18 3 = nI n) (f0 : Nat → Int32 → Int32 → PH → Option Int32) (k f : Nat) (hk : k + 2 ≤ n) (G : Nat → Int32) (hG : ∀ v, f < v → v ≤ n - (k + 1) → f0 18 (nI v) (nI (k + 1)) h = some (G v)) : ∀ (u d : Nat), n < u + (f + d) → f + d ≤ n - (k + 1) ∨ d = 0 → f + d ≤ n → mK_leastShare_L45 18 (nI (k + 2)) f0 h u (ps (h 19) f d) (aF (h 19) G f d) (nI (f + d + 1)) = some (aF (h 19) G f (d + (n - (k + 1) - (f + d)))) := by
  intro u
  induction u with
  | zero => intro d h1 h2 h3; omega
  | succ u ih =>
    intro d h1 h2 h3
    have e1 : nI (k + 2) - 1 = nI (k + 1) := nI_pred (k + 1)
    rw [mK_leastShare_L45, en, e1, nI_sub (by omega)]
    by_cases e : n - (k + 1) ≤ f + d
    · rw [if_pos (nI_lt (by omega) (by omega)), show n - (k + 1) - (f + d) = 0 by omega, Nat.add_zero]
    · rw [if_neg (by rw [Int32.lt_iff_toInt_lt, nI_toInt (by omega), nI_toInt (by omega)]; omega), nI_pred, at18 i hn en (by omega), bd_e, lt_e, hG (f + d + 1) (by omega) (by omega), bd_e, lt_e, nI_1]
      have := ih (d + 1) (by omega) (Or.inl (by omega)) (by omega)
      rw [ps, aF] at this
      rw [show f + (d + 1) + 1 = f + d + 1 + 1 by omega, show d + 1 + (n - (k + 1) - (f + (d + 1))) = d + (n - (k + 1) - (f + d)) by omega] at this
      exact this
theorem ls_all (h : PH) (i : Inv h) (n : Nat) (hn : n ≤ 9) (en : h 18 3 = nI n) (hX : ∀ k, k < n → R 0 99 (h 19 k)) : ∀ (k f u : Nat), k + 1 ≤ n → f ≤ n → (1 ≤ k ∨ f < n) → k + 1 ≤ u → mK_leastShare u 18 (nI f) (nI (k + 1)) h = some (dpl (h 19) n (k + 1) f) := by
  have hp : ∀ f d, f + d ≤ n → 0 ≤ (ps (h 19) f d).toInt ∧ (ps (h 19) f d).toInt ≤ 1000 := fun f d hd => by
    have := ps_r hn hX f d hd
    obtain ⟨p1, p2⟩ := this
    exact ⟨p1, by omega⟩
  intro k
  induction k with
  | zero =>
    intro f u h1 h2 h3 h4
    obtain ⟨v, rfl⟩ : ∃ v, u = v + 1 := ⟨u - 1, by omega⟩
    show mK_leastShare_F (mK_leastShare v) 18 (nI f) (nI (0 + 1)) h = _
    unfold mK_leastShare_F
    rw [if_neg (by decide)]
    have := ls10 h i n hn en (mK_leastShare v) f FU 0 (by unfold FU; omega) (by omega)
    rw [Nat.add_zero] at this
    rw [dpl_1 hp f (by omega)]
    exact this
  | succ k ih =>
    intro f u h1 h2 h3 h4
    obtain ⟨v, rfl⟩ : ∃ v, u = v + 1 := ⟨u - 1, by omega⟩
    show mK_leastShare_F (mK_leastShare v) 18 (nI f) (nI (k + 1 + 1)) h = _
    unfold mK_leastShare_F
    rw [if_pos (show (1 : Int32) < nI (k + 1 + 1) from nI_lt (a := 1) (by omega) (by omega)), lt_e, nI_1]
    have := ls45 h i n hn en (mK_leastShare v) k f (by omega) (dpl (h 19) n (k + 1)) (fun w w1 w2 => ih w v (by omega) (by omega) (by omega) (by omega)) FU 0 (by unfold FU; omega) (Or.inr rfl) (by omega)
    rw [Nat.add_zero, Nat.zero_add] at this
    refine Eq.trans this ?_
    congr 1
    rw [show dpl (h 19) n (k + 1 + 1) f = aF (h 19) (dpl (h 19) n (k + 1)) f (n - f) from rfl]
    have t := aF_tail (X := h 19) (g := dpl (h 19) n (k + 1)) (f := f) (n := n) (fun d hd => (hp f d hd).1) (n - (k + 1) - f) (n - f - (n - (k + 1) - f)) (by omega) (fun j hj => dpl_inf (fun f d hd => (hp f d hd).1) k _ (by omega) (by omega))
    rw [show n - (k + 1) - f + (n - f - (n - (k + 1) - f)) = n - f by omega] at t
    exact t.symm
theorem ss19 (h : PH) (i : Inv h) (n : Nat) (hn : n ≤ 9) (en : h 18 3 = nI n) (hX : ∀ k, k < n → R 0 99 (h 19 k)) (k : Nat) (hk : k + 2 ≤ n) (p2 : Int32) (g : PH) (eg : g 104 42 = nI n) (hY : ∀ j, j < n → g 127 j = h 19 j) (hD : ∀ f, f ≤ n → g 128 (10 * (k + 1) + f) = dpl (h 19) n (k + 1) f) (po : ∀ d, d ≤ n → mm_piecesOver 0 (nI d) g = some (ps (h 19) 0 d)) : ∀ (u d : Nat), n < u + d → d + 1 ≤ n → ∃ r, mK_secondShare_L19 18 (nI (k + 2)) p2 h u (ps (h 19) 0 d) (nI (d + 1)) = some r ∧ mm_plate_L53 (nI (k + 2)) p2 g u (nI (d + 1)) = some (r, g) := by
  intro u
  induction u with
  | zero => intro d h1 h2; omega
  | succ u ih =>
    intro d h1 h2
    have e1 : nI (k + 2) - 1 = nI (k + 1) := nI_pred (k + 1)
    rw [mK_secondShare_L19, mm_plate_L53, en, eg]
    by_cases e : d + 1 = n
    · rw [e, if_pos (nI_le (Nat.le_refl _) (by omega)), if_pos (nI_le (Nat.le_refl _) (by omega))]
      exact ⟨-1, rfl, rfl⟩
    · have l1 : ¬ nI n ≤ nI (d + 1) := nI_ge (by omega) (by omega)
      have l2 : ¬ nI (k + 2) ≤ 1 := nI_ge (a := 1) (by omega) (by omega)
      have e10 : (10 : Int32) * nI (k + 1) + nI (d + 1) = nI (10 * (k + 1) + (d + 1)) := by rw [show (10 : Int32) * nI (k + 1) = nI (10 * (k + 1)) from nI_mul 10 (k + 1)]; exact nI_add _ _
      rw [if_neg l1, if_neg l1, if_neg l2, nI_pred, at18 i hn en (by omega), bd_e, lt_e, e1, ls_all h i n hn en hX k (d + 1) 30 (by omega) (by omega) (by omega) (by omega), bd_e, po (d + 1) (by omega), bd_e, e10, ck_nI (by omega) (by decide), show ix (nI (10 * (k + 1) + (d + 1))) = 10 * (k + 1) + (d + 1) from nI_clamp (by omega), hD (d + 1) (by omega), lesser_eq, bd_e, imin_c (dpl (h 19) n (k + 1) (d + 1)), show ps (h 19) 0 (d + 1) = ps (h 19) 0 d + h 19 (0 + d) from rfl, Nat.zero_add]
      by_cases c : imin (ps (h 19) 0 d + h 19 d) (dpl (h 19) n (k + 1) (d + 1)) = p2
      · rw [if_pos c, if_pos c]
        exact ⟨_, rfl, rfl⟩
      · rw [if_neg c, if_neg c, nI_1]
        have := ih (d + 1) (by omega) (by omega)
        rw [show ps (h 19) 0 (d + 1) = ps (h 19) 0 d + h 19 (0 + d) from rfl, Nat.zero_add] at this
        exact this
/-! the model's table -/
theorem po_go (X : Nat → Int32) (n : Nat) (hn : n ≤ 9) (g : PH) (hY : ∀ j, j < n → g 127 j = X j) (a b : Nat) (hab : a ≤ b) (hb : b ≤ n) : ∀ (u d : Nat), b < u + (a + d) → a + d ≤ b → mm_piecesOver_L5 (nI b) g u (ps X a d) (nI (a + d)) = some (ps X a (b - a)) := by
  intro u
  induction u with
  | zero => intro d h1 h2; omega
  | succ u ih =>
    intro d h1 h2
    rw [mm_piecesOver_L5]
    by_cases e : a + d = b
    · rw [e, if_pos (nI_le (Nat.le_refl _) (by omega)), show b - a = d by omega]
    · rw [if_neg (nI_ge (by omega) (by omega)), ck_nI (by omega) (by decide), lt_e, show ix (nI (a + d)) = a + d from nI_clamp (by omega), hY (a + d) (by omega), nI_1]
      have := ih (d + 1) (by omega) (by omega)
      rw [ps] at this
      exact this
theorem po_at (X : Nat → Int32) (n : Nat) (hn : n ≤ 9) (g : PH) (hY : ∀ j, j < n → g 127 j = X j) (a b : Nat) (hab : a ≤ b) (hb : b ≤ n) : mm_piecesOver (nI a) (nI b) g = some (ps X a (b - a)) := by
  have := po_go X n hn g hY a b hab hb FU 0 (by unfold FU; omega) (by omega)
  rw [Nat.add_zero] at this
  exact this
theorem fs43 (X : Nat → Int32) (n : Nat) (hn : n ≤ 9) (g : PH) (eg : g 104 42 = nI n) (hY : ∀ j, j < n → g 127 j = X j) (k f : Nat) (hk : k < 9) (hf : f ≤ n) (hD : ∀ f, f ≤ n → g 128 (10 * k + f) = dpl X n k f) (k0 : Int32 → Option PH) : ∀ (u d : Nat), n < u + (f + d) → f + d ≤ n → mm_findsShares_L43 (nI (k + 1)) (nI f) g k0 u (aF X (dpl X n k) f d) (nI (f + d + 1)) = k0 (aF X (dpl X n k) f (n - f)) := by
  intro u
  induction u with
  | zero => intro d h1 h2; omega
  | succ u ih =>
    intro d h1 h2
    rw [mm_findsShares_L43, eg]
    by_cases e : f + d = n
    · rw [if_pos (nI_lt (by omega) (by omega)), show n - f = d by omega]
    · have e10 : (10 : Int32) * nI k + nI (f + d + 1) = nI (10 * k + (f + d + 1)) := by rw [show (10 : Int32) * nI k = nI (10 * k) from nI_mul 10 k]; exact nI_add _ _
      rw [if_neg (by rw [Int32.lt_iff_toInt_lt, nI_toInt (by omega), nI_toInt (by omega)]; omega), if_neg (show ¬ nI (k + 1) ≤ 0 from nI_ge (a := 0) (by omega) (by omega)), po_at X n hn g hY f (f + d + 1) (by omega) (by omega), bd_e, nI_pred, e10, ck_nI (by omega) (by decide), show ix (nI (10 * k + (f + d + 1))) = 10 * k + (f + d + 1) from nI_clamp (by omega), hD (f + d + 1) (by omega), lesser_eq, bd_e, greater_eq, bd_e, nI_1, imin_c (dpl X n k (f + d + 1)), show f + d + 1 - f = d + 1 by omega]
      have := ih (d + 1) (by omega) (by omega)
      rw [aF] at this
      rw [show f + (d + 1) + 1 = f + d + 1 + 1 by omega] at this
      exact this
def DT (X : Nat → Int32) (n k f : Nat) (g : PH) : Prop := g 104 42 = nI n ∧ (∀ j, j < n → g 127 j = X j) ∧ (∀ k' f', k' < k → f' ≤ n → g 128 (10 * k' + f') = dpl X n k' f') ∧ ∀ f', f' < f → g 128 (10 * k + f') = dpl X n k f'
theorem fs10 (X : Nat → Int32) (n : Nat) (hn : n ≤ 9) (k : Nat) (hk : k < 10) (k0 : PH → Option PH) {Q : PH → Prop} (hk0 : ∀ g, DT X n (k + 1) 0 g → Sf (k0 g) Q) : ∀ (u f : Nat) (g : PH), n + 1 < u + f → f ≤ n + 1 → DT X n k f g → Sf (mm_findsShares_L10 (nI k) k0 u (nI f) g) Q := by
  intro u
  induction u with
  | zero => intro f g h1 h2; omega
  | succ u ih =>
    intro f g h1 h2 st
    obtain ⟨s1, s2, s3, s4⟩ := st
    rw [mm_findsShares_L10, s1]
    by_cases e : f = n + 1
    · rw [if_pos (nI_lt (by omega) (by omega))]
      refine hk0 g ⟨s1, s2, fun k' f' h1 h2 => ?_, fun f' h1 => by omega⟩
      by_cases ek : k' = k
      · subst ek; exact s4 f' (by omega)
      · exact s3 k' f' (by omega) h2
    · rw [if_neg (by rw [Int32.lt_iff_toInt_lt, nI_toInt (by omega), nI_toInt (by omega)]; omega), jn1_e]
      have e10 : (10 : Int32) * nI k + nI f = nI (10 * k + f) := by rw [show (10 : Int32) * nI k = nI (10 * k) from nI_mul 10 k]; exact nI_add _ _
      have put : Sf (ck ((10 : Int32) * nI k + nI f) 100 <| lt (up g 128 (ix ((10 : Int32) * nI k + nI f)) (dpl X n k f)) fun h8 => mm_findsShares_L10 (nI k) k0 u (nI f + 1) h8) Q := by
        rw [e10, ck_nI (by omega) (by decide), lt_e, nI_1, show ix (nI (10 * k + f)) = 10 * k + f from nI_clamp (by omega)]
        refine ih (f + 1) _ (by omega) (by omega) ⟨by rw [up_oc (by decide)]; exact s1, fun j hj => by rw [up_oc (by decide)]; exact s2 j hj, fun k' f' h1 h2 => ?_, fun f' h1 => ?_⟩
        · rw [up_oj (by omega)]; exact s3 k' f' h1 h2
        · by_cases ef : f' = f
          · subst ef; exact up_same
          · rw [up_oj (by omega)]; exact s4 f' (by omega)
      cases k with
      | zero =>
        have base : ∀ x : Int32, x = dpl X n 0 f → Sf (lt (nI f + 1) fun x3 => mm_findsShares_L43 (nI 0) (nI f) g (fun (x7 : Int32) => ck ((10 * nI 0) + nI f) 100 <| lt (up g 128 (ix ((10 * nI 0) + nI f)) x7) fun h8 => mm_findsShares_L10 (nI 0) k0 u (nI f + 1) h8) FU x x3) Q := fun x hx => by
          rw [lt_e, show FU = 99999 + 1 from rfl, mm_findsShares_L43, if_pos (show nI 0 ≤ 0 by decide), ite_self, hx]
          exact put
        rw [if_pos (show nI 0 = 0 from rfl)]
        by_cases ef : f = n
        · rw [if_pos (by rw [ef])]
          exact base _ (by rw [dpl, if_pos ef])
        · rw [if_neg (fun q => ef ((nI_eq (by omega) (by omega)).mp q))]
          exact base _ (by rw [dpl, if_neg ef])
      | succ k =>
        rw [if_neg (fun q => by
          have : (nI (k + 1)).toInt = 0 := by rw [q]; rfl
          rw [nI_toInt (by omega)] at this
          omega)]
        dsimp only
        rw [lt_e, nI_1]
        have := fs43 X n hn g s1 s2 k f (by omega) (by omega) (fun f' hf => s3 k f' (by omega) hf) (fun (x7 : Int32) => ck ((10 * nI (k + 1)) + nI f) 100 <| lt (up g 128 (ix ((10 * nI (k + 1)) + nI f)) x7) fun h8 => mm_findsShares_L10 (nI (k + 1)) k0 u (nI (f + 1)) h8) FU 0 (by unfold FU; omega) (by omega)
        rw [Nat.add_zero, show aF X (dpl X n k) f 0 = -1 from rfl] at this
        rw [this]
        rw [nI_1] at put
        exact put
theorem fs2 (X : Nat → Int32) (n : Nat) (hn : n ≤ 9) : ∀ (u k : Nat) (g : PH), 10 < u + k → k ≤ 10 → DT X n k 0 g → Sf (mm_findsShares_L2 u (nI k) g) (fun g' => DT X n 10 0 g') := by
  intro u
  induction u with
  | zero => intro k g h1 h2; omega
  | succ u ih =>
    intro k g h1 h2 st
    rw [mm_findsShares_L2]
    by_cases e : k = 10
    · subst e
      rw [if_pos (by decide)]
      exact s_some st
    · rw [if_neg (show ¬ (10 : Int32) ≤ nI k from nI_ge (b := 10) (by omega) (by omega))]
      have := fs10 X n hn k (by omega) (fun (h9 : PH) => mm_findsShares_L2 u (nI k + 1) h9) (Q := fun g' => DT X n 10 0 g') (fun g' st' => by
        rw [nI_1]
        exact ih (k + 1) g' (by omega) (by omega) st') FU 0 g (by unfold FU; omega) (by omega) st
      rw [nI_0] at this
      exact this
theorem ag_plate (a1 a2 : Int32) (h : PH) (i : IM h) (rl : RLA h) {rX rm : Int32} {h2 : PH} (e1 : mX_plate a1 a2 h = some rX) (e2 : mm_plate a1 a2 h = some (rm, h2)) : rX = rm := by
  have z01 : ¬ (1 : Int32) = 0 := by decide
  obtain ⟨n, n1, n2, en⟩ := nat_of (show R 0 9 (h 18 3) from inv_rng i.1 rfl) (by decide)
  have own : LS_piece h := rl.1.1
  unfold LS_piece at own
  have hX : ∀ k, k < n → R 0 99 (h 19 k) := fun k hk => (own.2 k (by rw [en, nI_toInt n2]; omega)).2
  have em : up h 104 0 0 104 42 = nI n := by rw [up_oj (by decide), ← own.1]; exact en
  unfold mX_plate at e1
  unfold mm_plate at e2
  rw [en] at e1
  rw [lt_e, em] at e2
  by_cases f1 : 1 ≤ a1 ∧ a1 ≤ nI n
  · rw [within_y f1, bd_e, if_neg z01] at e1
    rw [isIn_y f1, bd_e, if_neg z01] at e2
    by_cases f2 : 0 ≤ a2 ∧ a2 ≤ 1
    · rw [within_y f2, bd_e, if_neg z01] at e1
      rw [isIn_y f2, bd_e, if_neg z01] at e2
      obtain ⟨k, k1, k2, ek⟩ := nat_of (rng_of (x := 1) (y := (n : Int)) rfl (nI_toInt n2) f1) (by decide)
      have kp : 1 ≤ k := by
        have := f1.1
        rw [ek, Int32.le_iff_toInt_le, nI_toInt k2] at this
        simp only [show (1 : Int32).toInt = 1 from rfl] at this
        omega
      obtain ⟨m, rfl⟩ : ∃ m, k = m + 1 := ⟨k - 1, by omega⟩
      have key := fs2 (h 19) n (by omega) FU 0 (up h 104 0 0) (by unfold FU; omega) (by omega) ⟨em, fun j hj => by rw [up_oc (by decide)]; exact (own.2 j (by rw [en, nI_toInt n2]; omega)).1.symm, fun k' f' h1 => by omega, fun f' h1 => by omega⟩
      rw [nI_0] at key
      obtain ⟨g, eg, s1, s2, s3, -⟩ := key
      have eg : mm_findsShares (up h 104 0 0) = some g := eg
      have e10 : (10 : Int32) * nI (m + 1) = nI (10 * (m + 1)) := nI_mul 10 (m + 1)
      have v := s3 (m + 1) 0 (by omega) (by omega)
      rw [Nat.add_zero] at v
      rw [eg, bd_e, ek, e10, ck_nI (by omega) (by decide), lt_e, show ix (nI (10 * (m + 1))) = 10 * (m + 1) from nI_clamp (by omega), v] at e2
      have la := ls_all h i.1 n (by omega) en hX m 0 30 (by omega) (by omega) (by omega) (by omega)
      rw [nI_0] at la
      by_cases c : a2 = 0
      · rw [if_pos c, ek, la, bd_e] at e1
        rw [if_pos c] at e2
        cases e1
        cases e2
        rfl
      · rw [if_neg c, ek] at e1
        rw [if_neg c] at e2
        unfold mK_secondShare at e1
        cases m with
        | zero =>
          rw [if_neg (by decide), bd_e] at e1
          rw [show FU = 99999 + 1 from rfl, mm_plate_L53, if_pos (show nI (0 + 1) ≤ 1 by decide), ite_self] at e2
          cases e1
          cases e2
          rfl
        | succ m =>
          rw [if_pos (show (1 : Int32) < nI (m + 1 + 1) from nI_lt (a := 1) (by omega) (by omega)), la, bd_e] at e1
          obtain ⟨r, q1, q2⟩ := ss19 h i.1 n (by omega) en hX m (by omega) (dpl (h 19) n (m + 1 + 1) 0) g s1 s2 (fun f hf => s3 (m + 1) f (by omega) hf) (fun d hd => by
            have := po_at (h 19) n (by omega) g s2 0 d (by omega) hd
            rw [nI_0, Nat.sub_zero] at this
            exact this) FU 0 (by unfold FU; omega) (by omega)
          rw [Nat.zero_add, show nI 1 = (1 : Int32) from rfl, show ps (h 19) 0 0 = 0 from rfl] at q1
          rw [Nat.zero_add, show nI 1 = (1 : Int32) from rfl] at q2
          rw [q1, bd_e] at e1
          rw [q2] at e2
          cases e1
          cases e2
          rfl
    · rw [within_n f2, bd_e, if_pos rfl] at e1
      rw [isIn_n f2, bd_e, if_pos rfl] at e2
      cases e1
      cases e2
      rfl
  · rw [within_n f1, bd_e, if_pos rfl] at e1
    rw [isIn_n f1, bd_e, if_pos rfl] at e2
    cases e1
    cases e2
    rfl
end
