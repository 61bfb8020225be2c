/-! THE TAPE'S LENGTH, THE IMAGE; then every call keeps the relation. Printed by wip/gen/prel3.py -/
theorem rla_tp {h g : PH} (hc : ∀ b, b ∈ KC → b ≠ 85 → g b = h b) (h4 : ∀ j, 1000 + j ∈ KM → j ≠ 11 → g 104 j = h 104 j) (hm : ∀ b, 104 < b → b < 1000 → b ∈ KM → g b = h b) (tp : g 85 4 = g 104 11) (rl : RLA h) : RLA g := by
  obtain ⟨q, qi, qf, qt⟩ := rl
  refine ⟨⟨ls_fr_piece (hc 18 (by decide) (by decide)) (hc 19 (by decide) (by decide)) (h4 42 (by decide) (by decide)) (hm 127 (by decide) (by decide) (by decide)) q.1, ls_fr_dough (hc 20 (by decide) (by decide)) (hc 21 (by decide) (by decide)) (h4 45 (by decide) (by decide)) (hm 129 (by decide) (by decide) (by decide)) q.2.1, ls_fr_mark (hc 22 (by decide) (by decide)) (hc 23 (by decide) (by decide)) (h4 49 (by decide) (by decide)) (hm 132 (by decide) (by decide) (by decide)) q.2.2.1, ls_fr_bite (hc 24 (by decide) (by decide)) (hc 25 (by decide) (by decide)) (h4 51 (by decide) (by decide)) (hm 133 (by decide) (by decide) (by decide)) (hm 134 (by decide) (by decide) (by decide)) q.2.2.2.1, ls_fr_crumb (hc 26 (by decide) (by decide)) (hc 27 (by decide) (by decide)) (h4 54 (by decide) (by decide)) (hm 135 (by decide) (by decide) (by decide)) q.2.2.2.2.1, ls_fr_loaf (hc 28 (by decide) (by decide)) (hc 29 (by decide) (by decide)) (h4 57 (by decide) (by decide)) (hm 137 (by decide) (by decide) (by decide)) (hm 138 (by decide) (by decide) (by decide)) q.2.2.2.2.2.1, ls_fr_heir (hc 30 (by decide) (by decide)) (hc 31 (by decide) (by decide)) (h4 62 (by decide) (by decide)) (hm 141 (by decide) (by decide) (by decide)) q.2.2.2.2.2.2.1, ls_fr_member (hc 32 (by decide) (by decide)) (hc 33 (by decide) (by decide)) (h4 66 (by decide) (by decide)) (hm 144 (by decide) (by decide) (by decide)) (hm 145 (by decide) (by decide) (by decide)) q.2.2.2.2.2.2.2⟩, fun z => lia_fr (fun b h1 h2 => hc b ?_ (by omega)) (hm 148 (by decide) (by decide) (by decide)) (qi ?_), ?_, tp⟩
  · have : ∀ b, b < 68 → 52 ≤ b → b ∈ KC := by decide
    exact this b (by omega) h1
  · rw [h4 72 (by decide) (by decide)] at z; exact z
  · rw [hc 0 (by decide) (by decide), h4 72 (by decide) (by decide)]; exact qf
theorem rla_tps {S T : List Nat} {h h1 h2 : PH} (f1 : Fr S h1 h) (f2 : Fk T h2 h1) (s1 : ∀ b, b ∈ KC → b ≠ 85 → b ∉ S) (s2 : ∀ b, b ∈ KM → b ≠ 1011 → b ∉ T) (s3 : ∀ b, b ∈ S → b < 104) (s4 : ∀ b, b ∈ T → 104 ≤ b) (tp : h2 85 4 = h2 104 11) (rl : RLA h) : RLA h2 := by
  have k4 : ∀ j, kk 104 j = 1000 + j := fun j => rfl
  have kn : ∀ b j, b ≠ 104 → kk b j = b := fun b j hb => by unfold kk; rw [if_neg hb]
  refine rla_tp (fun b hb h85 => ?_) (fun j hj h11 => ?_) (fun b h4 h5 hb => ?_) tp rl
  · have lt : b < 104 := by
      have : ∀ b, b ∈ KC → b < 104 := by decide
      exact this b hb
    rw [← f1 b (s1 b hb h85)]
    funext j
    exact f2 b j (by rw [kn b j (by omega)]; intro q; have := s4 b q; omega)
  · rw [← f1 104 (fun q => by have := s3 104 q; omega)]
    exact f2 104 j (by rw [k4]; exact s2 _ hj (by omega))
  · rw [← f1 b (fun q => by have := s3 b q; omega)]
    funext j
    exact f2 b j (by rw [kn b j (by omega)]; exact s2 b hb (by omega))
theorem rl_feed (a1 a2 a3 a4 a5 : Int32) (h : PH) (i : IM h) (gi : GI h) (rl : RLA h) : ∃ rX h1 rm h2, mX_feed a1 a2 a3 a4 a5 h = some (rX, h1) ∧ mm_feed a1 a2 a3 a4 a5 h1 = some (rm, h2) ∧ CS h h1 h2 ∧ RLA h2 ∧ rX = rm := by
  obtain ⟨rX, h1, rm, h2, e1, e2, cs⟩ := cs_feed a1 a2 a3 a4 a5 h i gi
  refine ⟨rX, h1, rm, h2, e1, e2, cs, ?_⟩
  obtain ⟨l, l1, l2, el⟩ := nat_of (show R 0 400 (h 85 4) from inv_rng i.1 rfl) (by decide)
  have em : h1 104 11 = nI l := by rw [cs.2.2.2.1 104 (by decide), ← rl.2.2.2]; exact el
  have key : h2 85 4 = h2 104 11 ∧ rX = rm := by
    rw [cs.2.2.2.2 85 (by decide)]
    by_cases c : l + 20 ≤ 400
    · obtain ⟨g, q1, q2, -, -⟩ := feed_class a1 a2 a3 a4 a5 h l el c
      rw [q1] at e1
      cases e1
      obtain ⟨g', q3, q4, -, -⟩ := feed_model a1 a2 a3 a4 a5 h1 l em c
      rw [q3] at e2
      cases e2
      exact ⟨by rw [q2, q4], rfl⟩
    · unfold mX_feed at e1
      rw [el, show nI l + 20 = nI (l + 20) from nI_add l 20, if_neg (show ¬ nI (l + 20) ≤ (400 : Int32) from nI_ge (a := 400) (by omega) (by omega))] at e1
      cases e1
      unfold mm_feed at e2
      rw [lt_e, up_oj (by decide), em, if_neg (show ¬ nI l ≤ (380 : Int32) from nI_ge (a := 380) (by omega) (by omega))] at e2
      cases e2
      exact ⟨by rw [up_oj (by decide), el, em], rfl⟩
  exact ⟨rla_tps (fpX_feed a1 a2 a3 a4 a5 h e1) (fkm_feed a1 a2 a3 a4 a5 h1 e2) (by decide : ∀ b, b ∈ KC → b ≠ 85 → b ∉ FPdX_feed 0 0 0 0 0) (by decide : ∀ b, b ∈ KM → b ≠ 1011 → b ∉ FKdm_feed 0 0 0 0 0) (by decide : ∀ b, b ∈ FPdX_feed 0 0 0 0 0 → b < 104) (by decide : ∀ b, b ∈ FKdm_feed 0 0 0 0 0 → 104 ≤ b) key.1 rl, key.2⟩
theorem rl_end (a1 : Int32) (h : PH) (i : IM h) (gi : GI h) (rl : RLA h) : ∃ rX h1 rm h2, mX_end a1 h = some (rX, h1) ∧ mm_end a1 h1 = some (rm, h2) ∧ CS h h1 h2 ∧ RLA h2 ∧ rX = rm := by
  obtain ⟨rX, h1, rm, h2, e1, e2, cs⟩ := cs_end a1 h i gi
  refine ⟨rX, h1, rm, h2, e1, e2, cs, ?_⟩
  have em : h1 104 11 = h 85 4 := by rw [cs.2.2.2.1 104 (by decide), rl.2.2.2]
  have key : h2 85 4 = h2 104 11 ∧ rX = rm := by
    rw [cs.2.2.2.2 85 (by decide)]
    unfold mX_end at e1
    unfold mm_end at e2
    rw [lt_e, up_oj (by decide), em] at e2
    by_cases c1 : a1 < 0
    · rw [if_pos c1] at e1
      cases e1
      rw [isIn_n (fun q => absurd c1 (Int32.not_lt.mpr q.1)), bd_e, if_pos rfl] at e2
      cases e2
      exact ⟨by rw [up_oj (by decide)]; exact em.symm, rfl⟩
    · rw [if_neg c1] at e1
      by_cases c2 : a1 ≤ h 85 4
      · rw [if_pos c2, lt_e] at e1
        cases e1
        rw [isIn_y ⟨Int32.not_lt.mp c1, c2⟩, bd_e, if_neg (by decide), lt_e] at e2
        cases e2
        exact ⟨by rw [up_same, up_same], rfl⟩
      · rw [if_neg c2] at e1
        cases e1
        rw [isIn_n (fun q => c2 q.2), bd_e, if_pos rfl] at e2
        cases e2
        exact ⟨by rw [up_oj (by decide)]; exact em.symm, rfl⟩
  exact ⟨rla_tps (fpX_end a1 h e1) (fkm_end a1 h1 e2) (by decide : ∀ b, b ∈ KC → b ≠ 85 → b ∉ FPdX_end 0) (by decide : ∀ b, b ∈ KM → b ≠ 1011 → b ∉ FKdm_end 0) (by decide : ∀ b, b ∈ FPdX_end 0 → b < 104) (by decide : ∀ b, b ∈ FKdm_end 0 → 104 ≤ b) key.1 rl, key.2⟩
theorem xtext85 (p : Int32) (h : PH) {r : Int32 × PH} (e : mX_text p h = some r) : r.2 85 4 = 0 := by
  unfold mX_text at e
  obtain ⟨h1, -, e⟩ := bd_s e
  obtain ⟨r2, -, e⟩ := bd_s e
  refine v_j2 (fun (x : Int32) (g : PH) => r.2 85 4 = 0) e (fun x4 h5 e => ?_) (fun j3 kj e => ?_)
  · obtain ⟨h6, e6, e⟩ := lt_some e
    have z : h6 85 4 = 0 := by rw [e6]; exact up_same
    rcases ite_or e with ⟨-, e⟩ | ⟨-, e⟩
    · cases e
      exact z
    · obtain ⟨r7, h8, e8, e⟩ := bd2_s e
      cases e
      rw [← z]
      have f : h8 85 = h6 85 := fpX_keepText p h6 e8 85 (show 85 ∉ FPdX_keepText p from (by decide : 85 ∉ FPdX_keepText 0))
      show h8 85 4 = h6 85 4
      rw [f]
  · rcases ite_or e with ⟨-, e⟩ | ⟨-, e⟩
    · exact kj _ _ e
    · obtain ⟨r9, h10, -, e⟩ := bd2_s e
      rcases ite_or e with ⟨-, e⟩ | ⟨-, e⟩
      · exact kj _ _ e
      · exact kj _ _ e
theorem mtext11 (p : Int32) (h : PH) {r : Int32 × PH} (e : mm_text p h = some r) : r.2 104 11 = 0 := by
  unfold mm_text at e
  obtain ⟨h1, -, e⟩ := lt_some e
  obtain ⟨h2, -, e⟩ := lt_some e
  obtain ⟨h3, -, e⟩ := lt_some e
  obtain ⟨h4, -, e⟩ := lt_some e
  obtain ⟨h5, -, e⟩ := lt_some e
  obtain ⟨h6, -, e⟩ := lt_some e
  obtain ⟨r7, -, e⟩ := bd_s e
  refine v_j2 (fun (x : Int32) (g : PH) => r.2 104 11 = 0) e (fun x9 h10 e => ?_) (fun j8 kj e => ?_)
  · obtain ⟨h11, e11, e⟩ := lt_some e
    have z : h11 104 11 = 0 := by rw [e11]; exact up_same
    rcases ite_or e with ⟨-, e⟩ | ⟨-, e⟩
    · cases e
      exact z
    · rcases ite_or e with ⟨-, e⟩ | ⟨-, e⟩
      · obtain ⟨h12, e12, e⟩ := bd_s e
        cases e
        rw [← z]
        exact fkm_takesLaw x9 h11 e12 104 11 (show kk 104 11 ∉ FKdm_takesLaw x9 from (by decide : 1011 ∉ FKdm_takesLaw 0))
      · obtain ⟨h12, e12, e⟩ := bd_s e
        cases e
        rw [← z]
        exact fkm_takesOther p x9 h11 e12 104 11 (show kk 104 11 ∉ FKdm_takesOther p x9 from (by decide : 1011 ∉ FKdm_takesOther 0 0))
  · rcases ite_or e with ⟨-, e⟩ | ⟨-, e⟩
    · exact kj _ _ e
    · obtain ⟨r14, h15, -, e⟩ := bd2_s e
      rcases ite_or e with ⟨-, e⟩ | ⟨-, e⟩
      · obtain ⟨h16, -, e⟩ := lt_some e
        obtain ⟨h17, -, e⟩ := lt_some e
        exact kj _ _ e
      · exact kj _ _ e
theorem rl_text (a1 : Int32) (h : PH) (i : IM h) (gi : GI h) (rl : RLA h) : ∃ rX h1 rm h2, mX_text a1 h = some (rX, h1) ∧ mm_text a1 h1 = some (rm, h2) ∧ CS h h1 h2 ∧ RLA h2 ∧ True := by
  obtain ⟨rX, h1, rm, h2, e1, e2, cs⟩ := cs_text a1 h i gi
  have t1 : h1 85 4 = 0 := xtext85 a1 h e1
  have t2 : h2 104 11 = 0 := mtext11 a1 h1 e2
  exact ⟨rX, h1, rm, h2, e1, e2, cs, rla_tps (fpX_text a1 h e1) (fkm_text a1 h1 e2) (by decide : ∀ b, b ∈ KC → b ≠ 85 → b ∉ FPdX_text 0) (by decide : ∀ b, b ∈ KM → b ≠ 1011 → b ∉ FKdm_text 0) (by decide : ∀ b, b ∈ FPdX_text 0 → b < 104) (by decide : ∀ b, b ∈ FKdm_text 0 → 104 ≤ b) (by rw [cs.2.2.2.2 85 (by decide), t1, t2]) rl, trivial⟩
theorem pq_piece_0 : ∀ k, k < 9 → pm (175 + 1 * k) = (127, k) ∧ 175 + 1 * k < 1850 := by decide +kernel
theorem pq_dough_0 : ∀ k, k < 8 → pm (184 + 5 * k) = (129, k) ∧ 184 + 5 * k < 1850 := by decide +kernel
theorem pq_mark_0 : ∀ k, k < 5 → pm (224 + 1 * k) = (132, k) ∧ 224 + 1 * k < 1850 := by decide +kernel
theorem pq_bite_0 : ∀ k, k < 8 → pm (185 + 5 * k) = (133, k) ∧ 185 + 5 * k < 1850 := by decide +kernel
theorem pq_bite_1 : ∀ k, k < 8 → pm (186 + 5 * k) = (134, k) ∧ 186 + 5 * k < 1850 := by decide +kernel
theorem pq_crumb_0 : ∀ k, k < 16 → pm (229 + 1 * k) = (135, k) ∧ 229 + 1 * k < 1850 := by decide +kernel
theorem pq_loaf_0 : ∀ k, k < 6 → pm (245 + 2 * k) = (137, k) ∧ 245 + 2 * k < 1850 := by decide +kernel
theorem pq_loaf_1 : ∀ k, k < 6 → pm (246 + 2 * k) = (138, k) ∧ 246 + 2 * k < 1850 := by decide +kernel
theorem pq_heir_0 : ∀ k, k < 12 → pm (130 + 4 * k) = (141, k) ∧ 130 + 4 * k < 1850 := by decide +kernel
theorem pq_member_0 : ∀ k, k < 8 → pm (187 + 5 * k) = (144, k) ∧ 187 + 5 * k < 1850 := by decide +kernel
theorem pq_member_1 : ∀ k, k < 8 → pm (188 + 5 * k) = (145, k) ∧ 188 + 5 * k < 1850 := by decide +kernel
theorem rl_image (a1 : Int32) (h : PH) (i : IM h) (gi : GI h) (rl : RLA h) : ∃ rX h1 rm h2, mX_image (if a1 = 0 then 0 else 1) h = some (rX, h1) ∧ mm_image (if a1 = 0 then 0 else 1) h1 = some (rm, h2) ∧ CS h h1 h2 ∧ RLA h2 ∧ rX = rm := by
  obtain ⟨rX, h1, rm, h2, e1, e2, cs⟩ := cs_image a1 h i gi
  refine ⟨rX, h1, rm, h2, e1, e2, cs, ?_⟩
  have x104 := cs.2.2.2.1
  have s104 := cs.2.2.2.2
  have h148 := x104 148 (by decide)
  have tpm : h2 104 11 = h1 104 11 := fkm_image _ h1 e2 104 11 (show kk 104 11 ∉ FKdm_image _ from (by decide : 1011 ∉ FKdm_image 0))
  by_cases c : a1 = 0
  · rw [if_pos c] at e1 e2
    by_cases cz : h 0 13 = 0
    · unfold mX_image at e1
      rw [if_pos rfl, if_pos cz] at e1
      cases e1
      unfold mm_image at e2
      rw [lt_e, jn0_e, if_pos rfl, if_pos (by rw [up_oj (by decide), ← rl.2.2.1]; exact cz)] at e2
      cases e2
      exact ⟨rla_fr (fun b hb => up_cell (by
        have : ∀ b, b ∈ KC → b < 104 := by decide
        have := this b hb
        omega)) (fun j hj => up_oj (by
        intro q
        rw [q] at hj
        exact absurd hj (by decide))) (fun b hb _ => up_cell (by omega)) rl, rfl⟩
    · have nz : ¬ h 104 72 = 0 := by rw [← rl.2.2.1]; exact cz
      obtain ⟨g, eg, t2, -, -, t5, t6, -⟩ := xi_back h i.1 cz
      rw [eg] at e1
      cases e1
      obtain ⟨g', eg', g72, -, u⟩ := kc_image 0 (Or.inl rfl) h1 (Or.inr (by rw [x104 104 (by decide)]; exact nz))
      rw [eg'] at e2
      cases e2
      obtain ⟨u1, u2, -⟩ := u rfl
      refine ⟨⟨⟨?_, ?_, ?_, ?_, ?_, ?_, ?_, ?_⟩, fun _ => ?_, ?_, ?_⟩, rfl⟩
      · have q : LI_piece h := (rl.2.1 nz).1
        unfold LI_piece at q
        unfold LS_piece
        obtain ⟨d1, d2⟩ := t2 6 (by decide)
        have d1 : h1 18 3 = h 52 3 := d1
        have d2 : ∀ j, j < (h 52 3).toNatClampNeg * 1 → h1 19 j = h 53 j := d2
        rw [← s104 18 (by decide)] at d1
        rw [← s104 19 (by decide)] at d2
        have m1 : h2 104 42 = h 148 119 := by have := u1 119 (by decide); rw [h148] at this; exact this
        have y0 : ∀ j, j < 9 → h2 127 j = (fun k => h 148 (175 + 1 * k)) j := fun j hj => by
          obtain ⟨p1, p2⟩ := pq_piece_0 j hj
          have := u1 _ p2
          rw [p1, h148] at this
          exact this
        exact w1_x q d1 m1 9 (show (h 52 3).toInt ≤ ((9 : Nat) : Int) from (show R 0 9 (h 52 3) from inv_rng i.1 rfl).2) d2 y0
      · have q : LI_dough h := (rl.2.1 nz).2.1
        unfold LI_dough at q
        unfold LS_dough
        obtain ⟨d1, d2⟩ := t2 7 (by decide)
        have d1 : h1 20 3 = h 54 3 := d1
        have d2 : ∀ j, j < (h 54 3).toNatClampNeg * 1 → h1 21 j = h 55 j := d2
        rw [← s104 20 (by decide)] at d1
        rw [← s104 21 (by decide)] at d2
        have m1 : h2 104 45 = h 148 120 := by have := u1 120 (by decide); rw [h148] at this; exact this
        have y0 : ∀ j, j < 8 → h2 129 j = (fun k => h 148 (184 + 5 * k)) j := fun j hj => by
          obtain ⟨p1, p2⟩ := pq_dough_0 j hj
          have := u1 _ p2
          rw [p1, h148] at this
          exact this
        exact w1_x q d1 m1 8 (show (h 54 3).toInt ≤ ((8 : Nat) : Int) from (show R 0 8 (h 54 3) from inv_rng i.1 rfl).2) d2 y0
      · have q : LI_mark h := (rl.2.1 nz).2.2.1
        unfold LI_mark at q
        unfold LS_mark
        obtain ⟨d1, d2⟩ := t2 8 (by decide)
        have d1 : h1 22 3 = h 56 3 := d1
        have d2 : ∀ j, j < (h 56 3).toNatClampNeg * 1 → h1 23 j = h 57 j := d2
        rw [← s104 22 (by decide)] at d1
        rw [← s104 23 (by decide)] at d2
        have m1 : h2 104 49 = h 148 121 := by have := u1 121 (by decide); rw [h148] at this; exact this
        have y0 : ∀ j, j < 5 → h2 132 j = (fun k => h 148 (224 + 1 * k)) j := fun j hj => by
          obtain ⟨p1, p2⟩ := pq_mark_0 j hj
          have := u1 _ p2
          rw [p1, h148] at this
          exact this
        exact w1_x q d1 m1 5 (show (h 56 3).toInt ≤ ((5 : Nat) : Int) from (show R 0 5 (h 56 3) from inv_rng i.1 rfl).2) d2 y0
      · have q : LI_bite h := (rl.2.1 nz).2.2.2.1
        unfold LI_bite at q
        unfold LS_bite
        obtain ⟨d1, d2⟩ := t2 9 (by decide)
        have d1 : h1 24 3 = h 58 3 := d1
        have d2 : ∀ j, j < (h 58 3).toNatClampNeg * 2 → h1 25 j = h 59 j := d2
        rw [← s104 24 (by decide)] at d1
        rw [← s104 25 (by decide)] at d2
        have m1 : h2 104 51 = h 148 122 := by have := u1 122 (by decide); rw [h148] at this; exact this
        have y0 : ∀ j, j < 8 → h2 133 j = (fun k => h 148 (185 + 5 * k)) j := fun j hj => by
          obtain ⟨p1, p2⟩ := pq_bite_0 j hj
          have := u1 _ p2
          rw [p1, h148] at this
          exact this
        have y1 : ∀ j, j < 8 → h2 134 j = (fun k => h 148 (186 + 5 * k)) j := fun j hj => by
          obtain ⟨p1, p2⟩ := pq_bite_1 j hj
          have := u1 _ p2
          rw [p1, h148] at this
          exact this
        exact w2_x q d1 m1 8 (show (h 58 3).toInt ≤ ((8 : Nat) : Int) from (show R 0 8 (h 58 3) from inv_rng i.1 rfl).2) d2 y0 y1
      · have q : LI_crumb h := (rl.2.1 nz).2.2.2.2.1
        unfold LI_crumb at q
        unfold LS_crumb
        obtain ⟨d1, d2⟩ := t2 10 (by decide)
        have d1 : h1 26 3 = h 60 3 := d1
        have d2 : ∀ j, j < (h 60 3).toNatClampNeg * 1 → h1 27 j = h 61 j := d2
        rw [← s104 26 (by decide)] at d1
        rw [← s104 27 (by decide)] at d2
        have m1 : h2 104 54 = h 148 123 := by have := u1 123 (by decide); rw [h148] at this; exact this
        have y0 : ∀ j, j < 16 → h2 135 j = (fun k => h 148 (229 + 1 * k)) j := fun j hj => by
          obtain ⟨p1, p2⟩ := pq_crumb_0 j hj
          have := u1 _ p2
          rw [p1, h148] at this
          exact this
        exact w1_x q d1 m1 16 (show (h 60 3).toInt ≤ ((16 : Nat) : Int) from (show R 0 16 (h 60 3) from inv_rng i.1 rfl).2) d2 y0
      · have q : LI_loaf h := (rl.2.1 nz).2.2.2.2.2.1
        unfold LI_loaf at q
        unfold LS_loaf
        obtain ⟨d1, d2⟩ := t2 11 (by decide)
        have d1 : h1 28 3 = h 62 3 := d1
        have d2 : ∀ j, j < (h 62 3).toNatClampNeg * 2 → h1 29 j = h 63 j := d2
        rw [← s104 28 (by decide)] at d1
        rw [← s104 29 (by decide)] at d2
        have m1 : h2 104 57 = h 148 124 := by have := u1 124 (by decide); rw [h148] at this; exact this
        have y0 : ∀ j, j < 6 → h2 137 j = (fun k => h 148 (245 + 2 * k)) j := fun j hj => by
          obtain ⟨p1, p2⟩ := pq_loaf_0 j hj
          have := u1 _ p2
          rw [p1, h148] at this
          exact this
        have y1 : ∀ j, j < 6 → h2 138 j = (fun k => h 148 (246 + 2 * k)) j := fun j hj => by
          obtain ⟨p1, p2⟩ := pq_loaf_1 j hj
          have := u1 _ p2
          rw [p1, h148] at this
          exact this
        exact w2_x q d1 m1 6 (show (h 62 3).toInt ≤ ((6 : Nat) : Int) from (show R 0 6 (h 62 3) from inv_rng i.1 rfl).2) d2 y0 y1
      · have q : LI_heir h := (rl.2.1 nz).2.2.2.2.2.2.1
        unfold LI_heir at q
        unfold LS_heir
        obtain ⟨d1, d2⟩ := t2 12 (by decide)
        have d1 : h1 30 3 = h 64 3 := d1
        have d2 : ∀ j, j < (h 64 3).toNatClampNeg * 2 → h1 31 j = h 65 j := d2
        rw [← s104 30 (by decide)] at d1
        rw [← s104 31 (by decide)] at d2
        have m1 : h2 104 62 = h 148 125 := by have := u1 125 (by decide); rw [h148] at this; exact this
        have y0 : ∀ j, j < 12 → h2 141 j = (fun k => h 148 (130 + 4 * k)) j := fun j hj => by
          obtain ⟨p1, p2⟩ := pq_heir_0 j hj
          have := u1 _ p2
          rw [p1, h148] at this
          exact this
        exact wh_x q d1 m1 d2 y0
      · have q : LI_member h := (rl.2.1 nz).2.2.2.2.2.2.2
        unfold LI_member at q
        unfold LS_member
        obtain ⟨d1, d2⟩ := t2 13 (by decide)
        have d1 : h1 32 3 = h 66 3 := d1
        have d2 : ∀ j, j < (h 66 3).toNatClampNeg * 2 → h1 33 j = h 67 j := d2
        rw [← s104 32 (by decide)] at d1
        rw [← s104 33 (by decide)] at d2
        have m1 : h2 104 66 = h 148 126 := by have := u1 126 (by decide); rw [h148] at this; exact this
        have y0 : ∀ j, j < 8 → h2 144 j = (fun k => h 148 (187 + 5 * k)) j := fun j hj => by
          obtain ⟨p1, p2⟩ := pq_member_0 j hj
          have := u1 _ p2
          rw [p1, h148] at this
          exact this
        have y1 : ∀ j, j < 8 → h2 145 j = (fun k => h 148 (188 + 5 * k)) j := fun j hj => by
          obtain ⟨p1, p2⟩ := pq_member_1 j hj
          have := u1 _ p2
          rw [p1, h148] at this
          exact this
        exact w2_x q d1 m1 8 (show (h 66 3).toInt ≤ ((8 : Nat) : Int) from (show R 0 8 (h 66 3) from inv_rng i.1 rfl).2) d2 y0 y1
      · exact lia_fr (fun b q1 q2 => by rw [s104 b (by omega), t5 b (by omega) (by omega)]) (by rw [u2, h148]) (rl.2.1 nz)
      · rw [s104 0 (by decide), t6, g72]
        obtain ⟨k, k1, k2, ek⟩ := nat_of (show R 0 1 (h 0 13) from inv_rng i.1 rfl) (by decide)
        rw [ek] at cz ⊢
        have : k = 0 ∨ k = 1 := by omega
        rcases this with rfl | rfl
        · exact absurd rfl cz
        · rfl
      · rw [tpm, s104 85 (by decide), t5 85 (by decide) (by decide), x104 104 (by decide)]
        exact rl.2.2.2
  · rw [if_neg c] at e1 e2
    obtain ⟨g, eg, t2, -, -, t5, t6⟩ := xi_take 1 (by decide) h i.1
    rw [eg] at e1
    cases e1
    obtain ⟨g', eg', g72, u, -⟩ := kc_image 1 (Or.inr rfl) h1 (Or.inl rfl)
    rw [eg'] at e2
    cases e2
    obtain ⟨u1, u2⟩ := u rfl
    have uc : ∀ b, 104 < b → b ≠ 148 → h2 b = h b := fun b q1 q2 => by
      rw [← x104 b (by omega)]
      funext j
      exact u2 b j q2 (fun q => by omega)
    have u4 : ∀ j, j ≠ 73 → j ≠ 72 → j ≠ 71 → j ≠ 0 → h2 104 j = h 104 j := fun j j1 j2 j3 j4 => by
      rw [← x104 104 (by decide)]
      exact u2 104 j (by decide) (fun _ => ⟨j1, j2, j3, j4⟩)
    have ux : ∀ b, b ≠ 0 → b < 37 ∨ (67 < b ∧ b < 104) → h2 b = h b := fun b q1 q2 => by rw [s104 b (by omega), t5 b q1 (by omega)]
    have q := rl.1
    refine ⟨⟨⟨ls_fr_piece (ux 18 (by decide) (by decide)) (ux 19 (by decide) (by decide)) (u4 42 (by decide) (by decide) (by decide) (by decide)) (uc 127 (by decide) (by decide)) q.1, ls_fr_dough (ux 20 (by decide) (by decide)) (ux 21 (by decide) (by decide)) (u4 45 (by decide) (by decide) (by decide) (by decide)) (uc 129 (by decide) (by decide)) q.2.1, ls_fr_mark (ux 22 (by decide) (by decide)) (ux 23 (by decide) (by decide)) (u4 49 (by decide) (by decide) (by decide) (by decide)) (uc 132 (by decide) (by decide)) q.2.2.1, ls_fr_bite (ux 24 (by decide) (by decide)) (ux 25 (by decide) (by decide)) (u4 51 (by decide) (by decide) (by decide) (by decide)) (uc 133 (by decide) (by decide)) (uc 134 (by decide) (by decide)) q.2.2.2.1, ls_fr_crumb (ux 26 (by decide) (by decide)) (ux 27 (by decide) (by decide)) (u4 54 (by decide) (by decide) (by decide) (by decide)) (uc 135 (by decide) (by decide)) q.2.2.2.2.1, ls_fr_loaf (ux 28 (by decide) (by decide)) (ux 29 (by decide) (by decide)) (u4 57 (by decide) (by decide) (by decide) (by decide)) (uc 137 (by decide) (by decide)) (uc 138 (by decide) (by decide)) q.2.2.2.2.2.1, ls_fr_heir (ux 30 (by decide) (by decide)) (ux 31 (by decide) (by decide)) (u4 62 (by decide) (by decide) (by decide) (by decide)) (uc 141 (by decide) (by decide)) q.2.2.2.2.2.2.1, ls_fr_member (ux 32 (by decide) (by decide)) (ux 33 (by decide) (by decide)) (u4 66 (by decide) (by decide) (by decide) (by decide)) (uc 144 (by decide) (by decide)) (uc 145 (by decide) (by decide)) q.2.2.2.2.2.2.2⟩, fun _ => ⟨?_, ?_, ?_, ?_, ?_, ?_, ?_, ?_⟩, ?_, ?_⟩, rfl⟩
    · have q : LS_piece h := rl.1.1
      unfold LS_piece at q
      unfold LI_piece
      obtain ⟨d1, d2⟩ := t2 6 (by decide)
      have d1 : h1 52 3 = h 18 3 := d1
      have d2 : ∀ j, j < (h 18 3).toNatClampNeg * 1 → h1 53 j = h 19 j := d2
      rw [← s104 52 (by decide)] at d1
      rw [← s104 53 (by decide)] at d2
      have m1 : h2 148 119 = h 104 42 := by have := u1 119 (by decide); rw [this]; exact congrFun (x104 104 (by decide)) 42
      have y0 : ∀ j, j < 9 → (fun k => h2 148 (175 + 1 * k)) j = h 127 j := fun j hj => by
        obtain ⟨p1, p2⟩ := pq_piece_0 j hj
        have := u1 _ p2
        rw [p1, x104 127 (by decide)] at this
        exact this
      exact w1_x q d1 m1 9 (show (h 18 3).toInt ≤ ((9 : Nat) : Int) from (show R 0 9 (h 18 3) from inv_rng i.1 rfl).2) d2 y0
    · have q : LS_dough h := rl.1.2.1
      unfold LS_dough at q
      unfold LI_dough
      obtain ⟨d1, d2⟩ := t2 7 (by decide)
      have d1 : h1 54 3 = h 20 3 := d1
      have d2 : ∀ j, j < (h 20 3).toNatClampNeg * 1 → h1 55 j = h 21 j := d2
      rw [← s104 54 (by decide)] at d1
      rw [← s104 55 (by decide)] at d2
      have m1 : h2 148 120 = h 104 45 := by have := u1 120 (by decide); rw [this]; exact congrFun (x104 104 (by decide)) 45
      have y0 : ∀ j, j < 8 → (fun k => h2 148 (184 + 5 * k)) j = h 129 j := fun j hj => by
        obtain ⟨p1, p2⟩ := pq_dough_0 j hj
        have := u1 _ p2
        rw [p1, x104 129 (by decide)] at this
        exact this
      exact w1_x q d1 m1 8 (show (h 20 3).toInt ≤ ((8 : Nat) : Int) from (show R 0 8 (h 20 3) from inv_rng i.1 rfl).2) d2 y0
    · have q : LS_mark h := rl.1.2.2.1
      unfold LS_mark at q
      unfold LI_mark
      obtain ⟨d1, d2⟩ := t2 8 (by decide)
      have d1 : h1 56 3 = h 22 3 := d1
      have d2 : ∀ j, j < (h 22 3).toNatClampNeg * 1 → h1 57 j = h 23 j := d2
      rw [← s104 56 (by decide)] at d1
      rw [← s104 57 (by decide)] at d2
      have m1 : h2 148 121 = h 104 49 := by have := u1 121 (by decide); rw [this]; exact congrFun (x104 104 (by decide)) 49
      have y0 : ∀ j, j < 5 → (fun k => h2 148 (224 + 1 * k)) j = h 132 j := fun j hj => by
        obtain ⟨p1, p2⟩ := pq_mark_0 j hj
        have := u1 _ p2
        rw [p1, x104 132 (by decide)] at this
        exact this
      exact w1_x q d1 m1 5 (show (h 22 3).toInt ≤ ((5 : Nat) : Int) from (show R 0 5 (h 22 3) from inv_rng i.1 rfl).2) d2 y0
    · have q : LS_bite h := rl.1.2.2.2.1
      unfold LS_bite at q
      unfold LI_bite
      obtain ⟨d1, d2⟩ := t2 9 (by decide)
      have d1 : h1 58 3 = h 24 3 := d1
      have d2 : ∀ j, j < (h 24 3).toNatClampNeg * 2 → h1 59 j = h 25 j := d2
      rw [← s104 58 (by decide)] at d1
      rw [← s104 59 (by decide)] at d2
      have m1 : h2 148 122 = h 104 51 := by have := u1 122 (by decide); rw [this]; exact congrFun (x104 104 (by decide)) 51
      have y0 : ∀ j, j < 8 → (fun k => h2 148 (185 + 5 * k)) j = h 133 j := fun j hj => by
        obtain ⟨p1, p2⟩ := pq_bite_0 j hj
        have := u1 _ p2
        rw [p1, x104 133 (by decide)] at this
        exact this
      have y1 : ∀ j, j < 8 → (fun k => h2 148 (186 + 5 * k)) j = h 134 j := fun j hj => by
        obtain ⟨p1, p2⟩ := pq_bite_1 j hj
        have := u1 _ p2
        rw [p1, x104 134 (by decide)] at this
        exact this
      exact w2_x q d1 m1 8 (show (h 24 3).toInt ≤ ((8 : Nat) : Int) from (show R 0 8 (h 24 3) from inv_rng i.1 rfl).2) d2 y0 y1
    · have q : LS_crumb h := rl.1.2.2.2.2.1
      unfold LS_crumb at q
      unfold LI_crumb
      obtain ⟨d1, d2⟩ := t2 10 (by decide)
      have d1 : h1 60 3 = h 26 3 := d1
      have d2 : ∀ j, j < (h 26 3).toNatClampNeg * 1 → h1 61 j = h 27 j := d2
      rw [← s104 60 (by decide)] at d1
      rw [← s104 61 (by decide)] at d2
      have m1 : h2 148 123 = h 104 54 := by have := u1 123 (by decide); rw [this]; exact congrFun (x104 104 (by decide)) 54
      have y0 : ∀ j, j < 16 → (fun k => h2 148 (229 + 1 * k)) j = h 135 j := fun j hj => by
        obtain ⟨p1, p2⟩ := pq_crumb_0 j hj
        have := u1 _ p2
        rw [p1, x104 135 (by decide)] at this
        exact this
      exact w1_x q d1 m1 16 (show (h 26 3).toInt ≤ ((16 : Nat) : Int) from (show R 0 16 (h 26 3) from inv_rng i.1 rfl).2) d2 y0
    · have q : LS_loaf h := rl.1.2.2.2.2.2.1
      unfold LS_loaf at q
      unfold LI_loaf
      obtain ⟨d1, d2⟩ := t2 11 (by decide)
      have d1 : h1 62 3 = h 28 3 := d1
      have d2 : ∀ j, j < (h 28 3).toNatClampNeg * 2 → h1 63 j = h 29 j := d2
      rw [← s104 62 (by decide)] at d1
      rw [← s104 63 (by decide)] at d2
      have m1 : h2 148 124 = h 104 57 := by have := u1 124 (by decide); rw [this]; exact congrFun (x104 104 (by decide)) 57
      have y0 : ∀ j, j < 6 → (fun k => h2 148 (245 + 2 * k)) j = h 137 j := fun j hj => by
        obtain ⟨p1, p2⟩ := pq_loaf_0 j hj
        have := u1 _ p2
        rw [p1, x104 137 (by decide)] at this
        exact this
      have y1 : ∀ j, j < 6 → (fun k => h2 148 (246 + 2 * k)) j = h 138 j := fun j hj => by
        obtain ⟨p1, p2⟩ := pq_loaf_1 j hj
        have := u1 _ p2
        rw [p1, x104 138 (by decide)] at this
        exact this
      exact w2_x q d1 m1 6 (show (h 28 3).toInt ≤ ((6 : Nat) : Int) from (show R 0 6 (h 28 3) from inv_rng i.1 rfl).2) d2 y0 y1
    · have q : LS_heir h := rl.1.2.2.2.2.2.2.1
      unfold LS_heir at q
      unfold LI_heir
      obtain ⟨d1, d2⟩ := t2 12 (by decide)
      have d1 : h1 64 3 = h 30 3 := d1
      have d2 : ∀ j, j < (h 30 3).toNatClampNeg * 2 → h1 65 j = h 31 j := d2
      rw [← s104 64 (by decide)] at d1
      rw [← s104 65 (by decide)] at d2
      have m1 : h2 148 125 = h 104 62 := by have := u1 125 (by decide); rw [this]; exact congrFun (x104 104 (by decide)) 62
      have y0 : ∀ j, j < 12 → (fun k => h2 148 (130 + 4 * k)) j = h 141 j := fun j hj => by
        obtain ⟨p1, p2⟩ := pq_heir_0 j hj
        have := u1 _ p2
        rw [p1, x104 141 (by decide)] at this
        exact this
      exact wh_x q d1 m1 d2 y0
    · have q : LS_member h := rl.1.2.2.2.2.2.2.2
      unfold LS_member at q
      unfold LI_member
      obtain ⟨d1, d2⟩ := t2 13 (by decide)
      have d1 : h1 66 3 = h 32 3 := d1
      have d2 : ∀ j, j < (h 32 3).toNatClampNeg * 2 → h1 67 j = h 33 j := d2
      rw [← s104 66 (by decide)] at d1
      rw [← s104 67 (by decide)] at d2
      have m1 : h2 148 126 = h 104 66 := by have := u1 126 (by decide); rw [this]; exact congrFun (x104 104 (by decide)) 66
      have y0 : ∀ j, j < 8 → (fun k => h2 148 (187 + 5 * k)) j = h 144 j := fun j hj => by
        obtain ⟨p1, p2⟩ := pq_member_0 j hj
        have := u1 _ p2
        rw [p1, x104 144 (by decide)] at this
        exact this
      have y1 : ∀ j, j < 8 → (fun k => h2 148 (188 + 5 * k)) j = h 145 j := fun j hj => by
        obtain ⟨p1, p2⟩ := pq_member_1 j hj
        have := u1 _ p2
        rw [p1, x104 145 (by decide)] at this
        exact this
      exact w2_x q d1 m1 8 (show (h 32 3).toInt ≤ ((8 : Nat) : Int) from (show R 0 8 (h 32 3) from inv_rng i.1 rfl).2) d2 y0 y1
    · rw [s104 0 (by decide), t6, g72]
    · rw [tpm, s104 85 (by decide), t5 85 (by decide) (by decide), x104 104 (by decide)]
      exact rl.2.2.2
theorem rl_state (a1 : Int32) (h : PH) (i : IM h) (gi : GI h) (rl : RLA h) : ∃ rX h1 rm h2, mX_state a1 h = some (rX, h1) ∧ mm_state a1 h1 = some (rm, h2) ∧ CS h h1 h2 ∧ RLA h2 ∧ True := by
  obtain ⟨rX, h1, rm, h2, e1, e2, cs⟩ := cs_state a1 h i gi
  exact ⟨rX, h1, rm, h2, e1, e2, cs, rla_cs (fpX_state a1 h e1) (fkm_state a1 h1 e2) (by decide : ∀ b, b ∈ KC → b ∉ FPdX_state 0) (by decide : ∀ b, b ∈ KM → b ∉ FKdm_state 0) (by decide : ∀ b, b ∈ FPdX_state 0 → b < 104) (by decide : ∀ b, b ∈ FKdm_state 0 → 104 ≤ b) rl, trivial⟩
theorem rl_house (a1 a2 a3 : Int32) (h : PH) (i : IM h) (gi : GI h) (rl : RLA h) : ∃ rX h1 rm h2, mX_house a1 a2 a3 h = some (rX, h1) ∧ mm_house a1 a2 a3 h1 = some (rm, h2) ∧ CS h h1 h2 ∧ RLA h2 ∧ True := by
  obtain ⟨rX, h1, rm, h2, e1, e2, cs⟩ := cs_house a1 a2 a3 h i gi
  exact ⟨rX, h1, rm, h2, e1, e2, cs, rla_cs (fpX_house a1 a2 a3 h e1) (fkm_house a1 a2 a3 h1 e2) (by decide : ∀ b, b ∈ KC → b ∉ FPdX_house 0 0 0) (by decide : ∀ b, b ∈ KM → b ∉ FKdm_house 0 0 0) (by decide : ∀ b, b ∈ FPdX_house 0 0 0 → b < 104) (by decide : ∀ b, b ∈ FKdm_house 0 0 0 → 104 ≤ b) rl, trivial⟩
theorem rl_set (a1 a2 a3 : Int32) (h : PH) (i : IM h) (gi : GI h) (rl : RLA h) : ∃ rX h1 rm h2, mX_set a1 a2 a3 h = some (rX, h1) ∧ mm_set a1 a2 a3 h1 = some (rm, h2) ∧ CS h h1 h2 ∧ RLA h2 ∧ True := by
  obtain ⟨rX, h1, rm, h2, e1, e2, cs⟩ := cs_set a1 a2 a3 h i gi
  exact ⟨rX, h1, rm, h2, e1, e2, cs, rla_cs (fpX_set a1 a2 a3 h e1) (fkm_set a1 a2 a3 h1 e2) (by decide : ∀ b, b ∈ KC → b ∉ FPdX_set 0 0 0) (by decide : ∀ b, b ∈ KM → b ∉ FKdm_set 0 0 0) (by decide : ∀ b, b ∈ FPdX_set 0 0 0 → b < 104) (by decide : ∀ b, b ∈ FKdm_set 0 0 0 → 104 ≤ b) rl, trivial⟩
theorem rl_act (a1 a2 a3 : Int32) (h : PH) (i : IM h) (gi : GI h) (rl : RLA h) : ∃ rX h1 rm h2, mX_act a1 a2 a3 h = some (rX, h1) ∧ mm_act a1 a2 a3 h1 = some (rm, h2) ∧ CS h h1 h2 ∧ RLA h2 ∧ True := by
  obtain ⟨rX, h1, rm, h2, e1, e2, cs⟩ := cs_act a1 a2 a3 h i gi
  exact ⟨rX, h1, rm, h2, e1, e2, cs, rla_cs (fpX_act a1 a2 a3 h e1) (fkm_act a1 a2 a3 h1 e2) (by decide : ∀ b, b ∈ KC → b ∉ FPdX_act 0 0 0) (by decide : ∀ b, b ∈ KM → b ∉ FKdm_act 0 0 0) (by decide : ∀ b, b ∈ FPdX_act 0 0 0 → b < 104) (by decide : ∀ b, b ∈ FKdm_act 0 0 0 → 104 ≤ b) rl, trivial⟩
theorem rl_quarters (a1 : Int32) (h : PH) (i : IM h) (gi : GI h) (rl : RLA h) : ∃ rX h1 rm h2, mX_quarters a1 h = some (rX, h1) ∧ mm_quarters a1 h1 = some (rm, h2) ∧ CS h h1 h2 ∧ RLA h2 ∧ True := by
  obtain ⟨rX, h1, rm, h2, e1, e2, cs⟩ := cs_quarters a1 h i gi
  exact ⟨rX, h1, rm, h2, e1, e2, cs, rla_cs (fpX_quarters a1 h e1) (fkm_quarters a1 h1 e2) (by decide : ∀ b, b ∈ KC → b ∉ FPdX_quarters 0) (by decide : ∀ b, b ∈ KM → b ∉ FKdm_quarters 0) (by decide : ∀ b, b ∈ FPdX_quarters 0 → b < 104) (by decide : ∀ b, b ∈ FKdm_quarters 0 → 104 ≤ b) rl, trivial⟩
theorem rl_fault (a1 : Int32) (h : PH) (i : IM h) (gi : GI h) (rl : RLA h) : ∃ rX rm h2, mX_fault a1 h = some rX ∧ mm_fault a1 h = some (rm, h2) ∧ CS h h h2 ∧ RLA h2 ∧ True := by
  obtain ⟨rX, rm, h2, e1, e2, cs⟩ := cs_fault a1 h i gi
  exact ⟨rX, rm, h2, e1, e2, cs, rla_cs (S := []) (fun _ _ => rfl) (fkm_fault a1 h e2) (by decide) (by decide : ∀ b, b ∈ KM → b ∉ FKdm_fault 0) (by decide) (by decide : ∀ b, b ∈ FKdm_fault 0 → 104 ≤ b) rl, trivial⟩
theorem rl_of (a1 a2 : Int32) (h : PH) (i : IM h) (gi : GI h) (rl : RLA h) : ∃ rX h1 rm h2, mX_of a1 a2 h = some (rX, h1) ∧ mm_of a1 a2 h1 = some (rm, h2) ∧ CS h h1 h2 ∧ RLA h2 ∧ True := by
  obtain ⟨rX, h1, rm, h2, e1, e2, cs⟩ := cs_of a1 a2 h i gi
  exact ⟨rX, h1, rm, h2, e1, e2, cs, rla_cs (fpX_of a1 a2 h e1) (fkm_of a1 a2 h1 e2) (by decide : ∀ b, b ∈ KC → b ∉ FPdX_of 0 0) (by decide : ∀ b, b ∈ KM → b ∉ FKdm_of 0 0) (by decide : ∀ b, b ∈ FPdX_of 0 0 → b < 104) (by decide : ∀ b, b ∈ FKdm_of 0 0 → 104 ≤ b) rl, trivial⟩
theorem rl_book (a1 a2 : Int32) (h : PH) (i : IM h) (gi : GI h) (rl : RLA h) : ∃ rX rm h2, mX_book a1 a2 h = some rX ∧ mm_book a1 a2 h = some (rm, h2) ∧ CS h h h2 ∧ RLA h2 ∧ True := by
  obtain ⟨rX, rm, h2, e1, e2, cs⟩ := cs_book a1 a2 h i gi
  exact ⟨rX, rm, h2, e1, e2, cs, rla_cs (S := []) (fun _ _ => rfl) (fkm_book a1 a2 h e2) (by decide) (by decide : ∀ b, b ∈ KM → b ∉ FKdm_book 0 0) (by decide) (by decide : ∀ b, b ∈ FKdm_book 0 0 → 104 ≤ b) rl, trivial⟩
theorem rl_goes (a1 a2 : Int32) (h : PH) (i : IM h) (gi : GI h) (rl : RLA h) : ∃ rX h1 rm h2, mX_goes a1 a2 h = some (rX, h1) ∧ mm_goes a1 a2 h1 = some (rm, h2) ∧ CS h h1 h2 ∧ RLA h2 ∧ True := by
  obtain ⟨rX, h1, rm, h2, e1, e2, cs⟩ := cs_goes a1 a2 h i gi
  exact ⟨rX, h1, rm, h2, e1, e2, cs, rla_cs (fpX_goes a1 a2 h e1) (fkm_goes a1 a2 h1 e2) (by decide : ∀ b, b ∈ KC → b ∉ FPdX_goes 0 0) (by decide : ∀ b, b ∈ KM → b ∉ FKdm_goes 0 0) (by decide : ∀ b, b ∈ FPdX_goes 0 0 → b < 104) (by decide : ∀ b, b ∈ FKdm_goes 0 0 → 104 ≤ b) rl, trivial⟩
theorem rl_stands (a1 : Int32) (h : PH) (i : IM h) (gi : GI h) (rl : RLA h) : ∃ rX h1 rm h2, mX_stands a1 h = some (rX, h1) ∧ mm_stands a1 h1 = some (rm, h2) ∧ CS h h1 h2 ∧ RLA h2 ∧ True := by
  obtain ⟨rX, h1, rm, h2, e1, e2, cs⟩ := cs_stands a1 h i gi
  exact ⟨rX, h1, rm, h2, e1, e2, cs, rla_cs (fpX_stands a1 h e1) (fkm_stands a1 h1 e2) (by decide : ∀ b, b ∈ KC → b ∉ FPdX_stands 0) (by decide : ∀ b, b ∈ KM → b ∉ FKdm_stands 0) (by decide : ∀ b, b ∈ FPdX_stands 0 → b < 104) (by decide : ∀ b, b ∈ FKdm_stands 0 → 104 ≤ b) rl, trivial⟩
theorem rl_hears (a1 a2 : Int32) (h : PH) (i : IM h) (gi : GI h) (rl : RLA h) : ∃ rX h1 rm h2, mX_hears a1 a2 h = some (rX, h1) ∧ mm_hears a1 a2 h1 = some (rm, h2) ∧ CS h h1 h2 ∧ RLA h2 ∧ True := by
  obtain ⟨rX, h1, rm, h2, e1, e2, cs⟩ := cs_hears a1 a2 h i gi
  exact ⟨rX, h1, rm, h2, e1, e2, cs, rla_cs (fpX_hears a1 a2 h e1) (fkm_hears a1 a2 h1 e2) (by decide : ∀ b, b ∈ KC → b ∉ FPdX_hears 0 0) (by decide : ∀ b, b ∈ KM → b ∉ FKdm_hears 0 0) (by decide : ∀ b, b ∈ FPdX_hears 0 0 → b < 104) (by decide : ∀ b, b ∈ FKdm_hears 0 0 → 104 ≤ b) rl, trivial⟩
theorem rl_heard (a1 a2 : Int32) (h : PH) (i : IM h) (gi : GI h) (rl : RLA h) : ∃ rX h1 rm h2, mX_heard a1 a2 h = some (rX, h1) ∧ mm_heard a1 a2 h1 = some (rm, h2) ∧ CS h h1 h2 ∧ RLA h2 ∧ True := by
  obtain ⟨rX, h1, rm, h2, e1, e2, cs⟩ := cs_heard a1 a2 h i gi
  exact ⟨rX, h1, rm, h2, e1, e2, cs, rla_cs (fpX_heard a1 a2 h e1) (fkm_heard a1 a2 h1 e2) (by decide : ∀ b, b ∈ KC → b ∉ FPdX_heard 0 0) (by decide : ∀ b, b ∈ KM → b ∉ FKdm_heard 0 0) (by decide : ∀ b, b ∈ FPdX_heard 0 0 → b < 104) (by decide : ∀ b, b ∈ FKdm_heard 0 0 → 104 ≤ b) rl, trivial⟩
theorem rl_ants (a1 a2 : Int32) (h : PH) (i : IM h) (gi : GI h) (rl : RLA h) : ∃ rX h1 rm h2, mX_ants a1 a2 h = some (rX, h1) ∧ mm_ants a1 a2 h1 = some (rm, h2) ∧ CS h h1 h2 ∧ RLA h2 ∧ True := by
  obtain ⟨rX, h1, rm, h2, e1, e2, cs⟩ := cs_ants a1 a2 h i gi
  exact ⟨rX, h1, rm, h2, e1, e2, cs, rla_cs (fpX_ants a1 a2 h e1) (fkm_ants a1 a2 h1 e2) (by decide : ∀ b, b ∈ KC → b ∉ FPdX_ants 0 0) (by decide : ∀ b, b ∈ KM → b ∉ FKdm_ants 0 0) (by decide : ∀ b, b ∈ FPdX_ants 0 0 → b < 104) (by decide : ∀ b, b ∈ FKdm_ants 0 0 → 104 ≤ b) rl, trivial⟩
theorem rl_plate (a1 a2 : Int32) (h : PH) (i : IM h) (gi : GI h) (rl : RLA h) : ∃ rX rm h2, mX_plate a1 a2 h = some rX ∧ mm_plate a1 a2 h = some (rm, h2) ∧ CS h h h2 ∧ RLA h2 ∧ True := by
  obtain ⟨rX, rm, h2, e1, e2, cs⟩ := cs_plate a1 a2 h i gi
  exact ⟨rX, rm, h2, e1, e2, cs, rla_cs (S := []) (fun _ _ => rfl) (fkm_plate a1 a2 h e2) (by decide) (by decide : ∀ b, b ∈ KM → b ∉ FKdm_plate 0 0) (by decide) (by decide : ∀ b, b ∈ FKdm_plate 0 0 → 104 ≤ b) rl, trivial⟩
theorem rl_pans (a1 a2 : Int32) (h : PH) (i : IM h) (gi : GI h) (rl : RLA h) : ∃ rX h1 rm h2, mX_pans a1 a2 h = some (rX, h1) ∧ mm_pans a1 a2 h1 = some (rm, h2) ∧ CS h h1 h2 ∧ RLA h2 ∧ True := by
  obtain ⟨rX, h1, rm, h2, e1, e2, cs⟩ := cs_pans a1 a2 h i gi
  exact ⟨rX, h1, rm, h2, e1, e2, cs, rla_cs (fpX_pans a1 a2 h e1) (fkm_pans a1 a2 h1 e2) (by decide : ∀ b, b ∈ KC → b ∉ FPdX_pans 0 0) (by decide : ∀ b, b ∈ KM → b ∉ FKdm_pans 0 0) (by decide : ∀ b, b ∈ FPdX_pans 0 0 → b < 104) (by decide : ∀ b, b ∈ FKdm_pans 0 0 → 104 ≤ b) rl, trivial⟩
theorem rl_mortgage (a1 a2 a3 a4 : Int32) (h : PH) (i : IM h) (gi : GI h) (rl : RLA h) : ∃ rX rm h2, mX_mortgage a1 a2 a3 a4 h = some rX ∧ mm_mortgage a1 a2 a3 a4 h = some (rm, h2) ∧ CS h h h2 ∧ RLA h2 ∧ True := by
  obtain ⟨rX, rm, h2, e1, e2, cs⟩ := cs_mortgage a1 a2 a3 a4 h i gi
  exact ⟨rX, rm, h2, e1, e2, cs, rla_cs (S := []) (fun _ _ => rfl) (fkm_mortgage a1 a2 a3 a4 h e2) (by decide) (by decide : ∀ b, b ∈ KM → b ∉ FKdm_mortgage 0 0 0 0) (by decide) (by decide : ∀ b, b ∈ FKdm_mortgage 0 0 0 0 → 104 ≤ b) rl, trivial⟩
theorem rl_measures (a1 : Int32) (h : PH) (i : IM h) (gi : GI h) (rl : RLA h) : ∃ rX rm h2, mX_measures a1 h = some rX ∧ mm_measures a1 h = some (rm, h2) ∧ CS h h h2 ∧ RLA h2 ∧ True := by
  obtain ⟨rX, rm, h2, e1, e2, cs⟩ := cs_measures a1 h i gi
  exact ⟨rX, rm, h2, e1, e2, cs, rla_cs (S := []) (fun _ _ => rfl) (fkm_measures a1 h e2) (by decide) (by decide : ∀ b, b ∈ KM → b ∉ FKdm_measures 0) (by decide) (by decide : ∀ b, b ∈ FKdm_measures 0 → 104 ≤ b) rl, trivial⟩
theorem rl_whose (a1 a2 : Int32) (h : PH) (i : IM h) (gi : GI h) (rl : RLA h) : ∃ rX rm h2, mX_whose a1 a2 h = some rX ∧ mm_whose a1 a2 h = some (rm, h2) ∧ CS h h h2 ∧ RLA h2 ∧ True := by
  obtain ⟨rX, rm, h2, e1, e2, cs⟩ := cs_whose a1 a2 h i gi
  exact ⟨rX, rm, h2, e1, e2, cs, rla_cs (S := []) (fun _ _ => rfl) (fkm_whose a1 a2 h e2) (by decide) (by decide : ∀ b, b ∈ KM → b ∉ FKdm_whose 0 0) (by decide) (by decide : ∀ b, b ∈ FKdm_whose 0 0 → 104 ≤ b) rl, trivial⟩
theorem rl_crumbs (a1 : Int32) (h : PH) (i : IM h) (gi : GI h) (rl : RLA h) : ∃ rX h1 rm h2, mX_crumbs a1 h = some (rX, h1) ∧ mm_crumbs a1 h1 = some (rm, h2) ∧ CS h h1 h2 ∧ RLA h2 ∧ True := by
  obtain ⟨rX, h1, rm, h2, e1, e2, cs⟩ := cs_crumbs a1 h i gi
  exact ⟨rX, h1, rm, h2, e1, e2, cs, rla_cs (fpX_crumbs a1 h e1) (fkm_crumbs a1 h1 e2) (by decide : ∀ b, b ∈ KC → b ∉ FPdX_crumbs 0) (by decide : ∀ b, b ∈ KM → b ∉ FKdm_crumbs 0) (by decide : ∀ b, b ∈ FPdX_crumbs 0 → b < 104) (by decide : ∀ b, b ∈ FKdm_crumbs 0 → 104 ≤ b) rl, trivial⟩
theorem rl_ovens (a1 : Int32) (h : PH) (i : IM h) (gi : GI h) (rl : RLA h) : ∃ rX rm h2, mX_ovens a1 h = some rX ∧ mm_ovens a1 h = some (rm, h2) ∧ CS h h h2 ∧ RLA h2 ∧ True := by
  obtain ⟨rX, rm, h2, e1, e2, cs⟩ := cs_ovens a1 h i gi
  exact ⟨rX, rm, h2, e1, e2, cs, rla_cs (S := []) (fun _ _ => rfl) (fkm_ovens a1 h e2) (by decide) (by decide : ∀ b, b ∈ KM → b ∉ FKdm_ovens 0) (by decide) (by decide : ∀ b, b ∈ FKdm_ovens 0 → 104 ≤ b) rl, trivial⟩
theorem rl_alone (a1 : Int32) (h : PH) (i : IM h) (gi : GI h) (rl : RLA h) : ∃ rX h1 rm h2, mX_alone a1 h = some (rX, h1) ∧ mm_alone a1 h1 = some (rm, h2) ∧ CS h h1 h2 ∧ RLA h2 ∧ True := by
  obtain ⟨rX, h1, rm, h2, e1, e2, cs⟩ := cs_alone a1 h i gi
  exact ⟨rX, h1, rm, h2, e1, e2, cs, rla_cs (fpX_alone a1 h e1) (fkm_alone a1 h1 e2) (by decide : ∀ b, b ∈ KC → b ∉ FPdX_alone 0) (by decide : ∀ b, b ∈ KM → b ∉ FKdm_alone 0) (by decide : ∀ b, b ∈ FPdX_alone 0 → b < 104) (by decide : ∀ b, b ∈ FKdm_alone 0 → 104 ≤ b) rl, trivial⟩
theorem rl_line (a1 a2 : Int32) (h : PH) (i : IM h) (gi : GI h) (rl : RLA h) : ∃ rX rm h2, mX_line a1 a2 h = some rX ∧ mm_line a1 a2 h = some (rm, h2) ∧ CS h h h2 ∧ RLA h2 ∧ True := by
  obtain ⟨rX, rm, h2, e1, e2, cs⟩ := cs_line a1 a2 h i gi
  exact ⟨rX, rm, h2, e1, e2, cs, rla_cs (S := []) (fun _ _ => rfl) (fkm_line a1 a2 h e2) (by decide) (by decide : ∀ b, b ∈ KM → b ∉ FKdm_line 0 0) (by decide) (by decide : ∀ b, b ∈ FKdm_line 0 0 → 104 ≤ b) rl, trivial⟩
theorem rl_window (a1 : Int32) (h : PH) (i : IM h) (gi : GI h) (rl : RLA h) : ∃ rX rm h2, mX_window a1 h = some rX ∧ mm_window a1 h = some (rm, h2) ∧ CS h h h2 ∧ RLA h2 ∧ True := by
  obtain ⟨rX, rm, h2, e1, e2, cs⟩ := cs_window a1 h i gi
  exact ⟨rX, rm, h2, e1, e2, cs, rla_cs (S := []) (fun _ _ => rfl) (fkm_window a1 h e2) (by decide) (by decide : ∀ b, b ∈ KM → b ∉ FKdm_window 0) (by decide) (by decide : ∀ b, b ∈ FKdm_window 0 → 104 ≤ b) rl, trivial⟩
theorem rl_council (a1 : Int32) (h : PH) (i : IM h) (gi : GI h) (rl : RLA h) : ∃ rX rm h2, mX_council a1 h = some rX ∧ mm_council a1 h = some (rm, h2) ∧ CS h h h2 ∧ RLA h2 ∧ True := by
  obtain ⟨rX, rm, h2, e1, e2, cs⟩ := cs_council a1 h i gi
  exact ⟨rX, rm, h2, e1, e2, cs, rla_cs (S := []) (fun _ _ => rfl) (fkm_council a1 h e2) (by decide) (by decide : ∀ b, b ∈ KM → b ∉ FKdm_council 0) (by decide) (by decide : ∀ b, b ∈ FKdm_council 0 → 104 ≤ b) rl, trivial⟩
theorem rl_game (a1 a2 : Int32) (h : PH) (i : IM h) (gi : GI h) (rl : RLA h) : ∃ rX h1 rm h2, mX_game a1 a2 h = some (rX, h1) ∧ mm_game a1 a2 h1 = some (rm, h2) ∧ CS h h1 h2 ∧ RLA h2 ∧ True := by
  obtain ⟨rX, h1, rm, h2, e1, e2, cs⟩ := cs_game a1 a2 h i gi
  exact ⟨rX, h1, rm, h2, e1, e2, cs, rla_cs (fpX_game a1 a2 h e1) (fkm_game a1 a2 h1 e2) (by decide : ∀ b, b ∈ KC → b ∉ FPdX_game 0 0) (by decide : ∀ b, b ∈ KM → b ∉ FKdm_game 0 0) (by decide : ∀ b, b ∈ FPdX_game 0 0 → b < 104) (by decide : ∀ b, b ∈ FKdm_game 0 0 → 104 ≤ b) rl, trivial⟩
theorem rl_undo (h : PH) (i : IM h) (gi : GI h) (rl : RLA h) : ∃ rX h1 rm h2, mX_undo h = some (rX, h1) ∧ mm_undo h1 = some (rm, h2) ∧ CS h h1 h2 ∧ RLA h2 ∧ True := by
  obtain ⟨rX, h1, rm, h2, e1, e2, cs⟩ := cs_undo h i gi
  exact ⟨rX, h1, rm, h2, e1, e2, cs, rla_cs (fpX_undo h e1) (fkm_undo h1 e2) (by decide : ∀ b, b ∈ KC → b ∉ FPdX_undo) (by decide : ∀ b, b ∈ KM → b ∉ FKdm_undo) (by decide : ∀ b, b ∈ FPdX_undo → b < 104) (by decide : ∀ b, b ∈ FKdm_undo → 104 ≤ b) rl, trivial⟩
theorem rl_look (a1 : Int32) (h : PH) (i : IM h) (gi : GI h) (rl : RLA h) : ∃ rX rm h2, mX_look a1 h = some rX ∧ mm_look a1 h = some (rm, h2) ∧ CS h h h2 ∧ RLA h2 ∧ True := by
  obtain ⟨rX, rm, h2, e1, e2, cs⟩ := cs_look a1 h i gi
  exact ⟨rX, rm, h2, e1, e2, cs, rla_cs (S := []) (fun _ _ => rfl) (fkm_look a1 h e2) (by decide) (by decide : ∀ b, b ∈ KM → b ∉ FKdm_look 0) (by decide) (by decide : ∀ b, b ∈ FKdm_look 0 → 104 ≤ b) rl, trivial⟩
