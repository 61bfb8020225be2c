/-! SAFETY of the model's image: the law goes in or comes back -/
theorem stC_c {op arg op' arg' : Nat → Int32} (hc : ∀ k, k < 400 → op' k = op k ∧ arg' k = arg k) (f k d : Nat) (hk : k < 400) : stC op' arg' f k d = stC op arg f k d := by
  unfold stC
  rw [(hc k hk).1, (hc k hk).2, (hc (k - 1) (by omega)).1, (hc (k - 1) (by omega)).2]
theorem dep_c {op arg op' arg' : Nat → Int32} (hc : ∀ k, k < 400 → op' k = op k ∧ arg' k = arg k) (f : Nat) : ∀ (m k d : Nat), k + m ≤ 400 → dep op' arg' f m k d = dep op arg f m k d := by
  intro m
  induction m with
  | zero => intro k d _; rfl
  | succ m ih =>
    intro k d h
    rw [dep, dep, stC_c hc f k d (by omega)]
    congr 1
    funext d'
    exact ih (k + 1) d' (by omega)
theorem LawF_c {lm lm' : Int32} {lf lw lt op arg lf' lw' lt' op' arg' : Nat → Int32} (h : LawF lm lf lw lt op arg) (hm : lm.toInt ≤ 16) (em : lm' = lm) (hl : ∀ l, l < 16 → lf' l = lf l ∧ lw' l = lw l ∧ lt' l = lt l) (hc : ∀ k, k < 400 → op' k = op k ∧ arg' k = arg k) : LawF lm' lf' lw' lt' op' arg' := by
  intro l q
  rw [em] at q
  obtain ⟨a, b, c, q1, q2, q3, q4, q5, q6, ⟨d, q7⟩, d', q8⟩ := h l q
  have l16 : l < 16 := by omega
  obtain ⟨w1, w2, w3⟩ := hl l l16
  exact ⟨a, b, c, by rw [w1]; exact q1, by rw [w2]; exact q2, by rw [w3]; exact q3, q4, q5, q6, ⟨d, by rw [dep_c hc a (b - a) a 0 (by omega)]; exact q7⟩, d', by rw [dep_c hc b (c - b) b 0 (by omega)]; exact q8⟩
def DB2 (o : PH) (t : Int32) (h : PH) : Prop := (¬ t = 0 ∧ ∀ c, 113 ≤ c → c ≤ 119 → h c = o c) ∨ (t = 0 ∧ h 148 = o 148)
def KB (o : PH) (t : Int32) (p : Nat) (h : PH) : Prop := Inv h ∧ h 104 73 = nI p ∧ h 104 71 = t ∧ DB2 o t h
theorem kb_keep {o h : PH} {C J p : Nat} {t : Int32} (st : KB o t p h) (hp : p < 2400) (es : sp C J = sp 148 p) (hC : 113 ≤ C ∧ C ≤ 119) : ∃ r h2, mm_keeps (h C J) h = some (r, h2) ∧ KB o t (p + 1) (up h2 C J r) ∧ up h2 C J r 148 p = up h2 C J r C J ∧ (∀ q, q ≠ p → up h2 C J r 148 q = h 148 q) ∧ (∀ C' J', C' ≠ 104 → C' ≠ 148 → (C' ≠ C ∨ J' ≠ J) → up h2 C J r C' J' = h C' J') := by
  obtain ⟨i, e, et, dd⟩ := st
  have i1 : Inv (up h 104 73 (nI (p + 1))) := inv_put i (show sp 104 73 = (-2147483648, 2147483647) from rfl) (r_full _)
  have n1 : ¬ 104 = C := by omega
  have n2 : ¬ 148 = C := by omega
  rw [kp_at h p _ hp e]
  by_cases c : h 104 71 = 0
  · rw [if_pos c]
    have t0 : t = 0 := by rw [← et]; exact c
    have hd : h 148 = o 148 := by
      rcases dd with q | q
      · exact absurd t0 q.1
      · exact q.2
    refine ⟨_, _, rfl, ⟨inv_up i1 (by rw [es]; exact i 148 p), ?_, ?_, Or.inr ⟨t0, ?_⟩⟩, ?_, fun q hq => ?_, fun C' J' h1 h2 h3 => ?_⟩
    · rw [up_oc n1]; exact up_same
    · rw [up_oc n1, up_oj (by decide)]; exact et
    · rw [← hd]; funext q; rw [up_oc n2, up_oc (by decide)]
    · rw [up_oc n2, up_oc (by decide), up_same]
    · rw [up_oc n2, up_oc (by decide)]
    · rw [up_at]
      by_cases w : C' = C
      · subst w
        have jn : ¬ J' = J := fun w2 => by rcases h3 with q | q; exact q rfl; exact q w2
        rw [if_pos rfl, if_neg jn, up_oc h1]
      · rw [if_neg w, up_oc h1]
  · rw [if_neg c]
    have t0 : ¬ t = 0 := by rw [← et]; exact c
    have hd : ∀ c, 113 ≤ c → c ≤ 119 → h c = o c := by
      rcases dd with q | q
      · exact q.2
      · exact absurd q.1 t0
    have vC : ∀ j, up (up (up h 104 73 (nI (p + 1))) 148 p (h C J)) C J (h C J) C j = h C j := fun j => by
      by_cases w : j = J
      · subst w; exact up_same
      · rw [up_oj w, up_oc (fun q => n2 q.symm), up_oc (fun q => n1 q.symm)]
    refine ⟨_, _, rfl, ⟨inv_up (inv_up i1 (by rw [← es]; exact i C J)) (i C J), ?_, ?_, Or.inl ⟨t0, fun c' h1 h2 => ?_⟩⟩, ?_, fun q hq => ?_, fun C' J' h1 h2 h3 => ?_⟩
    · rw [up_oc n1, up_oc (by decide)]; exact up_same
    · rw [up_oc n1, up_oc (by decide), up_oj (by decide)]; exact et
    · rw [← hd c' h1 h2]
      funext j
      by_cases w : c' = C
      · subst w; exact vC j
      · rw [up_oc w, up_oc (by omega), up_oc (by omega)]
    · rw [vC J, up_oc n2, up_same]
    · rw [up_oc n2, up_oj hq, up_oc (by decide)]
    · by_cases w : C' = C
      · subst w; exact vC J'
      · rw [up_oc w, up_oc h2, up_oc h1]
def E1 (l : Nat) (h : PH) : Prop := h 148 985 = h 113 0 ∧ ∀ j, j < l → h 148 (986 + 4 * j + 1) = h 115 j ∧ h 148 (986 + 4 * j + 2) = h 116 j ∧ h 148 (986 + 4 * j + 3) = h 117 j
def E2 (k : Nat) (h : PH) : Prop := ∀ j, j < k → h 148 (1050 + 2 * j) = h 118 j ∧ h 148 (1050 + 2 * j + 1) = h 119 j
theorem tb_l0 : ∀ k, k < 16 → sp 114 k = sp 148 (986 + 4 * k) := by decide +kernel
theorem tb_l1 : ∀ k, k < 16 → sp 115 k = sp 148 (986 + 4 * k + 1) := by decide +kernel
theorem tb_l2 : ∀ k, k < 16 → sp 116 k = sp 148 (986 + 4 * k + 1 + 1) := by decide +kernel
theorem tb_l3 : ∀ k, k < 16 → sp 117 k = sp 148 (986 + 4 * k + 1 + 1 + 1) := by decide +kernel
theorem tb_c0 : ∀ k, k < 400 → sp 118 k = sp 148 (1050 + 2 * k) := by decide +kernel
theorem tb_c1 : ∀ k, k < 400 → sp 119 k = sp 148 (1050 + 2 * k + 1) := by decide +kernel
theorem kb96 (o : PH) (t : Int32) : ∀ (n k : Nat) (h : PH), 400 < n + k → k ≤ 400 → KB o t (1050 + 2 * k) h → E1 16 h → E2 k h → Sf (mm_keepsLaw_L96 n (nI k) h) (fun g => KB o t 1850 g ∧ E1 16 g ∧ E2 400 g) := by
  intro n
  induction n with
  | zero => intro k h h1 h2; omega
  | succ n ih =>
    intro k h h1 h2 st e1 e2
    rw [mm_keepsLaw_L96]
    by_cases hk1 : k = 400
    · subst hk1
      rw [if_pos (show (400 : Int32) ≤ nI 400 by decide)]
      exact s_some ⟨st, e1, e2⟩
    · rw [if_neg (show ¬ (400 : Int32) ≤ nI k from nI_ge (b := 400) (by omega) (by omega))]
      have ixk : ix (nI k) = k := nI_clamp (by omega)
      have ckk : ∀ {ρ : Type} (q : Option ρ), ck (nI k) 1200 q = q := fun q => ck_nI (by omega) (by omega)
      simp only [ixk, ckk]
      obtain ⟨r, g, q1, s1, a1, a2, a3⟩ := kb_keep st (by omega) (tb_c0 k (by omega)) (by decide)
      rw [q1, bd2_e, lt_e]
      generalize up g 118 k r = h3 at s1 a1 a2 a3 ⊢
      obtain ⟨r', g', q1', s1', b1, b2, b3⟩ := kb_keep s1 (by omega) (tb_c1 k (by omega)) (by decide)
      rw [q1', bd2_e, lt_e, nI_1]
      generalize up g' 119 k r' = h4 at s1' b1 b2 b3 ⊢
      have im : ∀ q, q ≠ 1050 + 2 * k → q ≠ 1050 + 2 * k + 1 → h4 148 q = h 148 q := fun q w1 w2 => by rw [b2 q w2, a2 q w1]
      have ce : ∀ C' J', C' ≠ 104 → C' ≠ 148 → (C' ≠ 118 ∨ J' ≠ k) → (C' ≠ 119 ∨ J' ≠ k) → h4 C' J' = h C' J' := fun C' J' w1 w2 w3 w4 => by rw [b3 C' J' w1 w2 w4, a3 C' J' w1 w2 w3]
      refine ih (k + 1) h4 (by omega) (by omega) s1' ⟨?_, fun j hj => ?_⟩ (fun j hj => ?_)
      · rw [im 985 (by omega) (by omega), ce 113 0 (by decide) (by decide) (Or.inl (by decide)) (Or.inl (by decide))]; exact e1.1
      · obtain ⟨u1, u2, u3⟩ := e1.2 j hj
        rw [im _ (by omega) (by omega), im _ (by omega) (by omega), im _ (by omega) (by omega), ce 115 j (by decide) (by decide) (Or.inl (by decide)) (Or.inl (by decide)), ce 116 j (by decide) (by decide) (Or.inl (by decide)) (Or.inl (by decide)), ce 117 j (by decide) (by decide) (Or.inl (by decide)) (Or.inl (by decide))]
        exact ⟨u1, u2, u3⟩
      · by_cases jk : j = k
        · subst jk
          refine ⟨?_, b1⟩
          rw [b2 _ (by omega), b3 118 j (by decide) (by decide) (Or.inl (by decide))]
          exact a1
        · obtain ⟨u1, u2⟩ := e2 j (by omega)
          rw [im _ (by omega) (by omega), im _ (by omega) (by omega), ce 118 j (by decide) (by decide) (Or.inr jk) (Or.inl (by decide)), ce 119 j (by decide) (by decide) (Or.inl (by decide)) (Or.inr jk)]
          exact ⟨u1, u2⟩
theorem kb18 (o : PH) (t : Int32) (k0 : PH → Option PH) {Q : PH → Prop} (hk : ∀ g, KB o t 1050 g → E1 16 g → Sf (k0 g) Q) : ∀ (n k : Nat) (h : PH), 16 < n + k → k ≤ 16 → KB o t (986 + 4 * k) h → E1 k h → Sf (mm_keepsLaw_L18 k0 n (nI k) h) Q := by
  intro n
  induction n with
  | zero => intro k h h1 h2; omega
  | succ n ih =>
    intro k h h1 h2 st e1
    rw [mm_keepsLaw_L18]
    by_cases hk1 : k = 16
    · subst hk1
      rw [if_pos (show (16 : Int32) ≤ nI 16 by decide)]
      exact hk h st e1
    · rw [if_neg (show ¬ (16 : Int32) ≤ nI k from nI_ge (b := 16) (by omega) (by omega))]
      have ixk : ix (nI k) = k := nI_clamp (by omega)
      have ckk : ∀ {ρ : Type} (q : Option ρ), ck (nI k) 48 q = q := fun q => ck_nI (by omega) (by omega)
      simp only [ixk, ckk]
      obtain ⟨r, g, q1, s1, a1, a2, a3⟩ := kb_keep st (by omega) (tb_l0 k (by omega)) (by decide)
      rw [q1, bd2_e, lt_e]
      generalize up g 114 k r = h3 at s1 a1 a2 a3 ⊢
      obtain ⟨r', g', q1', s2, b1, b2, b3⟩ := kb_keep s1 (by omega) (tb_l1 k (by omega)) (by decide)
      rw [q1', bd2_e, lt_e]
      generalize up g' 115 k r' = h4 at s2 b1 b2 b3 ⊢
      obtain ⟨r2, g2, q2, s3, c1, c2, c3⟩ := kb_keep s2 (by omega) (tb_l2 k (by omega)) (by decide)
      rw [q2, bd2_e, lt_e]
      generalize up g2 116 k r2 = h5 at s3 c1 c2 c3 ⊢
      obtain ⟨r4, g4, q4, s4, d1, d2, d3⟩ := kb_keep s3 (by omega) (tb_l3 k (by omega)) (by decide)
      rw [q4, bd2_e, lt_e, nI_1]
      generalize up g4 117 k r4 = h6 at s4 d1 d2 d3 ⊢
      have im : ∀ q, (q < 986 + 4 * k ∨ 986 + 4 * k + 3 < q) → h6 148 q = h 148 q := fun q w => by rw [d2 q (by omega), c2 q (by omega), b2 q (by omega), a2 q (by omega)]
      have ce : ∀ C' J', C' ≠ 104 → C' ≠ 148 → ((C' < 114 ∨ 117 < C') ∨ J' ≠ k) → h6 C' J' = h C' J' := fun C' J' w1 w2 w3 => by rw [d3 C' J' w1 w2 (by omega), c3 C' J' w1 w2 (by omega), b3 C' J' w1 w2 (by omega), a3 C' J' w1 w2 (by omega)]
      refine ih (k + 1) h6 (by omega) (by omega) s4 ⟨?_, fun j hj => ?_⟩
      · rw [im 985 (by omega), ce 113 0 (by decide) (by decide) (Or.inl (by decide))]; exact e1.1
      · by_cases jk : j = k
        · subst jk
          refine ⟨?_, ?_, d1⟩
          · rw [d2 _ (by omega), c2 _ (by omega), d3 115 j (by decide) (by decide) (Or.inl (by decide)), c3 115 j (by decide) (by decide) (Or.inl (by decide))]
            exact b1
          · rw [d2 _ (by omega), d3 116 j (by decide) (by decide) (Or.inl (by decide))]
            exact c1
        · obtain ⟨u1, u2, u3⟩ := e1.2 j (by omega)
          rw [im _ (by omega), im _ (by omega), im _ (by omega), ce 115 j (by decide) (by decide) (Or.inr jk), ce 116 j (by decide) (by decide) (Or.inr jk), ce 117 j (by decide) (by decide) (Or.inr jk)]
          exact ⟨u1, u2, u3⟩
theorem sf_keepsLaw (t : Int32) {h0 : PH} (st : IMP 985 t h0) : Sf (mm_keepsLaw h0) (fun g => IM g) := by
  obtain ⟨i, e, et⟩ := st
  have st0 : KB h0 t 985 h0 := ⟨i.1, e, et, by
    by_cases c : t = 0
    · exact Or.inr ⟨c, rfl⟩
    · exact Or.inl ⟨c, fun _ _ _ => rfl⟩⟩
  unfold mm_keepsLaw
  have ix0 : ix (0 : Int32) = 0 := rfl
  simp only [c0_2, ix0]
  obtain ⟨r, g, q1, s1, a1, a2, a3⟩ := kb_keep (C := 113) (J := 0) st0 (by decide) rfl (by decide)
  rw [q1, bd2_e, lt_e]
  generalize up g 113 0 r = h3 at s1 a1 a2 a3 ⊢
  have key := kb18 h0 t (fun h16 => mm_keepsLaw_L96 FU 0 h16) (Q := fun g => IM g) (fun g sg eg => ?_) FU 0 h3 (by unfold FU; omega) (by omega) s1 ⟨a1, fun j hj => by omega⟩
  · rw [nI_0] at key
    exact key
  · have k2 := kb96 h0 t FU 0 g (by unfold FU; omega) (by omega) sg eg (fun j hj => by omega)
    rw [nI_0] at k2
    refine s_w k2 (fun g2 hg => ?_)
    obtain ⟨⟨j1, j2, j3, j4⟩, w1, w2⟩ := hg
    have lmr : R 0 16 (g2 113 0) := inv_rng j1 rfl
    rcases j4 with ⟨t0, fr⟩ | ⟨t0, fr⟩
    · have lo : LawOK g2 := by
        unfold LawOK
        rw [fr 113 (by decide) (by decide), fr 115 (by decide) (by decide), fr 116 (by decide) (by decide), fr 117 (by decide) (by decide), fr 118 (by decide) (by decide), fr 119 (by decide) (by decide)]
        exact i.2.1
      exact ⟨j1, lo, LawF_c lo lmr.2 w1.1 (fun l hl => w1.2 l hl) (fun k hk => w2 k hk)⟩
    · have li : LawImg g2 := by
        unfold LawImg
        rw [fr]
        exact i.2.2
      exact ⟨j1, LawF_c li (by rw [w1.1]; exact lmr.2) w1.1.symm (fun l hl => ⟨(w1.2 l hl).1.symm, (w1.2 l hl).2.1.symm, (w1.2 l hl).2.2.symm⟩) (fun k hk => ⟨(w2 k hk).1.symm, (w2 k hk).2.symm⟩), li⟩
theorem sf_m_image (p1 : Int32) (hp : p1 = 0 ∨ p1 = 1) {h0 : PH} (i : IM h0) : Sf (mm_image p1 h0) (fun r => R 0 1 r.1 ∧ IM r.2) := by
  have fp : R 0 1 p1 := by
    rcases hp with q | q
    · rw [q]; exact ⟨by decide, by decide⟩
    · rw [q]; exact ⟨by decide, by decide⟩
  unfold mm_image
  rw [lt_e]
  have i1 : IM (up h0 104 0 0) := im_put i (show sp 104 0 = (-2147483648, 2147483647) from rfl) (r_full _) (by decide)
  refine s_jn0 ?_ (fun j2 k2 => ?_)
  · have kz1 : ∀ {ρ : Type} (k : Option ρ), kz p1 k = k := fun k => if_pos hp
    rw [kz1, lt_e, lt_e, lt_e]
    have i3 := im_put i1 (show sp 104 71 = (0, 1) from rfl) fp (by decide)
    have i4 := im_put i3 (show sp 104 72 = (0, 1) from rfl) (show R 0 1 (1 : Int32) from ⟨by decide, by decide⟩) (by decide)
    have i5 := im_put i4 (show sp 104 73 = (-2147483648, 2147483647) from rfl) (r_full (0 : Int32)) (by decide)
    have st : IMP (0 + 1 * 0) p1 (up (up (up (up h0 104 0 0) 104 71 p1) 104 72 1) 104 73 0) := ⟨i5, by rw [up_same]; rfl, by rw [up_oj (by decide), up_oj (by decide), up_same]⟩
    refine kl_now p1 p1 _ (fun g sg => ?_) FU 0 _ (by unfold FU; omega) (by omega) st
    refine s_bd (sf_many p1 sg) (fun h10 s10 => ?_)
    refine s_bd (sf_told p1 s10) (fun h11 s11 => ?_)
    refine kl_boo p1 p1 _ (fun g2 sg2 => ?_) FU 0 _ (by unfold FU; omega) (by omega) s11
    refine s_bd (sf_keepsLaw p1 sg2) (fun h16 i16 => ?_)
    refine s_if (fun _ => ?_) (fun _ => s_some ⟨(show R 0 1 (1 : Int32) from ⟨by decide, by decide⟩), i16⟩)
    rw [lt_e]
    exact s_some ⟨(show R 0 1 (1 : Int32) from ⟨by decide, by decide⟩), im_put i16 (show sp 104 3 = (0, 6) from rfl) ⟨by decide, by decide⟩ (by decide)⟩
  · refine s_if (fun _ => ?_) (fun _ => k2)
    exact s_if (fun _ => s_some ⟨(show R 0 1 (0 : Int32) from ⟨by decide, by decide⟩), i1⟩) (fun _ => k2)
