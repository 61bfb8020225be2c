/-! CONDITIONS, on both sides -/
def nO : List Nat → Nat
  | [] => 0
  | x :: S => (if x = 9 ∨ x = 12 then 1 else 0) + nO S
def aS (S : List Nat) : Prop := ∀ x, x ∈ S → x < 100
theorem aS_c {x : Nat} {S : List Nat} (hx : x < 100) (a : aS S) : aS (x :: S) := fun y hy => by
  rcases List.mem_cons.mp hy with e | e
  · rw [e]; exact hx
  · exact a y e
theorem tn_c {x y : Nat} {S : List Nat} (hy : y < 100) (n : y ≠ x) : TN (y :: S) x := fun z S' e => by
  cases e
  exact ⟨hy, n⟩
theorem nO_rep (k : Nat) (S : List Nat) : nO (List.replicate k 9 ++ S) = k + nO S := by
  induction k with
  | zero => show nO S = 0 + nO S; omega
  | succ k ih =>
    show (if (9 : Nat) = 9 ∨ (9 : Nat) = 12 then 1 else 0) + nO (List.replicate k 9 ++ S) = _
    rw [if_pos (Or.inl rfl), ih]
    omega
theorem dec9 : ∀ S : List Nat, aS S → ∃ k S', S = List.replicate k 9 ++ S' ∧ TN S' 9 := by
  intro S
  induction S with
  | nil => intro _; exact ⟨0, [], rfl, fun y S' e => by cases e⟩
  | cons x S ih =>
    intro a
    by_cases c : x = 9
    · obtain ⟨k, S', e, t⟩ := ih (fun y hy => a y (List.mem_cons_of_mem _ hy))
      exact ⟨k + 1, S', by rw [c, e]; rfl, t⟩
    · exact ⟨0, x :: S, rfl, tn_c (a x List.mem_cons_self) c⟩
theorem xp_rep (k : Nat) : xp (List.replicate k (9, 0)) = List.replicate k (9, 0) := by
  induction k with
  | zero => rfl
  | succ k ih => rw [List.replicate_succ, xp, if_neg (by decide), ih]
/-- both at token i: the class with codes C, the model with D, its stack S, o open -/
def JZ (B : Nat → Nat) (L N i : Nat) (C D : List (Nat × Nat)) (S : List Nat) (o : Nat) (hc hm : PH) : Prop := CU 0 B L N i hc ∧ CC C hc ∧ MZ B L i (xp D) S o hm
theorem jz_jj {B : Nat → Nat} {L N i : Nat} {C : List (Nat × Nat)} {S : List Nat} {o : Nat} {hc hm : PH} (j : JZ B L N i C C S o hc hm) : JJ 0 B L N i S.length C hc hm := ⟨j.1, j.2.2.1, j.2.1, j.2.2.2.1, j.2.2.2.2.2.2.1⟩
theorem mz_open {B : Nat → Nat} {L i : Nat} {D : List (Nat × Nat)} {S : List Nat} {o : Nat} {h : PH} (z : MZ B L i D S o h) (o' : Nat) : MZ B L i D S o' (up h 104 26 (nI o')) := by
  obtain ⟨z1, z2, z3, z4, z5, z6⟩ := z
  exact ⟨mu_of z1 (up_cell (by decide)) (up_cell (by decide)) (fun j _ _ => up_oj (by omega)), mc_of z2 (up_cell (by decide)) (up_cell (by decide)) (up_oj (by decide)), ms_of z3 (up_cell (by decide)) (up_oj (by decide)), up_same, z5, z6⟩
def OKc (B : Nat → Nat) (L N i : Nat) (C : List (Nat × Nat)) (k : Nat) (S' : List Nat) (o t b : Nat) (hc hm : PH) (rc rm : Option (Int32 × PH)) : Prop := ∃ j A gc gm nM', i < j ∧ rc = some (1, gc) ∧ rm = RA nM' (nI b) 0 gm ∧ N < nM' + j ∧ JZ B L N j (C ++ A) (C ++ A ++ List.replicate k (9, 0)) S' o gc gm ∧ Qv P01 t A ∧ FC hc gc ∧ FM hm gm
def OKd (B : Nat → Nat) (L N i : Nat) (C : List (Nat × Nat)) (S : List Nat) (o t b : Nat) (hc hm : PH) (rc rm : Option (Int32 × PH)) : Prop := ∃ j A gc gm nM', i < j ∧ rc = some (1, gc) ∧ rm = EL nM' (nI b) gm ∧ N ≤ nM' + j ∧ JZ B L N j (C ++ A) (C ++ A) S o gc gm ∧ Qv P01 t A ∧ FC hc gc ∧ FM hm gm
def ERR (hc hm : PH) (rc rm : Option (Int32 × PH)) : Prop := ∃ gc gm, rc = some (0, gc) ∧ rm = some (-1, gm) ∧ FF gc gm ∧ FC hc gc ∧ FM hm gm
theorem err_of {B : Nat → Nat} {L N i w : Nat} {C : List (Nat × Nat)} {hc hm hc0 hm0 : PH} (j : JJ 0 B L N i w C hc hm) (p : Int32) (a : FC hc0 hc) (b : FM hm0 hm) {rc rm : Option (Int32 × PH)} (ec : rc = refC p hc) (em : rm = bd2 (mm_errs p hm) fun r h => some (r, h)) : ERR hc0 hm0 rc rm := by
  obtain ⟨gc, gm, r1, r2, r3, r4, r5⟩ := j_ref j p
  unfold refC at ec
  rw [r1, bd2_e] at ec
  rw [r2, bd2_e] at em
  exact ⟨gc, gm, ec, em, r3, fc_t a r4, fm_t b (fm_x r5)⟩
def CLP (B : Nat → Nat) (L N n : Nat) : Prop := ∀ (p b i nM : Nat) (C : List (Nat × Nat)) (S : List Nat) (k : Nat) (S' : List Nat) (hc hm : PH), p ≤ 8 → b ≤ p → 2 * (8 - p) + 1 ≤ n → nO S = p → S.length ≤ 3 * p + 2 → aS S → S = List.replicate k 9 ++ S' → TN S' 9 → JZ B L N i C C S p hc hm → N < nM + i → OKc B L N i C k S' (p - k) (2 * (8 - p) + 4) b hc hm (mD_cc n false (nI p) hc) (RA nM (nI b) 1 hm) ∨ ERR hc hm (mD_cc n false (nI p) hc) (RA nM (nI b) 1 hm)
def CNP (B : Nat → Nat) (L N n : Nat) : Prop := ∀ (p b i nM : Nat) (C : List (Nat × Nat)) (S : List Nat) (hc hm : PH), p ≤ 8 → b ≤ p → 2 * (8 - p) + 2 ≤ n → nO S = p → S.length ≤ 3 * p → aS S → TN S 9 → TN S 10 → TN S 11 → JZ B L N i C C S p hc hm → N < nM + i → OKd B L N i C S p (2 * (8 - p) + 6) b hc hm (mD_cc n true (nI p) hc) (RA nM (nI b) 1 hm) ∨ ERR hc hm (mD_cc n true (nI p) hc) (RA nM (nI b) 1 hm)
theorem cc_em {B : Nat → Nat} {L N i : Nat} {C : List (Nat × Nat)} {hc : PH} (cu : CU 0 B L N i hc) (cc : CC C hc) (hl : C.length < 400) (k : Nat) : ∃ gc, mD_emit (nI k) 0 hc = some (1, gc) ∧ CU 0 B L N i gc ∧ CC (C ++ [(k, 0)]) gc ∧ FC hc gc := by
  obtain ⟨gc, a1, a2, a3⟩ := cc_add cc hl k 0
  exact ⟨gc, em_at a1, cu_b cu a3, a2, ⟨fun b _ b2 b3 => a3 b b2 b3, by rw [a3 90 (by decide) (by decide)]⟩⟩
theorem cu_ad {B : Nat → Nat} {L N i : Nat} {C : List (Nat × Nat)} {hc : PH} (cu : CU 0 B L N i hc) (cc : CC C hc) (n0 : (tt B L i).1 ≠ 0) : mD_advance hc = some (avH hc (i + 1)) ∧ CU 0 B L N (i + 1) (avH hc (i + 1)) ∧ CC C (avH hc (i + 1)) ∧ FC hc (avH hc (i + 1)) ∧ i < 400 := by
  have l := cu_lt cu n0
  have N4 := cu.1.2.1
  obtain ⟨a1, a2⟩ := cu_adv cu l
  exact ⟨a1, a2, cc_b cc (avH_b hc _ 93 (by decide)) (avH_b hc _ 94 (by decide)), fc_av hc _, by omega⟩
theorem xl_rep (C : List (Nat × Nat)) (k : Nat) : (xp (C ++ List.replicate k (9, 0))).length = (xp C).length + k := by
  rw [xp_app, xp_rep, List.length_append, List.length_replicate]
/-- the NOTs that wait are put behind -/
theorem nots {B : Nat → Nat} {L i : Nat} {D : List (Nat × Nat)} {S S' : List Nat} {p k : Nat} {h : PH} (z : MZ B L i (xp D) S p h) (e : S = List.replicate k 9 ++ S') (t : TN S' 9) (hp : p ≤ 8) (hn : nO S = p) : ∃ g, mm_settles 9 h = some g ∧ MZ B L i (xp (D ++ List.replicate k (9, 0))) S' (p - k) g ∧ FM h g := by
  have kp : k ≤ p := by rw [← hn, e, nO_rep]; omega
  rw [e] at z
  obtain ⟨g, g1, g2, g3⟩ := se_k (x := 9) (by decide) t k (xp D) p h (by omega) (fun _ => kp) (by omega) z
  rw [if_pos rfl] at g2
  refine ⟨g, g1, ?_, g3⟩
  rw [xp_app, xp_rep]
  exact g2
theorem cl_step {B : Nat → Nat} {L N n : Nat} (cl : CLP B L N n) (cn : CNP B L N n) : CLP B L N (n + 1) := by
  intro p b i nM C S k S' hc hm hp hb hn ho hS haS eS tS j hM
  have iN := j.1.2.1
  have ccd : mD_cc (n + 1) false (nI p) hc = mD_clause_F (mD_cc n true) (mD_cc n false) (nI p) hc := rfl
  rw [ccd]
  cases nM with
  | zero => omega
  | succ nM =>
  have cu := j.1
  have mu := j.2.2.1
  by_cases x6 : (tt B L i).1 = 2 ∧ (tt B L i).2 = 6
  · by_cases p8 : p = 8
    · refine Or.inr (err_of (jz_jj j) 3 (fc_r hc) (fm_r hm) (cl_full cu _ _ _ (Or.inl x6) (by rw [p8]; decide)) (ra_full mu (Or.inl x6) (by rw [j.2.2.2.2.2.1, p8]; rfl)))
    · obtain ⟨a1, a2, a3, a4, a5⟩ := cu_ad cu j.2.1 (by omega)
      obtain ⟨f, g, b1, b2, b3, b4⟩ := mz_push (mz_open j.2.2 (p + 1)) (by omega) a5 9
      have o1 : hm 104 26 + 1 = nI (p + 1) := by rw [j.2.2.2.2.2.1, nI_1]
      rw [cl_not cu _ _ _ x6 (nI_lt (b := 8) (by omega) (by decide)), a1, bd_e, nI_1, ra_not mu x6 (by rw [j.2.2.2.2.2.1]; exact fun z => p8 ((nI_eq (b := 8) (by omega) (by decide)).mp z)), o1, show mm_waits 9 (up hm 104 26 (nI (p + 1))) = some f from b1, bd_e, b2, bd_e]
      have mf : FM hm g := fm_t (fm_up (fm_r hm) (Or.inl rfl) _) b4
      rcases cl (p + 1) b (i + 1) nM C (9 :: S) (k + 1) S' (avH hc (i + 1)) g (by omega) (by omega) (by omega) (by show (if (9 : Nat) = 9 ∨ (9 : Nat) = 12 then 1 else 0) + nO S = _; rw [if_pos (Or.inl rfl)]; omega) (by rw [List.length_cons]; omega) (aS_c (by decide) haS) (by rw [eS]; rfl) tS ⟨a2, a3, b3⟩ (by omega) with ⟨j2, A, gc, gm, nM', r1, r2, r3, r4, ⟨r5, r6, r7⟩, r8, r9, r10⟩ | ⟨gc, gm, r1, r2, r3, r4, r5⟩
      · have bl := r7.2.2.2.2.1
        rw [xl_rep] at bl
        have le := xp_le (C ++ A)
        have j4 := r7.2.2.2.2.2
        obtain ⟨gc2, q1, q2, q3, q4⟩ := cc_em r5 r6 (by omega) 9
        refine Or.inl ⟨j2, A ++ [(9, 0)], gc2, gm, nM', by omega, ?_, r3, r4, ⟨q2, by rw [← List.append_assoc]; exact q3, ?_⟩, q_w (q_not r8) (by omega), fc_t (fc_t a4 r9) q4, fm_t mf r10⟩
        · rw [r2, bd2_e, if_neg no10]
          unfold emitC
          rw [show mD_emit 9 0 gc = some (1, gc2) from q1, bd2_e, if_neg no10]
        · have e1 : C ++ (A ++ [(9, 0)]) ++ List.replicate k (9, 0) = C ++ A ++ List.replicate (k + 1) (9, 0) := by
            rw [List.replicate_succ]
            simp only [List.append_assoc, List.singleton_append]
          rw [e1, show p - k = p + 1 - (k + 1) by omega]
          exact r7
      · exact Or.inr ⟨gc, gm, by rw [r1, bd2_e, if_pos rfl], r2, r3, fc_t a4 r4, fm_t mf r5⟩
  · by_cases x40 : (tt B L i).1 = 4 ∧ (tt B L i).2 = 40
    · by_cases p8 : p = 8
      · refine Or.inr (err_of (jz_jj j) 3 (fc_r hc) (fm_r hm) (cl_full cu _ _ _ (Or.inr x40) (by rw [p8]; decide)) (ra_full mu (Or.inr x40) (by rw [j.2.2.2.2.2.1, p8]; rfl)))
      · obtain ⟨a1, a2, a3, a4, a5⟩ := cu_ad cu j.2.1 (by omega)
        obtain ⟨f, g, b1, b2, b3, b4⟩ := mz_push (mz_open j.2.2 (p + 1)) (by omega) a5 12
        have o1 : hm 104 26 + 1 = nI (p + 1) := by rw [j.2.2.2.2.2.1, nI_1]
        rw [cl_br cu _ _ _ x40 (nI_lt (b := 8) (by omega) (by decide)), a1, bd_e, nI_1, ra_br mu x40 (by rw [j.2.2.2.2.2.1]; exact fun z => p8 ((nI_eq (b := 8) (by omega) (by decide)).mp z)), o1, show mm_waits 12 (up hm 104 26 (nI (p + 1))) = some f from b1, bd_e, b2, bd_e, nI_1]
        have mf : FM hm g := fm_t (fm_up (fm_r hm) (Or.inl rfl) _) b4
        rcases cn (p + 1) (b + 1) (i + 1) nM C (12 :: S) (avH hc (i + 1)) g (by omega) (by omega) (by omega) (by show (if (12 : Nat) = 9 ∨ (12 : Nat) = 12 then 1 else 0) + nO S = _; rw [if_pos (Or.inr rfl)]; omega) (by rw [List.length_cons]; omega) (aS_c (by decide) haS) (tn_c (by decide) (by decide)) (tn_c (by decide) (by decide)) (tn_c (by decide) (by decide)) ⟨a2, a3, b3⟩ (by omega) with ⟨j2, A, gc, gm, nM', r1, r2, r3, r4, r5, r8, r9, r10⟩ | ⟨gc, gm, r1, r2, r3, r4, r5⟩
        · rw [r2, bd2_e, if_neg no10, r3]
          unfold EL
          rw [if_neg (nI_ne0 (show 0 < b + 1 by omega) (by omega))]
          by_cases x41 : (tt B L j2).1 = 4 ∧ (tt B L j2).2 = 41
          · obtain ⟨c1, c2, c3, c4, c5⟩ := cu_ad r5.1 r5.2.1 (by omega)
            obtain ⟨z1, z2, z3, z4, z5, z6⟩ := r5.2.2
            obtain ⟨p1, p2, p3⟩ := ms_pop z3
            have zS : MZ B L j2 (xp (C ++ A)) S p (up (up gm 104 28 (nI S.length)) 104 26 (nI p)) := by
              refine mz_open (o := p + 1) ⟨mu_of z1 (up_cell (by decide)) (up_cell (by decide)) (fun j _ _ => up_oj (by omega)), mc_of z2 (up_cell (by decide)) (up_cell (by decide)) (up_oj (by decide)), p3, by rw [up_oj (by decide)]; exact z4, ?_, z6⟩ p
              rw [List.length_cons] at z5
              omega
            obtain ⟨g2, s1, s2, s3⟩ := nots zS eS tS hp ho
            obtain ⟨g3, t1, t2, t3⟩ := mz_read s2 c5
            have o2 : up gm 104 28 (nI S.length) 104 26 - 1 = nI p := by rw [up_oj (by decide), z4, nI_pred]
            refine Or.inl ⟨j2 + 1, A, avH gc (j2 + 1), g3, nM', by omega, ?_, ?_, by omega, ⟨c2, c3, t2⟩, q_w r8 (by omega), fc_t (fc_t a4 r9) c4, fm_t (fm_t mf r10) (fm_t (fm_up (fm_up (fm_r gm) (Or.inr rfl) _) (Or.inl rfl) _) (fm_t s3 t3))⟩
            · unfold mD_takesSign
              rw [show mD_isSign 41 gc = some 1 from c_s1 (x := 41) r5.1 x41 (by decide), bd_e, if_neg no10, c1, bd_e, bd2_e, if_neg no10]
            · rw [show mm_isSign 41 gm = some 1 from m_s1 (x := 41) z1 x41 (by decide), bd_e, if_neg no10, lt_e, p1, lt_e, nI_pred, lt_e, o2, s1, bd_e, t1, bd_e]
          · refine Or.inr ?_
            obtain ⟨gc2, gm2, e1, e2, e3, e4, e5⟩ := j_ref (jz_jj r5) 1
            refine ⟨gc2, gm2, ?_, ?_, e3, fc_t (fc_t a4 r9) e4, fm_t (fm_t mf r10) (fm_x e5)⟩
            · unfold mD_takesSign
              rw [show mD_isSign 41 gc = some 0 from c_s0 (x := 41) r5.1 x41 (by decide), bd_e, if_pos rfl, e1, bd2_e, bd2_e, if_pos (show nb 0 = (0 : Int32) from rfl)]
            · rw [show mm_isSign 41 gm = some 0 from m_s0 (x := 41) r5.2.2.1 x41 (by decide), bd_e, if_pos rfl]
              unfold kp1
              rw [e2, bd2_e]
        · exact Or.inr ⟨gc, gm, by rw [r1, bd2_e, if_pos rfl], r2, r3, fc_t a4 r4, fm_t mf r5⟩
    · rw [cl_cmp cu _ _ _ x6 x40, ra_cmp mu x6 x40]
      rcases cp_sim (jz_jj j) with ⟨j2, A, gc, gm, e1, e2, e3, e4, e5, e6, e7⟩ | ⟨gc, gm, e1, e2, e3, e4, e5⟩
      · have zS : MZ B L j2 (xp (C ++ A)) S p gm := ⟨e4.2.1, e4.2.2.2.1, ms_of j.2.2.2.2.1 (e7.1 120 (by decide) (by decide) (by decide)) (e7.2 28 (by decide) (by decide) (by decide) (by decide) (by decide) (by decide) (by decide)), by rw [e7.2 26 (by decide) (by decide) (by decide) (by decide) (by decide) (by decide) (by decide)]; exact j.2.2.2.2.2.1, e4.2.2.2.2, by have := e4.1.2.1; have := e4.1.1.2.1; omega⟩
        obtain ⟨g2, s1, s2, s3⟩ := nots zS eS tS hp ho
        exact Or.inl ⟨j2, A, gc, g2, nM, e3, e1, by rw [e2, bd2_e, if_neg (show ¬ (0 : Int32) = -1 by decide), s1, bd_e], by omega, ⟨e4.1, e4.2.2.1, s2⟩, q_w e5 (by omega), e6, fm_t (fm_x e7) s3⟩
      · exact Or.inr ⟨gc, gm, e1, by rw [e2, bd2_e, if_pos rfl], e3, e4, fm_x e5⟩
