/-! CONDITIONS: and, or -/
def tW (w : Bool) (S : List Nat) : List Nat := (if w = true then [11] else []) ++ S
def stW (w a : Bool) (S : List Nat) : List Nat := (if a = true then [10] else []) ++ tW w S
theorem tW_l (w : Bool) (S : List Nat) : (tW w S).length ≤ S.length + 1 ∧ nO (tW w S) = nO S ∧ (w = true → 1 ≤ (tW w S).length) := by
  cases w with
  | false => exact ⟨by show S.length ≤ _; omega, rfl, fun z => by cases z⟩
  | true =>
    refine ⟨by show S.length + 1 ≤ _; omega, ?_, fun _ => by show 1 ≤ S.length + 1; omega⟩
    show (if (11 : Nat) = 9 ∨ (11 : Nat) = 12 then 1 else 0) + nO S = nO S
    rw [if_neg (by decide)]
    omega
theorem aS_t (w : Bool) {S : List Nat} (a : aS S) : aS (tW w S) := by
  cases w with
  | false => exact a
  | true => exact aS_c (by decide) a
theorem co_10 {B : Nat → Nat} {L i p : Nat} {w a : Bool} {S : List Nat} {D F : List (Nat × Nat)} {h : PH} (hp : p ≤ 8) (t10 : TN S 10) (d0 : a = false → D = F) (d1 : a = true → D ++ [(10, 0)] = F) (z : MZ B L i (xp D) (stW w a S) p h) : ∃ g, mm_settles 10 h = some g ∧ MZ B L i (xp F) (tW w S) p g ∧ FM h g := by
  have tT : TN (tW w S) 10 := by
    cases w with
    | false => exact t10
    | true => exact tn_c (by decide) (by decide)
  cases a with
  | false =>
    obtain ⟨g, g1, g2, g3⟩ := se_k (x := 10) (by decide) tT 0 (xp D) p h (by decide) (fun q => absurd q (by decide)) (by omega) z
    rw [if_neg (by decide), show xp D ++ List.replicate 0 (10, 0) = xp D from List.append_nil _, d0 rfl] at g2
    exact ⟨g, g1, g2, g3⟩
  | true =>
    obtain ⟨g, g1, g2, g3⟩ := se_k (x := 10) (by decide) tT 1 (xp D) p h (by decide) (fun q => absurd q (by decide)) (by omega) z
    rw [if_neg (by decide)] at g2
    refine ⟨g, g1, ?_, g3⟩
    rw [← d1 rfl, xp_app, xp_1 (by decide)]
    exact g2
theorem co_11 {B : Nat → Nat} {L i p : Nat} {w : Bool} {S : List Nat} {F : List (Nat × Nat)} {h : PH} (hp : p ≤ 8) (t11 : TN S 11) (z : MZ B L i (xp F) (tW w S) p h) : ∃ g, mm_settles 11 h = some g ∧ MZ B L i (xp (if w = true then F ++ [(11, 0)] else F)) S p g ∧ FM h g := by
  cases w with
  | false =>
    obtain ⟨g, g1, g2, g3⟩ := se_k (x := 11) (by decide) t11 0 (xp F) p h (by decide) (fun q => absurd q (by decide)) (by omega) z
    rw [if_neg (by decide), show xp F ++ List.replicate 0 (11, 0) = xp F from List.append_nil _] at g2
    exact ⟨g, g1, g2, g3⟩
  | true =>
    obtain ⟨g, g1, g2, g3⟩ := se_k (x := 11) (by decide) t11 1 (xp F) p h (by decide) (fun q => absurd q (by decide)) (by omega) z
    rw [if_neg (by decide)] at g2
    refine ⟨g, g1, ?_, g3⟩
    rw [if_pos rfl, xp_app, xp_1 (by decide)]
    exact g2
def vW (w : Bool) : Int32 := if w = true then 11 else -1
theorem co_loop {B : Nat → Nat} {L N n : Nat} (cl : CLP B L N n) {p b : Nat} (hp : p ≤ 8) (hb : b ≤ p) (hn : 2 * (8 - p) + 1 ≤ n) {S : List Nat} (hO : nO S = p) (hS : S.length ≤ 3 * p) (haS : aS S) (t10 : TN S 10) (t11 : TN S 11) {C : List (Nat × Nat)} {i0 : Nat} {hc0 hm0 : PH} : ∀ (m i it nM : Nat) (w a : Bool) (X Y D : List (Nat × Nat)) (hc hm : PH), N < m + i → N < nM + i → it < i → i0 < i → (w = false → X = []) → (w = true → Qv P01 (2 * (8 - p) + 6) X) → Qv P01 (2 * (8 - p) + 5) Y → (a = false → D = C ++ (X ++ Y)) → (a = true → D ++ [(10, 0)] = C ++ (X ++ Y)) → JZ B L N i (C ++ (X ++ Y)) D (stW w a S) p hc hm → FC hc0 hc → FM hm0 hm → OKd B L N i0 C S p (2 * (8 - p) + 6) b hc0 hm0 (mD_condition_L14 (nI p) (mD_cc n false) kfn m (vW w) (nI it) hc) (RA nM (nI b) 0 hm) ∨ ERR hc0 hm0 (mD_condition_L14 (nI p) (mD_cc n false) kfn m (vW w) (nI it) hc) (RA nM (nI b) 0 hm) := by
  intro m
  induction m with
  | zero => intro i it nM w a X Y D hc hm h1 _ _ _ _ _ _ _ _ j; have := j.1.2.1; omega
  | succ m ih =>
    intro i it nM w a X Y D hc hm h1 h2 h3 h4 w0 w1 qY d0 d1 j fa fb
    obtain ⟨cu, cc, z⟩ := j
    have iN := cu.2.1
    have N4 := cu.1.2.1
    have mu := z.1
    obtain ⟨tl1, tl2, tl3⟩ := tW_l w S
    cases nM with
    | zero => omega
    | succ nM =>
    obtain ⟨g, s1, s2, s3⟩ := co_10 hp t10 d0 d1 z
    by_cases x5 : (tt B L i).1 = 2 ∧ (tt B L i).2 = 5
    · obtain ⟨a1, a2, a3, a4, a5⟩ := cu_ad cu cc (by omega)
      obtain ⟨f1, f2, b1, b2, b3, b4⟩ := mz_push s2 (by omega) a5 10
      rw [cd_and cu _ it (by omega) x5, a1, bd_e, ra_and mu x5, s1, bd_e, show mm_waits 10 g = some f1 from b1, bd_e, b2, bd_e]
      unfold cdK
      rcases cl p b (i + 1) nM (C ++ (X ++ Y)) (10 :: tW w S) 0 (10 :: tW w S) (avH hc (i + 1)) f2 hp hb hn (by show (if (10 : Nat) = 9 ∨ (10 : Nat) = 12 then 1 else 0) + nO (tW w S) = p; rw [if_neg (by decide), tl2]; omega) (by rw [List.length_cons]; omega) (aS_c (by decide) (aS_t w haS)) rfl (tn_c (by decide) (by decide)) ⟨a2, a3, b3⟩ (by omega) with ⟨j2, A, gc, gm, nM', r1, r2, r3, r4, ⟨r5, r6, r7⟩, r8, r9, r10⟩ | ⟨gc, gm, r1, r2, r3, r4, r5⟩
      · rw [show C ++ (X ++ Y) ++ A ++ List.replicate 0 (9, 0) = C ++ (X ++ Y) ++ A from List.append_nil _, Nat.sub_zero] at r7
        have bl := r7.2.2.2.2.1
        have j4 := r7.2.2.2.2.2
        rw [List.length_cons] at bl
        have le := xp_le (C ++ (X ++ Y) ++ A)
        obtain ⟨gc2, q1, q2, q3, q4⟩ := cc_em r5 r6 (by omega) 10
        rw [r2, bd2_e, if_neg no10, if_pos rfl, show mD_emit 10 0 gc = some (1, gc2) from q1, bd2_e, r3]
        have eC : C ++ (X ++ (Y ++ A ++ [(10, 0)])) = C ++ (X ++ Y) ++ A ++ [(10, 0)] := by simp only [List.append_assoc]
        exact ih j2 (it + 1) nM' w true X (Y ++ A ++ [(10, 0)]) (C ++ (X ++ Y) ++ A) gc2 gm (by omega) r4 (by omega) (by omega) w0 w1 (q_bin qY r8 (by decide) (by decide) (by decide) (by decide) (Nat.le_refl _) (Nat.le_refl _) (op_lg (Or.inl rfl))) (fun q => by cases q) (fun _ => eC.symm) ⟨q2, by rw [eC]; exact q3, r7⟩ (fc_t (fc_t fa a4) (fc_t r9 q4)) (fm_t (fm_t fb (fm_t s3 b4)) r10)
      · refine Or.inr ⟨gc, gm, by rw [r1, bd2_e, if_pos rfl], r2, r3, fc_t (fc_t fa a4) r4, fm_t (fm_t fb (fm_t s3 b4)) r5⟩
    · obtain ⟨g2, u1, u2, u3⟩ := co_11 hp t11 s2
      have zz := z.2.2.2.2.1
      have key : ∃ Z, (if w = true then C ++ (X ++ Y) ++ [(11, 0)] else C ++ (X ++ Y)) = C ++ Z ∧ Qv P01 (2 * (8 - p) + 6) Z := by
        cases w with
        | false => exact ⟨X ++ Y, if_neg (by decide), by rw [w0 rfl]; exact q_w qY (by omega)⟩
        | true => exact ⟨X ++ Y ++ [(11, 0)], by rw [if_pos rfl]; simp only [List.append_assoc], q_bin (w1 rfl) qY (by decide) (by decide) (by decide) (by decide) (Nat.le_refl _) (Nat.le_refl _) (op_lg (Or.inr rfl))⟩
      obtain ⟨Z, eZ, qZ⟩ := key
      rw [eZ] at u2
      by_cases x4 : (tt B L i).1 = 2 ∧ (tt B L i).2 = 4
      · obtain ⟨a1, a2, a3, a4, a5⟩ := cu_ad cu cc (by omega)
        obtain ⟨f1, f2, b1, b2, b3, b4⟩ := mz_push u2 (by omega) a5 11
        -- the class behind the or
        have cZ : ∃ gc0, (if vW w = -1 then cdK (nI p) (mD_cc n false) m 11 it false (avH hc (i + 1)) else bd2 (mD_emit (vW w) 0 (avH hc (i + 1))) fun _ h15 => cdK (nI p) (mD_cc n false) m 11 it false h15) = cdK (nI p) (mD_cc n false) m 11 it false gc0 ∧ CU 0 B L N (i + 1) gc0 ∧ CC (C ++ Z) gc0 ∧ FC hc gc0 := by
          cases w with
          | false =>
            rw [if_neg (by decide)] at eZ
            exact ⟨avH hc (i + 1), if_pos rfl, a2, by rw [← eZ]; exact a3, a4⟩
          | true =>
            rw [if_pos rfl] at eZ
            have le := xp_le (C ++ (X ++ Y))
            have bl := s2.2.2.2.2.1
            have := tl3 rfl
            obtain ⟨gc2, q1, q2, q3, q4⟩ := cc_em a2 a3 (by omega) 11
            exact ⟨gc2, by rw [if_neg (show ¬ vW true = -1 by decide), show mD_emit (vW true) 0 (avH hc (i + 1)) = some (1, gc2) from q1, bd2_e], q2, by rw [← eZ]; exact q3, fc_t a4 q4⟩
        obtain ⟨gc0, c1, c2, c3, c4⟩ := cZ
        rw [cd_or cu _ it (by omega) x4, a1, bd_e, c1, ra_or mu x4, s1, bd_e, u1, bd_e, show mm_waits 11 g2 = some f1 from b1, bd_e, b2, bd_e]
        unfold cdK
        rcases cl p b (i + 1) nM (C ++ Z) (11 :: S) 0 (11 :: S) gc0 f2 hp hb hn (by show (if (11 : Nat) = 9 ∨ (11 : Nat) = 12 then 1 else 0) + nO S = p; rw [if_neg (by decide)]; omega) (by rw [List.length_cons]; omega) (aS_c (by decide) haS) rfl (tn_c (by decide) (by decide)) ⟨c2, c3, b3⟩ (by omega) with ⟨j2, A, gc, gm, nM', r1, r2, r3, r4, ⟨r5, r6, r7⟩, r8, r9, r10⟩ | ⟨gc, gm, r1, r2, r3, r4, r5⟩
        · rw [show C ++ Z ++ A ++ List.replicate 0 (9, 0) = C ++ Z ++ A from List.append_nil _, Nat.sub_zero] at r7
          rw [r2, bd2_e, if_neg no10, if_neg (show ¬ false = true by decide), r3]
          have eC : C ++ (Z ++ A) = C ++ Z ++ A := by rw [List.append_assoc]
          exact ih j2 (it + 1) nM' true false Z A (C ++ Z ++ A) gc gm (by omega) r4 (by omega) (by omega) (fun q => by cases q) (fun _ => qZ) (q_w r8 (by omega)) (fun _ => eC.symm) (fun q => by cases q) ⟨r5, by rw [eC]; exact r6, r7⟩ (fc_t (fc_t fa c4) r9) (fm_t (fm_t fb (fm_t s3 (fm_t u3 b4))) r10)
        · refine Or.inr ⟨gc, gm, by rw [r1, bd2_e, if_pos rfl], r2, r3, fc_t (fc_t fa c4) r4, fm_t (fm_t fb (fm_t s3 (fm_t u3 b4))) r5⟩
      · rw [cd_end cu _ it (by omega) x5 x4, ra_end mu x5 x4, s1, bd_e, u1, bd_e]
        have cZ : ∃ gc0, kfn (vW w) hc = some (1, gc0) ∧ CU 0 B L N i gc0 ∧ CC (C ++ Z) gc0 ∧ FC hc gc0 := by
          unfold kfn
          cases w with
          | false =>
            rw [if_neg (by decide)] at eZ
            exact ⟨hc, if_pos rfl, cu, by rw [← eZ]; exact cc, fc_r hc⟩
          | true =>
            rw [if_pos rfl] at eZ
            have le := xp_le (C ++ (X ++ Y))
            have bl := s2.2.2.2.2.1
            have := tl3 rfl
            obtain ⟨gc2, q1, q2, q3, q4⟩ := cc_em cu cc (by omega) 11
            exact ⟨gc2, by rw [if_neg (show ¬ vW true = -1 by decide), show mD_emit (vW true) 0 hc = some (1, gc2) from q1, bd2_e, if_neg no10], q2, by rw [← eZ]; exact q3, q4⟩
        obtain ⟨gc0, c1, c2, c3, c4⟩ := cZ
        exact Or.inl ⟨i, Z, gc0, g2, nM, h4, c1, rfl, by omega, ⟨c2, c3, u2⟩, qZ, fc_t fa c4, fm_t fb (fm_t s3 u3)⟩
theorem cn_step {B : Nat → Nat} {L N n : Nat} (cl : CLP B L N n) : CNP B L N (n + 1) := by
  intro p b i nM C S hc hm hp hb hn ho hS haS t9 t10 t11 j hM
  have ccd : mD_cc (n + 1) true (nI p) hc = bd2 (mD_cc n false (nI p) hc) fun r1 h2 => if r1 = 0 then some (0, h2) else mD_condition_L14 (nI p) (mD_cc n false) kfn FU (-1) 0 h2 := rfl
  rw [ccd]
  rcases cl p b i nM C S 0 S hc hm hp hb (by omega) ho (by omega) haS rfl t9 j hM with ⟨j2, A, gc, gm, nM', r1, r2, r3, r4, ⟨r5, r6, r7⟩, r8, r9, r10⟩ | ⟨gc, gm, r1, r2, r3, r4, r5⟩
  · rw [show C ++ A ++ List.replicate 0 (9, 0) = C ++ A from List.append_nil _, Nat.sub_zero] at r7
    have N4 := r5.1.2.1
    have iN := r5.2.1
    rw [r2, bd2_e, if_neg no10, r3]
    have := co_loop cl hp hb (by omega) ho hS haS t10 t11 (C := C) (i0 := i) (hc0 := hc) (hm0 := hm) FU j2 0 nM' false false [] A (C ++ A) gc gm (by unfold FU; omega) r4 (by omega) r1 (fun _ => rfl) (fun q => by cases q) (q_w r8 (by omega)) (fun _ => rfl) (fun q => by cases q) ⟨r5, r6, r7⟩ r9 r10
    rw [nI_0] at this
    exact this
  · exact Or.inr ⟨gc, gm, by rw [r1, bd2_e, if_pos rfl], r2, r3, r4, r5⟩
theorem cc_all (B : Nat → Nat) (L N : Nat) : ∀ n, CLP B L N n ∧ CNP B L N n := by
  intro n
  induction n with
  | zero => exact ⟨fun p b i nM C S k S' hc hm _ _ h => by omega, fun p b i nM C S hc hm _ _ h => by omega⟩
  | succ n ih => exact ⟨cl_step ih.1 ih.2, cn_step ih.1⟩
theorem ra_g (n : Nat) (h : PH) : mm_readAny_L9 (fun (h33 : PH) => bd2 (mm_errs 3 h33) fun r34 h35 => some (r34, h35)) (fun (h36 : PH) => bd2 (mm_errs 1 h36) fun r37 h38 => some (r37, h38)) n 0 1 h = RA n 0 1 h := rfl
theorem ra_all (h : PH) : mm_readAny h = RA FU 0 1 (up h 104 28 0) := by
  unfold mm_readAny
  rw [lt_e]
  exact ra_g FU _
/-- a condition, on both sides -/
theorem cd_sim {B : Nat → Nat} {L N i : Nat} {C : List (Nat × Nat)} {hc hm : PH} (j : JJ 0 B L N i 0 C hc hm) (o : hm 104 26 = 0) : (∃ j2 A gc gm, i < j2 ∧ mD_condition 30 0 hc = some (1, gc) ∧ mm_readAny hm = some (0, gm) ∧ JJ 0 B L N j2 0 (C ++ A) gc gm ∧ gm 104 26 = 0 ∧ Qv P01 22 A ∧ FC hc gc ∧ FM hm gm) ∨ ERR hc hm (mD_condition 30 0 hc) (mm_readAny hm) := by
  have iN := j.1.2.1
  have N4 := j.1.1.2.1
  have z : MZ B L i (xp C) [] 0 (up hm 104 28 0) := ⟨mu_of j.2.1 (up_cell (by decide)) (up_cell (by decide)) (fun k _ _ => up_oj (by omega)), mc_of j.2.2.2.1 (up_cell (by decide)) (up_cell (by decide)) (up_oj (by decide)), ⟨up_same, by decide, fun k x hk => by cases hk⟩, by rw [up_oj (by decide)]; exact o, by have := j.2.2.2.2; show (xp C).length + 0 ≤ i; omega, by omega⟩
  have e1 : mm_readAny hm = RA FU (nI 0) 1 (up hm 104 28 0) := by
    rw [ra_all, nI_0]
  have e2 : mD_condition 30 0 hc = mD_cc 30 true (nI 0) hc := by
    rw [nI_0]
    rfl
  have tn : ∀ x, TN [] x := fun x y S' e => by cases e
  rw [e1, e2]
  have fm0 : FM hm (up hm 104 28 0) := fm_up (fm_r hm) (Or.inr rfl) _
  rcases (cc_all B L N 30).2 0 0 i FU C [] hc (up hm 104 28 0) (by decide) (by decide) (by decide) rfl (by decide) (fun x hx => by cases hx) (tn 9) (tn 10) (tn 11) ⟨j.1, j.2.2.1, z⟩ (by unfold FU; omega) with ⟨j2, A, gc, gm, nM', r1, r2, r3, r4, ⟨r5, r6, r7⟩, r8, r9, r10⟩ | ⟨gc, gm, r1, r2, r3, r4, r5⟩
  · refine Or.inl ⟨j2, A, gc, gm, r1, r2, ?_, ⟨r5, r7.1, r6, r7.2.1, by have := r7.2.2.2.2.1; omega⟩, r7.2.2.2.1, r8, r9, fm_t fm0 r10⟩
    rw [r3]
    unfold EL
    rw [if_pos (show nI 0 = (0 : Int32) from rfl)]
  · exact Or.inr ⟨gc, gm, r1, r2, r3, r4, fm_t fm0 r5⟩
