/-! CONDITIONS: the class goes down by calls, the model by its stack -/
theorem wv0x (x : Nat) (hx : x < 19) : (wv 0).getD x 99 = x := wv0 x hx
theorem c_w1 {B : Nat → Nat} {L N i : Nat} {h : PH} (c : CU 0 B L N i h) {x : Nat} (e : (tt B L i).1 = 2 ∧ (tt B L i).2 = x) (hx : x < 19) : mD_isWord (nI x) h = some 1 := by rw [c_wd (by decide) c x (by rw [wv0l]; exact hx), wv0x x hx, if_pos e]
theorem c_w0 {B : Nat → Nat} {L N i : Nat} {h : PH} (c : CU 0 B L N i h) {x : Nat} (e : ¬ ((tt B L i).1 = 2 ∧ (tt B L i).2 = x)) (hx : x < 19) : mD_isWord (nI x) h = some 0 := by rw [c_wd (by decide) c x (by rw [wv0l]; exact hx), wv0x x hx, if_neg e]
theorem m_w1 {B : Nat → Nat} {L i : Nat} {h : PH} (m : MU B L i h) {x : Nat} (e : (tt B L i).1 = 2 ∧ (tt B L i).2 = x) (hx : x < 256) : mm_isWord (nI x) h = some 1 := by rw [m_wd m x hx, if_pos e]
theorem m_w0 {B : Nat → Nat} {L i : Nat} {h : PH} (m : MU B L i h) {x : Nat} (e : ¬ ((tt B L i).1 = 2 ∧ (tt B L i).2 = x)) (hx : x < 256) : mm_isWord (nI x) h = some 0 := by rw [m_wd m x hx, if_neg e]
def refC (p : Int32) (h : PH) : Option (Int32 × PH) := bd2 (mD_refuse p h) fun r h => some (nb r, h)
def emitC (o : Int32) (h : PH) : Option (Int32 × PH) := bd2 (mD_emit o 0 h) fun r25 h26 => if r25 = 0 then some (0, h26) else some (1, h26)
/-- a comparison of the class, of the model, behind the first sum -/
def cmT (h16 : PH) : Option (Int32 × PH) := lt (h16 90 7) fun x17 => bd (mD_isSign 60 h16) fun r18 => jn0 (bd (mD_advance h16) fun h20 => bd2 (mD_expression h20) fun r21 h22 => if r21 = 0 then some (0, h22) else jn1 (fun (x24 : Int32) => bd2 (mD_emit x24 0 h22) fun r25 h26 => if r25 = 0 then some (0, h26) else some (1, h26)) fun j23 => if x17 = 60 then j23 6 else if x17 = 61 then j23 7 else j23 8) fun j19 => if r18 = 0 then bd (mD_isSign 61 h16) fun r27 => if r27 = 0 then bd (mD_isSign 62 h16) fun r28 => if r28 = 0 then bd2 (mD_refuse 1 h16) fun r29 h30 => some (nb r29, h30) else j19 else j19 else j19
def cmM (h2 : PH) : Option (Int32 × PH) := bd (mm_isSign 60 h2) fun r3 => jn0 (jn1 (fun (x6 : Int32) => bd (mm_reads h2) fun h7 => bd2 (mm_readSum h7) fun r8 h9 => if r8 = (-1) then some ((-1), h9) else bd (mm_emits x6 0 h9) fun h10 => some (0, h10)) fun j5 => if (h2 104 15) = 60 then j5 6 else if (h2 104 15) = 61 then j5 7 else j5 8) fun j4 => if r3 = 0 then bd (mm_isSign 61 h2) fun r11 => if r11 = 0 then bd (mm_isSign 62 h2) fun r12 => if r12 = 0 then bd2 (mm_errs 1 h2) fun r13 h14 => some (r13, h14) else j4 else j4 else j4
theorem rc_eq (h : PH) : mm_readCompared h = bd2 (mm_readSum h) fun r1 h2 => if r1 = (-1) then some ((-1), h2) else cmM h2 := rfl
theorem cl_cmp {B : Nat → Nat} {L N i : Nat} {h : PH} (c : CU 0 B L N i h) (f0 f1 : Int32 → PH → Option (Int32 × PH)) (p : Int32) (n6 : ¬ ((tt B L i).1 = 2 ∧ (tt B L i).2 = 6)) (n40 : ¬ ((tt B L i).1 = 4 ∧ (tt B L i).2 = 40)) : mD_clause_F f0 f1 p h = bd2 (mD_expression h) fun r15 h16 => if r15 = 0 then some (0, h16) else cmT h16 := by
  unfold mD_clause_F
  rw [show mD_isWord 6 h = some 0 from c_w0 (x := 6) c n6 (by decide), bd_e, jn0_e, if_pos rfl, show mD_isSign 40 h = some 0 from c_s0 (x := 40) c n40 (by decide), bd_e, if_pos rfl]
  rfl
def cmX (o x : Nat) : Prop := (o = 6 ∧ x = 60) ∨ (o = 7 ∧ x = 61) ∨ (o = 8 ∧ x = 62)
theorem cmT_y {B : Nat → Nat} {L N i : Nat} {h : PH} (c : CU 0 B L N i h) {o x : Nat} (x1 : (tt B L i).1 = 4) (x2 : (tt B L i).2 = x) (ox : cmX o x) : cmT h = bd (mD_advance h) fun h20 => bd2 (mD_expression h20) fun r21 h22 => if r21 = 0 then some (0, h22) else emitC (nI o) h22 := by
  have xv := sg_v c ⟨x1, x2⟩
  unfold cmT
  rw [lt_e, xv]
  rcases ox with ⟨o1, o2⟩ | ⟨o1, o2⟩ | ⟨o1, o2⟩
  · subst o1 o2
    rw [show mD_isSign 60 h = some 1 from c_s1 (x := 60) c ⟨x1, x2⟩ (by decide), bd_e, jn0_e, if_neg no10]
    (simp only [jn1_e, if_pos (show nI 60 = (60 : Int32) from rfl)]) <;> rfl
  · subst o1 o2
    rw [show mD_isSign 60 h = some 0 from c_s0 (x := 60) c (by omega) (by decide), bd_e, jn0_e, if_pos rfl, show mD_isSign 61 h = some 1 from c_s1 (x := 61) c ⟨x1, x2⟩ (by decide), bd_e, if_neg no10]
    (simp only [jn1_e, if_neg (show ¬ nI 61 = (60 : Int32) by decide), if_pos (show nI 61 = (61 : Int32) from rfl)]) <;> rfl
  · subst o1 o2
    rw [show mD_isSign 60 h = some 0 from c_s0 (x := 60) c (by omega) (by decide), bd_e, jn0_e, if_pos rfl, show mD_isSign 61 h = some 0 from c_s0 (x := 61) c (by omega) (by decide), bd_e, if_pos rfl, show mD_isSign 62 h = some 1 from c_s1 (x := 62) c ⟨x1, x2⟩ (by decide), bd_e, if_neg no10]
    (simp only [jn1_e, if_neg (show ¬ nI 62 = (60 : Int32) by decide), if_neg (show ¬ nI 62 = (61 : Int32) by decide)]) <;> rfl
theorem cmT_n {B : Nat → Nat} {L N i : Nat} {h : PH} (c : CU 0 B L N i h) (n : ∀ o x, cmX o x → ¬ ((tt B L i).1 = 4 ∧ (tt B L i).2 = x)) : cmT h = refC 1 h := by
  unfold cmT
  rw [lt_e, show mD_isSign 60 h = some 0 from c_s0 (x := 60) c (n 6 60 (Or.inl ⟨rfl, rfl⟩)) (by decide), bd_e, jn0_e, if_pos rfl, show mD_isSign 61 h = some 0 from c_s0 (x := 61) c (n 7 61 (Or.inr (Or.inl ⟨rfl, rfl⟩))) (by decide), bd_e, if_pos rfl, show mD_isSign 62 h = some 0 from c_s0 (x := 62) c (n 8 62 (Or.inr (Or.inr ⟨rfl, rfl⟩))) (by decide), bd_e, if_pos rfl]
  rfl
theorem cmM_y {B : Nat → Nat} {L i : Nat} {h : PH} (m : MU B L i h) {o x : Nat} (x1 : (tt B L i).1 = 4) (x2 : (tt B L i).2 = x) (ox : cmX o x) : cmM h = bd (mm_reads h) fun h7 => bd2 (mm_readSum h7) fun r8 h9 => if r8 = (-1) then some ((-1), h9) else bd (mm_emits (nI o) 0 h9) fun h10 => some (0, h10) := by
  have xv := msg_v m ⟨x1, x2⟩
  unfold cmM
  rw [xv]
  rcases ox with ⟨o1, o2⟩ | ⟨o1, o2⟩ | ⟨o1, o2⟩
  · subst o1 o2
    rw [show mm_isSign 60 h = some 1 from m_s1 (x := 60) m ⟨x1, x2⟩ (by decide), bd_e, jn0_e, if_neg no10]
    (simp only [jn1_e, if_pos (show nI 60 = (60 : Int32) from rfl)]) <;> rfl
  · subst o1 o2
    rw [show mm_isSign 60 h = some 0 from m_s0 (x := 60) m (by omega) (by decide), bd_e, jn0_e, if_pos rfl, show mm_isSign 61 h = some 1 from m_s1 (x := 61) m ⟨x1, x2⟩ (by decide), bd_e, if_neg no10]
    (simp only [jn1_e, if_neg (show ¬ nI 61 = (60 : Int32) by decide), if_pos (show nI 61 = (61 : Int32) from rfl)]) <;> rfl
  · subst o1 o2
    rw [show mm_isSign 60 h = some 0 from m_s0 (x := 60) m (by omega) (by decide), bd_e, jn0_e, if_pos rfl, show mm_isSign 61 h = some 0 from m_s0 (x := 61) m (by omega) (by decide), bd_e, if_pos rfl, show mm_isSign 62 h = some 1 from m_s1 (x := 62) m ⟨x1, x2⟩ (by decide), bd_e, if_neg no10]
    (simp only [jn1_e, if_neg (show ¬ nI 62 = (60 : Int32) by decide), if_neg (show ¬ nI 62 = (61 : Int32) by decide)]) <;> rfl
theorem cmM_n {B : Nat → Nat} {L i : Nat} {h : PH} (m : MU B L i h) (n : ∀ o x, cmX o x → ¬ ((tt B L i).1 = 4 ∧ (tt B L i).2 = x)) : cmM h = kp1 h := by
  unfold cmM
  rw [show mm_isSign 60 h = some 0 from m_s0 (x := 60) m (n 6 60 (Or.inl ⟨rfl, rfl⟩)) (by decide), bd_e, jn0_e, if_pos rfl, show mm_isSign 61 h = some 0 from m_s0 (x := 61) m (n 7 61 (Or.inr (Or.inl ⟨rfl, rfl⟩))) (by decide), bd_e, if_pos rfl, show mm_isSign 62 h = some 0 from m_s0 (x := 62) m (n 8 62 (Or.inr (Or.inr ⟨rfl, rfl⟩))) (by decide), bd_e, if_pos rfl]
  rfl
/-- a comparison on both sides -/
theorem cp_sim {B : Nat → Nat} {L N i w : Nat} {C : List (Nat × Nat)} {hc hm : PH} (j : JJ 0 B L N i w C hc hm) : PX 0 B L N i w (Qv P01 4) C hc hm (bd2 (mD_expression hc) fun r15 h16 => if r15 = 0 then some (0, h16) else cmT h16) (mm_readCompared hm) := by
  rw [rc_eq]
  rcases ex_sim j with ⟨i1, A, hc1, hm1, e1, e2, e3, e4, e5, e6, e7⟩ | ⟨hc1, hm1, e1, e2, e3, e4, e5⟩
  · rw [e1, bd2_e, if_neg no10, e2, bd2_e, if_neg (show ¬ (0 : Int32) = -1 by decide)]
    by_cases c : ∃ o x, cmX o x ∧ (tt B L i1).1 = 4 ∧ (tt B L i1).2 = x
    · obtain ⟨o, x, ox, x1, x2⟩ := c
      obtain ⟨gm, d1, d2, d3, d4, d5⟩ := j_adv e4 (by omega)
      rw [cmT_y e4.1 x1 x2 ox, d1, bd_e, cmM_y e4.2.1 x1 x2 ox, d2, bd_e]
      rcases ex_sim d3 with ⟨i2, D, hc2, hm2, f1, f2, f3, f4, f5, f6, f7⟩ | ⟨hc2, hm2, f1, f2, f3, f4, f5⟩
      · have ho : o = 6 ∨ o = 7 ∨ o = 8 := by
          rcases ox with z | z | z
          · exact Or.inl z.1
          · exact Or.inr (Or.inl z.1)
          · exact Or.inr (Or.inr z.1)
        obtain ⟨gc3, gm3, g1, g2, g3, g4, g5, _⟩ := j_emit f4 o 0 (by omega)
        rw [f1, bd2_e, if_neg no10, f2, bd2_e, if_neg (show ¬ (0 : Int32) = -1 by decide), show mm_emits (nI o) 0 hm2 = some gm3 from g2, bd_e]
        unfold emitC
        rw [show mD_emit (nI o) 0 hc2 = some (1, gc3) from em_at g1, bd2_e, if_neg no10]
        refine Or.inl ⟨i2, A ++ D ++ [(o, 0)], gc3, gm3, rfl, rfl, by omega, ?_, ?_, fc_t (fc_t (fc_t e6 d4) f6) g4, fx_t (fx_t (fx_t e7 (fx_4 d5)) f7) g5⟩
        · have : C ++ (A ++ D ++ [(o, 0)]) = C ++ A ++ D ++ [(o, 0)] := by simp only [List.append_assoc]
          rw [this]
          exact g3
        · exact q_bin e5 f5 (by omega) (by omega) (by omega) (by omega) (by decide) (by decide) (op_cm ho)
      · rw [f1, bd2_e, if_pos rfl, f2, bd2_e, if_pos rfl]
        exact Or.inr ⟨hc2, hm2, rfl, rfl, f3, fc_t (fc_t e6 d4) f4, fx_t (fx_t e7 (fx_4 d5)) f5⟩
    · have n : ∀ o x, cmX o x → ¬ ((tt B L i1).1 = 4 ∧ (tt B L i1).2 = x) := fun o x ox z => c ⟨o, x, ox, z.1, z.2⟩
      rw [cmT_n e4.1 n, cmM_n e4.2.1 n]
      exact px_err e4 1 e6 e7 rfl rfl
  · rw [e1, bd2_e, if_pos rfl, e2, bd2_e, if_pos rfl]
    exact Or.inr ⟨hc1, hm1, rfl, rfl, e3, e4, e5⟩
/-! the model's loop, case by case -/
def ka3 (h33 : PH) : Option (Int32 × PH) := bd2 (mm_errs 3 h33) fun r34 h35 => some (r34, h35)
def RA (n : Nat) (b d : Int32) (h : PH) : Option (Int32 × PH) := mm_readAny_L9 ka3 kp1 n b d h
def EL (n : Nat) (v1 : Int32) (h5 : PH) : Option (Int32 × PH) := if v1 = 0 then some (0, h5) else bd (mm_isSign 41 h5) fun r6 => if r6 = 0 then kp1 h5 else lt (up h5 104 28 ((h5 104 28) - 1)) fun h7 => lt (v1 - 1) fun x8 => lt (up h7 104 26 ((h7 104 26) - 1)) fun h9 => bd (mm_settles 9 h9) fun h10 => bd (mm_reads h10) fun h11 => RA n x8 0 h11
theorem ra_not {B : Nat → Nat} {L i n : Nat} {b : Int32} {h : PH} (m : MU B L i h) (x : (tt B L i).1 = 2 ∧ (tt B L i).2 = 6) (o8 : ¬ h 104 26 = 8) : RA (n + 1) b 1 h = bd (mm_waits 9 (up h 104 26 (h 104 26 + 1))) fun h26 => bd (mm_reads h26) fun h27 => RA n b 1 h27 := by
  unfold RA
  rw [mm_readAny_L9, if_neg no10, show mm_isWord 6 h = some 1 from m_w1 (x := 6) m x (by decide), bd_e, jn0_e, if_neg no10, if_neg o8, lt_e]
  (simp only [jn1_e, if_neg no10]) <;> rfl
theorem ra_br {B : Nat → Nat} {L i n : Nat} {b : Int32} {h : PH} (m : MU B L i h) (x : (tt B L i).1 = 4 ∧ (tt B L i).2 = 40) (o8 : ¬ h 104 26 = 8) : RA (n + 1) b 1 h = bd (mm_waits 12 (up h 104 26 (h 104 26 + 1))) fun h26 => bd (mm_reads h26) fun h27 => RA n (b + 1) 1 h27 := by
  unfold RA
  rw [mm_readAny_L9, if_neg no10, show mm_isWord 6 h = some 0 from m_w0 (x := 6) m (by omega) (by decide), bd_e, jn0_e, if_pos rfl, show mm_isSign 40 h = some 1 from m_s1 (x := 40) m x (by decide), bd_e, if_neg no10, if_neg o8, lt_e]
  (simp only [jn1_e, lt_e, if_pos (show (0 : Int32) = 0 from rfl)]) <;> rfl
theorem ra_full {B : Nat → Nat} {L i n : Nat} {b : Int32} {h : PH} (m : MU B L i h) (x : ((tt B L i).1 = 2 ∧ (tt B L i).2 = 6) ∨ ((tt B L i).1 = 4 ∧ (tt B L i).2 = 40)) (o8 : h 104 26 = 8) : RA (n + 1) b 1 h = ka3 h := by
  unfold RA
  rw [mm_readAny_L9, if_neg no10]
  rcases x with x | x
  · rw [show mm_isWord 6 h = some 1 from m_w1 (x := 6) m x (by decide), bd_e, jn0_e, if_neg no10, if_pos o8]
  · rw [show mm_isWord 6 h = some 0 from m_w0 (x := 6) m (by omega) (by decide), bd_e, jn0_e, if_pos rfl, show mm_isSign 40 h = some 1 from m_s1 (x := 40) m x (by decide), bd_e, if_neg no10, if_pos o8]
theorem ra_cmp {B : Nat → Nat} {L i n : Nat} {b : Int32} {h : PH} (m : MU B L i h) (n6 : ¬ ((tt B L i).1 = 2 ∧ (tt B L i).2 = 6)) (n40 : ¬ ((tt B L i).1 = 4 ∧ (tt B L i).2 = 40)) : RA (n + 1) b 1 h = bd2 (mm_readCompared h) fun r30 h31 => if r30 = (-1) then some ((-1), h31) else bd (mm_settles 9 h31) fun h32 => RA n b 0 h32 := by
  unfold RA
  rw [mm_readAny_L9, if_neg no10, show mm_isWord 6 h = some 0 from m_w0 (x := 6) m n6 (by decide), bd_e, jn0_e, if_pos rfl, show mm_isSign 40 h = some 0 from m_s0 (x := 40) m n40 (by decide), bd_e, if_pos rfl]
theorem ra_and {B : Nat → Nat} {L i n : Nat} {b : Int32} {h : PH} (m : MU B L i h) (x : (tt B L i).1 = 2 ∧ (tt B L i).2 = 5) : RA (n + 1) b 0 h = bd (mm_settles 10 h) fun h16 => bd (mm_waits 10 h16) fun h17 => bd (mm_reads h17) fun h18 => RA n b 1 h18 := by
  unfold RA
  rw [mm_readAny_L9, if_pos rfl, show mm_isWord 5 h = some 1 from m_w1 (x := 5) m x (by decide), bd_e, if_neg no10]
theorem ra_or {B : Nat → Nat} {L i n : Nat} {b : Int32} {h : PH} (m : MU B L i h) (x : (tt B L i).1 = 2 ∧ (tt B L i).2 = 4) : RA (n + 1) b 0 h = bd (mm_settles 10 h) fun h12 => bd (mm_settles 11 h12) fun h13 => bd (mm_waits 11 h13) fun h14 => bd (mm_reads h14) fun h15 => RA n b 1 h15 := by
  unfold RA
  rw [mm_readAny_L9, if_pos rfl, show mm_isWord 5 h = some 0 from m_w0 (x := 5) m (by omega) (by decide), bd_e, if_pos rfl, show mm_isWord 4 h = some 1 from m_w1 (x := 4) m x (by decide), bd_e, if_neg no10]
theorem ra_end {B : Nat → Nat} {L i n : Nat} {b : Int32} {h : PH} (m : MU B L i h) (n5 : ¬ ((tt B L i).1 = 2 ∧ (tt B L i).2 = 5)) (n4 : ¬ ((tt B L i).1 = 2 ∧ (tt B L i).2 = 4)) : RA (n + 1) b 0 h = bd (mm_settles 10 h) fun h4 => bd (mm_settles 11 h4) fun h5 => EL n b h5 := by
  unfold RA
  rw [mm_readAny_L9, if_pos rfl, show mm_isWord 5 h = some 0 from m_w0 (x := 5) m n5 (by decide), bd_e, if_pos rfl, show mm_isWord 4 h = some 0 from m_w0 (x := 4) m n4 (by decide), bd_e, if_pos rfl]
  rfl
/-! the class's clause, case by case -/
theorem cl_not {B : Nat → Nat} {L N i : Nat} {h : PH} (c : CU 0 B L N i h) (f0 f1 : Int32 → PH → Option (Int32 × PH)) (p : Int32) (x : (tt B L i).1 = 2 ∧ (tt B L i).2 = 6) (p8 : p < 8) : mD_clause_F f0 f1 p h = bd (mD_advance h) fun h3 => bd2 (f1 (p + 1) h3) fun r8 h9 => if r8 = 0 then some (0, h9) else emitC 9 h9 := by
  unfold mD_clause_F
  rw [show mD_isWord 6 h = some 1 from c_w1 (x := 6) c x (by decide), bd_e, jn0_e, if_neg no10, if_pos p8]
  (simp only [if_neg no10]) <;> rfl
theorem cl_br {B : Nat → Nat} {L N i : Nat} {h : PH} (c : CU 0 B L N i h) (f0 f1 : Int32 → PH → Option (Int32 × PH)) (p : Int32) (x : (tt B L i).1 = 4 ∧ (tt B L i).2 = 40) (p8 : p < 8) : mD_clause_F f0 f1 p h = bd (mD_advance h) fun h3 => bd2 (f0 (p + 1) h3) fun r4 h5 => if r4 = 0 then some (0, h5) else bd2 (mD_takesSign 41 h5) fun r6 h7 => if r6 = 0 then some (0, h7) else some (1, h7) := by
  unfold mD_clause_F
  rw [show mD_isWord 6 h = some 0 from c_w0 (x := 6) c (by omega) (by decide), bd_e, jn0_e, if_pos rfl, show mD_isSign 40 h = some 1 from c_s1 (x := 40) c x (by decide), bd_e, if_neg no10, if_pos p8]
  (simp only [if_pos (show (0 : Int32) = 0 from rfl)]) <;> rfl
theorem cl_full {B : Nat → Nat} {L N i : Nat} {h : PH} (c : CU 0 B L N i h) (f0 f1 : Int32 → PH → Option (Int32 × PH)) (p : Int32) (x : ((tt B L i).1 = 2 ∧ (tt B L i).2 = 6) ∨ ((tt B L i).1 = 4 ∧ (tt B L i).2 = 40)) (p8 : ¬ p < 8) : mD_clause_F f0 f1 p h = refC 3 h := by
  unfold mD_clause_F
  rcases x with x | x
  · rw [show mD_isWord 6 h = some 1 from c_w1 (x := 6) c x (by decide), bd_e, jn0_e, if_neg no10, if_neg p8]
    rfl
  · rw [show mD_isWord 6 h = some 0 from c_w0 (x := 6) c (by omega) (by decide), bd_e, jn0_e, if_pos rfl, show mD_isSign 40 h = some 1 from c_s1 (x := 40) c x (by decide), bd_e, if_neg no10, if_neg p8]
    rfl
def cdK (p : Int32) (f1 : Int32 → PH → Option (Int32 × PH)) (n : Nat) (v : Int32) (it : Nat) (isA : Bool) (h9 : PH) : Option (Int32 × PH) := bd2 (f1 p h9) fun r10 h11 => if r10 = 0 then some (0, h11) else if isA = true then bd2 (mD_emit 10 0 h11) fun _ h13 => mD_condition_L14 p f1 kfn n v (nI (it + 1)) h13 else mD_condition_L14 p f1 kfn n v (nI (it + 1)) h11
theorem cd_and {B : Nat → Nat} {L N i n : Nat} {h : PH} {v p : Int32} (c : CU 0 B L N i h) (f1 : Int32 → PH → Option (Int32 × PH)) (it : Nat) (hit : it < 400) (x : (tt B L i).1 = 2 ∧ (tt B L i).2 = 5) : mD_condition_L14 p f1 kfn (n + 1) v (nI it) h = bd (mD_advance h) fun h6 => cdK p f1 n v it true h6 := by
  rw [mD_condition_L14, if_neg (show ¬ (400 : Int32) ≤ nI it from nI_ge (b := 400) hit (by decide)), show mD_isWord 4 h = some 0 from c_w0 (x := 4) c (by omega) (by decide), bd_e, jn0_e, if_pos rfl, show mD_isWord 5 h = some 1 from c_w1 (x := 5) c x (by decide), bd_e, if_neg no10, bd_e]
  unfold cdK
  (simp only [jn2_e, if_neg no10, if_pos, nI_1]) <;> rfl
theorem cd_or {B : Nat → Nat} {L N i n : Nat} {h : PH} {v p : Int32} (c : CU 0 B L N i h) (f1 : Int32 → PH → Option (Int32 × PH)) (it : Nat) (hit : it < 400) (x : (tt B L i).1 = 2 ∧ (tt B L i).2 = 4) : mD_condition_L14 p f1 kfn (n + 1) v (nI it) h = bd (mD_advance h) fun h6 => if v = (-1) then cdK p f1 n 11 it false h6 else bd2 (mD_emit v 0 h6) fun _ h15 => cdK p f1 n 11 it false h15 := by
  rw [mD_condition_L14, if_neg (show ¬ (400 : Int32) ≤ nI it from nI_ge (b := 400) hit (by decide)), show mD_isWord 4 h = some 1 from c_w1 (x := 4) c x (by decide), bd_e, jn0_e, if_neg no10, show mD_isWord 5 h = some 0 from c_w0 (x := 5) c (by omega) (by decide), bd_e]
  unfold cdK
  (simp only [jn2_e, if_pos (show (0 : Int32) = 0 from rfl), nI_1, Bool.false_eq_true, if_false]) <;> rfl
theorem cd_end {B : Nat → Nat} {L N i n : Nat} {h : PH} {v p : Int32} (c : CU 0 B L N i h) (f1 : Int32 → PH → Option (Int32 × PH)) (it : Nat) (hit : it < 400) (n5 : ¬ ((tt B L i).1 = 2 ∧ (tt B L i).2 = 5)) (n4 : ¬ ((tt B L i).1 = 2 ∧ (tt B L i).2 = 4)) : mD_condition_L14 p f1 kfn (n + 1) v (nI it) h = kfn v h := by
  rw [mD_condition_L14, if_neg (show ¬ (400 : Int32) ≤ nI it from nI_ge (b := 400) hit (by decide)), show mD_isWord 4 h = some 0 from c_w0 (x := 4) c n4 (by decide), bd_e, jn0_e, if_pos rfl, show mD_isWord 5 h = some 0 from c_w0 (x := 5) c n5 (by decide), bd_e, if_pos rfl]
