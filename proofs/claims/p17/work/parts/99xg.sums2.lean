section
/-! SUMS: the class's one loop, the model's two -/
def kp1 (h15 : PH) : Option (Int32 × PH) := bd2 (mm_errs 1 h15) fun r16 h17 => some (r16, h17)
def kp2 (h18 : PH) : Option (Int32 × PH) := bd2 (mm_errs 2 h18) fun r19 h20 => some (r19, h20)
def kfn (x25 : Int32) (h26 : PH) : Option (Int32 × PH) := if x25 = (-1) then some (1, h26) else bd2 (mD_emit x25 0 h26) fun r27 h28 => if r27 = 0 then some (0, h28) else some (1, h28)
def mrT (wo : Option Nat) (n2 : Nat) (h : PH) : Option (Int32 × PH) := match wo with
  | none => mm_readSum_L10 n2 h
  | some o => bd (mm_emits (nI o) 0 h) fun h10 => mm_readSum_L10 n2 h10
/-- the model behind a unit of a product, with a sign that waits -/
def MR (wo : Option Nat) (n n2 : Nat) (hm : PH) : Option (Int32 × PH) := bd2 (mm_readProduct_L10 kp1 kp2 n hm) fun r h => if r = (-1) then some ((-1), h) else mrT wo n2 h
def woI (wo : Option Nat) : Int32 := match wo with
  | none => -1
  | some o => nI o
theorem em_at {k v : Nat} {h g : PH} (e : mR_add 93 (nI k) (nI v) 0 0 0 h = some (1, g)) : mD_emit (nI k) (nI v) h = some (1, g) := by
  unfold mD_emit
  rw [e, bd2_e]
  rfl
/-- sums and products done so far, and what waits -/
def SQ (wo : Option Nat) (wl : Nat) (A P : List (Nat × Nat)) : Prop := (wo = none ∧ wl = 0 ∧ A = [] ∧ Qv PT 2 P) ∨ ∃ o, wo = some o ∧ wl = 1 ∧ (o = 2 ∨ o = 3) ∧ Qv PT 3 A ∧ Qv PT 2 P
theorem sg_v {s : Nat} {B : Nat → Nat} {L N i : Nat} {h : PH} (c : CU s B L N i h) {x : Nat} (e : (tt B L i).1 = 4 ∧ (tt B L i).2 = x) : h 90 7 = nI x := by
  rcases cu_tk c with ⟨a, _⟩ | ⟨a, _⟩ | ⟨a, _⟩ | ⟨a, _⟩ | ⟨_, _, _, f⟩
  · omega
  · omega
  · omega
  · omega
  · rw [f, e.2]
theorem msg_v {B : Nat → Nat} {L i : Nat} {h : PH} (m : MU B L i h) {x : Nat} (e : (tt B L i).1 = 4 ∧ (tt B L i).2 = x) : h 104 15 = nI x := by
  have k : TkM (tt B L i) (h 104 14) (h 104 15) := m.2.2.2
  rcases k with ⟨a, _⟩ | ⟨a, _⟩ | ⟨a, _⟩ | ⟨a, _⟩ | ⟨_, _, _, f⟩
  · omega
  · omega
  · omega
  · omega
  · rw [f, e.2]
theorem c_s1 {s : Nat} {B : Nat → Nat} {L N i : Nat} {h : PH} (c : CU s B L N i h) {x : Nat} (e : (tt B L i).1 = 4 ∧ (tt B L i).2 = x) (hx : x < 256) : mD_isSign (nI x) h = some 1 := by rw [c_sg c x hx, if_pos e]
theorem c_s0 {s : Nat} {B : Nat → Nat} {L N i : Nat} {h : PH} (c : CU s B L N i h) {x : Nat} (e : ¬ ((tt B L i).1 = 4 ∧ (tt B L i).2 = x)) (hx : x < 256) : mD_isSign (nI x) h = some 0 := by rw [c_sg c x hx, if_neg e]
theorem m_s1 {B : Nat → Nat} {L i : Nat} {h : PH} (m : MU B L i h) {x : Nat} (e : (tt B L i).1 = 4 ∧ (tt B L i).2 = x) (hx : x < 256) : mm_isSign (nI x) h = some 1 := by rw [m_sg m x hx, if_pos e]
theorem m_s0 {B : Nat → Nat} {L i : Nat} {h : PH} (m : MU B L i h) {x : Nat} (e : ¬ ((tt B L i).1 = 4 ∧ (tt B L i).2 = x)) (hx : x < 256) : mm_isSign (nI x) h = some 0 := by rw [m_sg m x hx, if_neg e]
theorem no10 : ¬ (1 : Int32) = 0 := by decide
theorem rp_ok {h g : PH} (e : mm_readUnit h = some (0, g)) : mm_readProduct h = mm_readProduct_L10 kp1 kp2 FU g := by
  unfold mm_readProduct
  rw [e, bd2_e, if_neg (by decide)]
  rfl
theorem rp_err {h g : PH} (e : mm_readUnit h = some (-1, g)) : mm_readProduct h = some (-1, g) := by
  unfold mm_readProduct
  rw [e, bd2_e, if_pos rfl]
theorem rs_sg {B : Nat → Nat} {L i : Nat} {h : PH} (m : MU B L i h) (n : Nat) {o x : Nat} (x1 : (tt B L i).1 = 4) (x2 : (tt B L i).2 = x) (ox : (o = 2 ∧ x = 43) ∨ (o = 3 ∧ x = 45)) : mm_readSum_L10 (n + 1) h = bd (mm_reads h) fun h7 => bd2 (mm_readProduct h7) fun r8 h9 => if r8 = (-1) then some ((-1), h9) else bd (mm_emits (nI o) 0 h9) fun h10 => mm_readSum_L10 n h10 := by
  have xv := msg_v m ⟨x1, x2⟩
  rcases ox with ⟨o1, o2⟩ | ⟨o1, o2⟩
  · subst o1 o2
    rw [mm_readSum_L10, show mm_isSign 43 h = some 1 from m_s1 (x := 43) m ⟨x1, x2⟩ (by decide), bd_e, jn0_e, if_neg no10, jn1_e, xv, if_pos (show nI 43 = (43 : Int32) from rfl)]
    rfl
  · subst o1 o2
    rw [mm_readSum_L10, show mm_isSign 43 h = some 0 from m_s0 (x := 43) m (by omega) (by decide), bd_e, jn0_e, if_pos rfl, show mm_isSign 45 h = some 1 from m_s1 (x := 45) m ⟨x1, x2⟩ (by decide), bd_e, if_neg no10, jn1_e, xv, if_neg (show ¬ nI 45 = (43 : Int32) by decide)]
    rfl
theorem rs_end {B : Nat → Nat} {L i : Nat} {h : PH} (m : MU B L i h) (n : Nat) (np : ¬ ((tt B L i).1 = 4 ∧ (tt B L i).2 = 43)) (nm : ¬ ((tt B L i).1 = 4 ∧ (tt B L i).2 = 45)) : mm_readSum_L10 (n + 1) h = some (0, h) := by
  rw [mm_readSum_L10, show mm_isSign 43 h = some 0 from m_s0 (x := 43) m np (by decide), bd_e, jn0_e, if_pos rfl, show mm_isSign 45 h = some 0 from m_s0 (x := 45) m nm (by decide), bd_e, if_pos rfl]
def exU (n o it : Nat) (h13 : PH) : Option (Int32 × PH) := bd2 (mD_unit h13) fun r14 h15 => if r14 = 0 then some (0, h15) else mD_expression_L13 kfn n (nI o) (nI (it + 1)) h15
theorem ex_sg {B : Nat → Nat} {L N i n : Nat} {hc : PH} {v : Int32} (c : CU 0 B L N i hc) (it : Nat) (hit : it < 400) {o x : Nat} (x1 : (tt B L i).1 = 4) (x2 : (tt B L i).2 = x) (ox : (o = 2 ∧ x = 43) ∨ (o = 3 ∧ x = 45)) : mD_expression_L13 kfn (n + 1) v (nI it) hc = bd (mD_advance hc) fun h6 => if v = (-1) then exU n o it h6 else bd2 (mD_emit v 0 h6) fun _ h21 => exU n o it h21 := by
  have xv := sg_v c ⟨x1, x2⟩
  rw [mD_expression_L13, if_neg (show ¬ (400 : Int32) ≤ nI it from nI_ge (b := 400) hit (by decide))]
  rcases ox with ⟨o1, o2⟩ | ⟨o1, o2⟩
  · subst o1 o2
    rw [show mD_isSign 43 hc = some 1 from c_s1 (x := 43) c ⟨x1, x2⟩ (by decide), bd_e, jn0_e, if_neg no10, lt_e, xv]
    (simp only [if_neg (show ¬ nI 43 = (47 : Int32) by decide), if_neg (show ¬ nI 43 = (42 : Int32) by decide), if_pos (show nI 43 = (43 : Int32) from rfl), jn2_e, jn1_e, nI_1]) <;> rfl
  · subst o1 o2
    rw [show mD_isSign 43 hc = some 0 from c_s0 (x := 43) c (by omega) (by decide), bd_e, jn0_e, if_pos rfl, show mD_isSign 45 hc = some 1 from c_s1 (x := 45) c ⟨x1, x2⟩ (by decide), bd_e, if_neg no10, lt_e, xv]
    (simp only [if_neg (show ¬ nI 45 = (47 : Int32) by decide), if_neg (show ¬ nI 45 = (42 : Int32) by decide), if_neg (show ¬ nI 45 = (43 : Int32) by decide), jn2_e, jn1_e, nI_1]) <;> rfl
theorem ex_mul {B : Nat → Nat} {L N i n : Nat} {hc : PH} {v : Int32} (c : CU 0 B L N i hc) (it : Nat) (hit : it < 400) (x : (tt B L i).1 = 4 ∧ (tt B L i).2 = 42) : mD_expression_L13 kfn (n + 1) v (nI it) hc = bd (mD_advance hc) fun h6 => bd2 (mD_unit h6) fun r14 h15 => if r14 = 0 then some (0, h15) else bd2 (mD_emit 4 0 h15) fun _ h17 => mD_expression_L13 kfn n v (nI (it + 1)) h17 := by
  have xv := sg_v c x
  rw [mD_expression_L13, if_neg (show ¬ (400 : Int32) ≤ nI it from nI_ge (b := 400) hit (by decide)), show mD_isSign 43 hc = some 0 from c_s0 (x := 43) c (by omega) (by decide), bd_e, jn0_e, if_pos rfl, show mD_isSign 45 hc = some 0 from c_s0 (x := 45) c (by omega) (by decide), bd_e, if_pos rfl, show mD_isSign 42 hc = some 1 from c_s1 (x := 42) c x (by decide), bd_e, if_neg no10, lt_e, xv]
  (simp only [if_neg (show ¬ nI 42 = (47 : Int32) by decide), if_pos (show nI 42 = (42 : Int32) from rfl), jn2_e, jn1_e, nI_1]) <;> rfl
theorem ex_div {B : Nat → Nat} {L N i n : Nat} {hc : PH} {v : Int32} (c : CU 0 B L N i hc) (it : Nat) (hit : it < 400) (x : (tt B L i).1 = 4 ∧ (tt B L i).2 = 47) : mD_expression_L13 kfn (n + 1) v (nI it) hc = bd (mD_advance hc) fun h6 => bd2 (mD_takesNumber 1 9999 h6) fun r7 h8 => if r7 = 0 then some (0, h8) else bd2 (mD_emit 5 (h8 90 9) h8) fun _ h10 => mD_expression_L13 kfn n v (nI (it + 1)) h10 := by
  have xv := sg_v c x
  rw [mD_expression_L13, if_neg (show ¬ (400 : Int32) ≤ nI it from nI_ge (b := 400) hit (by decide)), show mD_isSign 43 hc = some 0 from c_s0 (x := 43) c (by omega) (by decide), bd_e, jn0_e, if_pos rfl, show mD_isSign 45 hc = some 0 from c_s0 (x := 45) c (by omega) (by decide), bd_e, if_pos rfl, show mD_isSign 42 hc = some 0 from c_s0 (x := 42) c (by omega) (by decide), bd_e, if_pos rfl, show mD_isSign 47 hc = some 1 from c_s1 (x := 47) c x (by decide), bd_e, if_neg no10, lt_e, xv]
  (simp only [if_pos (show nI 47 = (47 : Int32) from rfl), nI_1]) <;> rfl
theorem ex_none {B : Nat → Nat} {L N i n : Nat} {hc : PH} {v : Int32} (c : CU 0 B L N i hc) (it : Nat) (hit : it < 400) (a : ¬ ((tt B L i).1 = 4 ∧ (tt B L i).2 = 43)) (b : ¬ ((tt B L i).1 = 4 ∧ (tt B L i).2 = 45)) (d : ¬ ((tt B L i).1 = 4 ∧ (tt B L i).2 = 42)) (e : ¬ ((tt B L i).1 = 4 ∧ (tt B L i).2 = 47)) : mD_expression_L13 kfn (n + 1) v (nI it) hc = kfn v hc := by
  rw [mD_expression_L13, if_neg (show ¬ (400 : Int32) ≤ nI it from nI_ge (b := 400) hit (by decide)), show mD_isSign 43 hc = some 0 from c_s0 (x := 43) c a (by decide), bd_e, jn0_e, if_pos rfl, show mD_isSign 45 hc = some 0 from c_s0 (x := 45) c b (by decide), bd_e, if_pos rfl, show mD_isSign 42 hc = some 0 from c_s0 (x := 42) c d (by decide), bd_e, if_pos rfl, show mD_isSign 47 hc = some 0 from c_s0 (x := 47) c e (by decide), bd_e, if_pos rfl]
theorem rp_mul {B : Nat → Nat} {L i n : Nat} {h : PH} (m : MU B L i h) (x : (tt B L i).1 = 4 ∧ (tt B L i).2 = 42) : mm_readProduct_L10 kp1 kp2 (n + 1) h = bd (mm_reads h) fun h6 => bd2 (mm_readUnit h6) fun r9 h10 => if r9 = (-1) then some ((-1), h10) else bd (mm_emits 4 0 h10) fun h13 => mm_readProduct_L10 kp1 kp2 n h13 := by
  rw [mm_readProduct_L10, show mm_isSign 42 h = some 1 from m_s1 (x := 42) m x (by decide), bd_e, jn0_e, if_neg no10, bd_e]
  (simp only [jn0_e, jn1_e, if_neg no10]) <;> rfl
theorem rp_div {B : Nat → Nat} {L i n : Nat} {h : PH} (m : MU B L i h) (x : (tt B L i).1 = 4 ∧ (tt B L i).2 = 47) : mm_readProduct_L10 kp1 kp2 (n + 1) h = bd (mm_reads h) fun h6 => if (h6 104 14) = 3 then (if (h6 104 15) = 0 then kp2 h6 else bd2 (mm_readUnit h6) fun r9 h10 => if r9 = (-1) then some ((-1), h10) else bd (mm_emits 5 0 h10) fun h13 => mm_readProduct_L10 kp1 kp2 n h13) else kp1 h6 := by
  rw [mm_readProduct_L10, show mm_isSign 42 h = some 0 from m_s0 (x := 42) m (by omega) (by decide), bd_e, jn0_e, if_pos rfl, show mm_isSign 47 h = some 1 from m_s1 (x := 47) m x (by decide), bd_e, if_neg no10, bd_e]
  (simp only [jn0_e, jn1_e, if_pos (show (0 : Int32) = 0 from rfl)]) <;> rfl
theorem rp_end {B : Nat → Nat} {L i n : Nat} {h : PH} (m : MU B L i h) (a : ¬ ((tt B L i).1 = 4 ∧ (tt B L i).2 = 42)) (b : ¬ ((tt B L i).1 = 4 ∧ (tt B L i).2 = 47)) : mm_readProduct_L10 kp1 kp2 (n + 1) h = some (0, h) := by
  rw [mm_readProduct_L10, show mm_isSign 42 h = some 0 from m_s0 (x := 42) m a (by decide), bd_e, jn0_e, if_pos rfl, show mm_isSign 47 h = some 0 from m_s0 (x := 47) m b (by decide), bd_e, if_pos rfl]
theorem j_swap {s : Nat} {B : Nat → Nat} {L N i w : Nat} {C : List (Nat × Nat)} {hc hm : PH} (j : JJ s B L N i (w + 1) C hc hm) (n0 : (tt B L i).1 ≠ 0) (k v : Nat) (k5 : k ≠ 5) : ∃ gc gm1 gm2, mD_advance hc = some (avH hc (i + 1)) ∧ mR_add 93 (nI k) (nI v) 0 0 0 (avH hc (i + 1)) = some (1, gc) ∧ mm_emits (nI k) (nI v) hm = some gm1 ∧ MU B L i gm1 ∧ mm_reads gm1 = some gm2 ∧ JJ s B L N (i + 1) (w + 1) (C ++ [(k, v)]) gc gm2 ∧ FC hc gc ∧ FX hm gm2 := by
  obtain ⟨j1, j2, j3, j4, j5⟩ := j
  have iN := cu_lt j1 n0
  have N4 := j1.1.2.1
  have le := xp_le C
  obtain ⟨d1, d2⟩ := cu_adv j1 iN
  obtain ⟨gc, a1, a2, a3⟩ := cc_add (cc_b j3 (avH_b hc (i + 1) 93 (by decide)) (avH_b hc (i + 1) 94 (by decide))) (by omega) k v
  obtain ⟨b1, b2⟩ := mc_add j4 (by omega) k v
  obtain ⟨gm, e1, e2, e3⟩ := mu_adv (mu_em j2 (xp C).length (nI k) (nI v))
  refine ⟨gc, _, gm, d1, a1, b1, mu_em j2 _ _ _, e1, ⟨cu_b d2 a3, e3, a2, ?_, ?_⟩, fc_t (fc_av hc _) ⟨fun b b1 b2 b3 => a3 b b2 b3, by rw [a3 90 (by decide) (by decide)]⟩, fx_t fx_em (fx_4 e2)⟩
  · rw [xp_app, xp_1 k5]
    exact mc_4 b2 e2
  · rw [xp_app, xp_1 k5, List.length_append]
    show (xp C).length + 1 + (w + 1) ≤ i + 1
    omega
/-- the end of a sum: what waits is put behind it -/
theorem ex_end {B : Nat → Nat} {L N i i0 w wl : Nat} {C0 A P : List (Nat × Nat)} {wo : Option Nat} {hc hm hc0 hm0 : PH} (j : JJ 0 B L N i (w + wl) (C0 ++ (A ++ P)) hc hm) (q : SQ wo wl A P) (hi : i0 < i) (a : FC hc0 hc) (b : FX hm0 hm) (n2 : Nat) (np : ¬ ((tt B L i).1 = 4 ∧ (tt B L i).2 = 43)) (nm : ¬ ((tt B L i).1 = 4 ∧ (tt B L i).2 = 45)) : PX 0 B L N i0 w (Qv PT 3) C0 hc0 hm0 (kfn (woI wo) hc) (mrT wo (n2 + 1) hm) := by
  rcases q with ⟨q1, q2, q3, q4⟩ | ⟨o, q1, q2, q3, q4, q5⟩
  · subst q1 q2 q3
    refine Or.inl ⟨i, P, hc, hm, ?_, rs_end j.2.1 n2 np nm, hi, j, q_w q4 (by decide), a, b⟩
    unfold kfn
    rw [if_pos (show woI none = -1 from rfl)]
  · subst q1 q2
    obtain ⟨gc, gm, e1, e2, e3, e4, e5, _⟩ := j_emit j o 0 (by omega)
    refine Or.inl ⟨i, A ++ P ++ [(o, 0)], gc, gm, ?_, ?_, hi, by rw [← List.append_assoc]; exact e3, ?_, fc_t a e4, fx_t b e5⟩
    · unfold kfn
      rw [if_neg (show ¬ woI (some o) = -1 from nI_nm1 (show o < 2 ^ 31 by omega)), show mD_emit (woI (some o)) 0 hc = some (1, gc) from em_at e1, bd2_e, if_neg no10]
    · show bd (mm_emits (nI o) 0 hm) _ = _
      rw [show mm_emits (nI o) 0 hm = some gm from e2, bd_e]
      exact rs_end e3.2.1 n2 np nm
    · exact q_bin q4 q5 (by omega) (by omega) (by omega) (by omega) (by decide) (by decide) (op_ar (by omega))
theorem ex_loop {B : Nat → Nat} {L N w i0 : Nat} {C0 : List (Nat × Nat)} {hc0 hm0 : PH} : ∀ (n i it wl : Nat) (wo : Option Nat) (A P : List (Nat × Nat)) (hc hm : PH) (nM nS : Nat), N < n + i → N < nM + i → N < nS + i → it < i → i0 < i → JJ 0 B L N i (w + wl) (C0 ++ (A ++ P)) hc hm → SQ wo wl A P → FC hc0 hc → FX hm0 hm → PX 0 B L N i0 w (Qv PT 3) C0 hc0 hm0 (mD_expression_L13 kfn n (woI wo) (nI it) hc) (MR wo nM nS hm) := by
  intro n
  induction n with
  | zero => intro i it wl wo A P hc hm nM nS h1 _ _ _ _ j; have := j.1.2.1; omega
  | succ n ih =>
    intro i it wl wo A P hc hm nM nS h1 h2 h3 h4 h5 j q a b
    have iN := j.1.2.1
    have N4 := j.1.1.2.1
    cases nM with
    | zero => omega
    | succ nM =>
    cases nS with
    | zero => omega
    | succ nS =>
    unfold MR
    by_cases c42 : (tt B L i).1 = 4 ∧ (tt B L i).2 = 42
    · obtain ⟨gm, d1, d2, d3, d4, d5⟩ := j_adv j (by omega)
      rw [ex_mul j.1 it (by omega) c42, d1, bd_e, rp_mul j.2.1 c42, d2, bd_e]
      rcases u_sim d3 with ⟨u, gc2, gm2, u1, u2, u3, u4, u5, u6⟩ | ⟨gc2, gm2, u1, u2, u3, u4, u5⟩
      · obtain ⟨gc3, gm3, e1, e2, e3, e4, e5, _⟩ := j_emit u3 4 0 (by decide)
        rw [u1, bd2_e, if_neg no10, show mD_emit 4 0 gc2 = some (1, gc3) from em_at e1, bd2_e, u2, bd2_e, if_neg (show ¬ (0 : Int32) = -1 by decide), show mm_emits 4 0 gm2 = some gm3 from e2, bd_e]
        have e3' : JJ 0 B L N (i + 1 + 1) (w + wl) (C0 ++ (A ++ (P ++ [u] ++ [(4, 0)]))) gc3 gm3 := by
          have : C0 ++ (A ++ (P ++ [u] ++ [(4, 0)])) = C0 ++ (A ++ P) ++ [u] ++ [(4, 0)] := by simp only [List.append_assoc]
          rw [this]
          exact e3
        have q' : SQ wo wl A (P ++ [u] ++ [(4, 0)]) := by
          have qb : Qv PT 2 P → Qv PT 2 (P ++ [u] ++ [(4, 0)]) := fun z => q_bin z (q_unit u.1 u.2 u4) (by decide) (by decide) (by decide) (by decide) (by decide) (by decide) (op_ar (by decide))
          rcases q with ⟨q1, q2, q3, q4⟩ | ⟨o, q1, q2, q3, q4, q5⟩
          · exact Or.inl ⟨q1, q2, q3, qb q4⟩
          · exact Or.inr ⟨o, q1, q2, q3, q4, qb q5⟩
        exact ih (i + 1 + 1) (it + 1) wl wo A _ gc3 gm3 nM (nS + 1) (by omega) (by omega) (by omega) (by omega) (by omega) e3' q' (fc_t (fc_t (fc_t a d4) u5) e4) (fx_t (fx_t (fx_t b (fx_4 d5)) u6) e5)
      · rw [u1, bd2_e, if_pos rfl, u2, bd2_e, if_pos rfl, bd2_e, if_pos rfl]
        exact Or.inr ⟨gc2, gm2, rfl, rfl, u3, fc_t (fc_t a d4) u4, fx_t (fx_t b (fx_4 d5)) u5⟩
    · by_cases c47 : (tt B L i).1 = 4 ∧ (tt B L i).2 = 47
      · obtain ⟨gm, d1, d2, d3, d4, d5⟩ := j_adv j (by omega)
        rw [ex_div j.1 it (by omega) c47, d1, bd_e, rp_div j.2.1 c47, d2, bd_e]
        have tc := cu_tk d3.1
        have tm : TkM (tt B L (i + 1)) (gm 104 14) (gm 104 15) := d3.2.1.2.2.2
        unfold mD_takesNumber
        by_cases c3 : (tt B L (i + 1)).1 = 3
        · have c6 : avH hc (i + 1) 90 6 = 2 ∧ avH hc (i + 1) 90 7 = nI (tt B L (i + 1)).2 ∧ (tt B L (i + 1)).2 < 10000 := by
            rcases tc with ⟨z, _⟩ | ⟨z, _⟩ | ⟨z, _⟩ | ⟨z, z2, z3, z4⟩ | ⟨z, _⟩
            · omega
            · omega
            · omega
            · exact ⟨z3, z4, z2⟩
            · omega
          have m6 : gm 104 14 = 3 ∧ gm 104 15 = nI (tt B L (i + 1)).2 := by
            rcases tm with ⟨z, _⟩ | ⟨z, _⟩ | ⟨z, _⟩ | ⟨z, z2, z3, z4⟩ | ⟨z, _⟩
            · omega
            · omega
            · omega
            · exact ⟨z3, z4⟩
            · omega
          obtain ⟨c6a, c6b, c6c⟩ := c6
          rw [if_pos c6a, if_pos m6.1, c6b, m6.2]
          by_cases c0 : (tt B L (i + 1)).2 = 0
          · rw [c0, within_n (by decide), bd_e, if_pos rfl, if_pos (show nI 0 = (0 : Int32) from rfl)]
            obtain ⟨gc, gm2, r1, r2, r3, r4, r5⟩ := j_ref d3 2
            rw [r1, bd2_e, bd2_e, if_pos (show nb 0 = (0 : Int32) from rfl)]
            unfold kp2
            rw [r2, bd2_e, bd2_e, if_pos rfl]
            exact Or.inr ⟨gc, gm2, rfl, rfl, r3, fc_t (fc_t a d4) r4, fx_t (fx_t b (fx_4 d5)) r5⟩
          · generalize hv : (tt B L (i + 1)).2 = v at c6b c6c m6 c0 ⊢
            rw [within_y ⟨show (1 : Int32) ≤ nI v from nI_le (a := 1) (by omega) (by omega), show nI v ≤ (9999 : Int32) from nI_le (b := 9999) (by omega) (by decide)⟩, bd_e, if_neg no10, if_neg (show ¬ nI v = (0 : Int32) from fun z => c0 ((nI_eq (b := 0) (by omega) (by decide)).mp z)), lt_e]
            obtain ⟨j1, j2, j3, j4, j5⟩ := d3
            have iN1 := cu_lt j1 (by omega)
            have cu9 : CU 0 B L N (i + 1) (up (avH hc (i + 1)) 90 9 (nI v)) := cu_9 j1 _
            obtain ⟨k1, k2⟩ := cu_adv cu9 iN1
            have k9 : avH (up (avH hc (i + 1)) 90 9 (nI v)) (i + 1 + 1) 90 9 = nI v := by rw [avH_o _ _ 9 (by decide) (by decide) (by decide), up_same]
            have cc9 : CC (C0 ++ (A ++ P)) (avH (up (avH hc (i + 1)) 90 9 (nI v)) (i + 1 + 1)) := cc_b (cc_b j3 (funext fun _ => up_oc (by decide)) (funext fun _ => up_oc (by decide))) (avH_b _ _ 93 (by decide)) (avH_b _ _ 94 (by decide))
            have fc9 : FC hc0 (avH (up (avH hc (i + 1)) 90 9 (nI v)) (i + 1 + 1)) := fc_t (fc_t a d4) (fc_t ⟨fun x x1 _ _ => funext fun _ => up_oc x1, up_oj (by decide)⟩ (fc_av _ _))
            rw [k1, bd_e, bd2_e, if_neg no10]
            generalize avH (up (avH hc (i + 1)) 90 9 (nI v)) (i + 1 + 1) = hc9 at k2 k9 cc9 fc9 ⊢
            have le := xp_le (C0 ++ (A ++ P))
            obtain ⟨gc, a1, a2, a3⟩ := cc_add cc9 (by omega) 5 v
            rw [k9, show mD_emit 5 (nI v) hc9 = some (1, gc) from em_at a1, bd2_e]
            obtain ⟨b1, b2⟩ := mc_add j4 (by omega) 0 v
            obtain ⟨gm2, e1, e2, e3⟩ := mu_adv (mu_em j2 (xp (C0 ++ (A ++ P))).length (nI 0) (nI v))
            have ml : (xp (C0 ++ (A ++ P)) ++ [(0, v)]).length = (xp (C0 ++ (A ++ P))).length + 1 := by rw [List.length_append]; rfl
            obtain ⟨b3, b4⟩ := mc_add (mc_4 b2 e2) (by rw [ml]; omega) 5 0
            rw [mu_num m6.1, m6.2, show mm_emits 0 (nI v) gm = _ from b1, bd_e, e1, bd_e, bd2_e, if_neg (show ¬ (0 : Int32) = -1 by decide), show mm_emits 5 0 gm2 = _ from b3, bd_e]
            have e3' : JJ 0 B L N (i + 1 + 1) (w + wl) (C0 ++ (A ++ (P ++ [(5, v)]))) gc (emO gm2 (xp (C0 ++ (A ++ P)) ++ [(0, v)]).length (nI 5) (nI 0)) := by
              have : C0 ++ (A ++ (P ++ [(5, v)])) = C0 ++ (A ++ P) ++ [(5, v)] := by simp only [List.append_assoc]
              rw [this]
              refine ⟨cu_b k2 a3, mu_em e3 _ _ _, a2, ?_, ?_⟩
              · rw [xp_app, xp_5, show xp (C0 ++ (A ++ P)) ++ [(0, v), (5, 0)] = xp (C0 ++ (A ++ P)) ++ [(0, v)] ++ [(5, 0)] by rw [List.append_assoc]; rfl]
                exact b4
              · rw [xp_app, xp_5, List.length_append]
                show (xp (C0 ++ (A ++ P))).length + 2 + (w + wl) ≤ i + 1 + 1
                omega
            have q' : SQ wo wl A (P ++ [(5, v)]) := by
              rcases q with ⟨q1, q2, q3, q4⟩ | ⟨o, q1, q2, q3, q4, q5⟩
              · exact Or.inl ⟨q1, q2, q3, q_part v q4⟩
              · exact Or.inr ⟨o, q1, q2, q3, q4, q_part v q5⟩
            exact ih (i + 1 + 1) (it + 1) wl wo A _ gc _ nM (nS + 1) (by omega) (by omega) (by omega) (by omega) (by omega) e3' q' (fc_t fc9 ⟨fun x x1 x2 x3 => a3 x x2 x3, by rw [a3 90 (by decide) (by decide)]⟩) (fx_t (fx_t (fx_t b (fx_4 d5)) (fx_t fx_em (fx_4 e2))) fx_em)
        · have c6 : ¬ avH hc (i + 1) 90 6 = 2 := fun z => by
            rcases tc with ⟨_, y⟩ | ⟨_, y⟩ | ⟨_, _, ⟨_, _, _, y, _⟩ | ⟨y, _⟩⟩ | ⟨y, _⟩ | ⟨_, _, y, _⟩
            · rw [y] at z; exact absurd z (by decide)
            · rw [y] at z; exact absurd z (by decide)
            · rw [y] at z; exact absurd z (by decide)
            · rw [y] at z; exact absurd z (by decide)
            · exact c3 y
            · rw [y] at z; exact absurd z (by decide)
          have m6 : ¬ gm 104 14 = 3 := fun z => by
            rcases tm with ⟨_, y⟩ | ⟨_, y⟩ | ⟨_, _, y, _⟩ | ⟨y, _⟩ | ⟨_, _, y, _⟩
            · rw [y] at z; exact absurd z (by decide)
            · rw [y] at z; exact absurd z (by decide)
            · rw [y] at z; exact absurd z (by decide)
            · exact c3 y
            · rw [y] at z; exact absurd z (by decide)
          obtain ⟨gc, gm2, r1, r2, r3, r4, r5⟩ := j_ref d3 1
          rw [if_neg c6, r1, bd2_e, bd2_e, if_pos (show nb 0 = (0 : Int32) from rfl), if_neg m6]
          unfold kp1
          rw [r2, bd2_e, bd2_e, if_pos rfl]
          exact Or.inr ⟨gc, gm2, rfl, rfl, r3, fc_t (fc_t a d4) r4, fx_t (fx_t b (fx_4 d5)) r5⟩
      · rw [rp_end j.2.1 c42 c47, bd2_e, if_neg (show ¬ (0 : Int32) = -1 by decide)]
        by_cases cs : ((tt B L i).1 = 4 ∧ (tt B L i).2 = 43) ∨ ((tt B L i).1 = 4 ∧ (tt B L i).2 = 45)
        · have key : ∃ o x : Nat, (o = 2 ∨ o = 3) ∧ (tt B L i).1 = 4 ∧ (tt B L i).2 = x ∧ ((o = 2 ∧ x = 43) ∨ (o = 3 ∧ x = 45)) := by
            rcases cs with z | z
            · exact ⟨2, 43, Or.inl rfl, z.1, z.2, Or.inl ⟨rfl, rfl⟩⟩
            · exact ⟨3, 45, Or.inr rfl, z.1, z.2, Or.inr ⟨rfl, rfl⟩⟩
          obtain ⟨o, x, o1, x1, x2, ox⟩ := key
          -- behind the sign: a unit, and on
          have core : ∀ (gc gm : PH) (A2 : List (Nat × Nat)), JJ 0 B L N (i + 1) (w + 1) (C0 ++ A2) gc gm → Qv PT 3 A2 → FC hc0 gc → FX hm0 gm → PX 0 B L N i0 w (Qv PT 3) C0 hc0 hm0 (exU n o it gc) (bd2 (mm_readProduct gm) fun r8 h9 => if r8 = (-1) then some ((-1), h9) else bd (mm_emits (nI o) 0 h9) fun h10 => mm_readSum_L10 nS h10) := fun gc gm A2 jj q2 a2 b2 => by
            unfold exU
            rcases u_sim jj with ⟨u, gc2, gm2, u1, u2, u3, u4, u5, u6⟩ | ⟨gc2, gm2, u1, u2, u3, u4, u5⟩
            · rw [u1, bd2_e, if_neg no10, rp_ok u2]
              rw [List.append_assoc] at u3
              exact ih (i + 1 + 1) (it + 1) 1 (some o) A2 [u] gc2 gm2 FU nS (by omega) (by unfold FU; omega) (by omega) (by omega) (by omega) u3 (Or.inr ⟨o, rfl, rfl, o1, q2, q_w (q_unit u.1 u.2 u4) (by decide)⟩) (fc_t a2 u5) (fx_t b2 u6)
            · rw [u1, bd2_e, if_pos rfl, rp_err u2, bd2_e, if_pos rfl]
              exact Or.inr ⟨gc2, gm2, rfl, rfl, u3, fc_t a2 u4, fx_t b2 u5⟩
          rw [ex_sg j.1 it (by omega) x1 x2 ox]
          rcases q with ⟨q1, q2, q3, q4⟩ | ⟨o', q1, q2, q3, q4, q5⟩
          · subst q1 q2 q3
            obtain ⟨gm, d1, d2, d3, d4, d5⟩ := j_adv j (by omega)
            rw [d1, bd_e, if_pos (show woI none = -1 from rfl)]
            show PX 0 B L N i0 w (Qv PT 3) C0 hc0 hm0 _ (mm_readSum_L10 (nS + 1) hm)
            rw [rs_sg j.2.1 nS x1 x2 ox, d2, bd_e]
            exact core _ gm P d3 (q_w q4 (by decide)) (fc_t a d4) (fx_t b (fx_4 d5))
          · subst q1 q2
            obtain ⟨gc, gm1, gm2, d1, d2, d3, d4, d5, d6, d7, d8⟩ := j_swap j (by omega) o' 0 (by omega)
            rw [d1, bd_e, if_neg (show ¬ woI (some o') = -1 from nI_nm1 (show o' < 2 ^ 31 by omega)), show mD_emit (woI (some o')) 0 (avH hc (i + 1)) = some (1, gc) from em_at d2, bd2_e]
            show PX 0 B L N i0 w (Qv PT 3) C0 hc0 hm0 _ (bd (mm_emits (nI o') 0 hm) fun h10 => mm_readSum_L10 (nS + 1) h10)
            rw [show mm_emits (nI o') 0 hm = some gm1 from d3, bd_e, rs_sg d4 nS x1 x2 ox, d5, bd_e]
            rw [List.append_assoc] at d6
            exact core gc gm2 (A ++ P ++ [(o', 0)]) d6 (q_bin q4 q5 (by omega) (by omega) (by omega) (by omega) (by decide) (by decide) (op_ar (by omega))) (fc_t a d7) (fx_t b d8)
        · have n43 : ¬ ((tt B L i).1 = 4 ∧ (tt B L i).2 = 43) := fun z => cs (Or.inl z)
          have n45 : ¬ ((tt B L i).1 = 4 ∧ (tt B L i).2 = 45) := fun z => cs (Or.inr z)
          rw [ex_none j.1 it (by omega) n43 n45 c42 c47]
          exact ex_end j q h5 a b nS n43 n45
/-- a sum, on both sides -/
theorem ex_sim {B : Nat → Nat} {L N i w : Nat} {C : List (Nat × Nat)} {hc hm : PH} (j : JJ 0 B L N i w C hc hm) : PX 0 B L N i w (Qv PT 3) C hc hm (mD_expression hc) (mm_readSum hm) := by
  unfold mD_expression mm_readSum
  rcases u_sim j with ⟨u, gc2, gm2, u1, u2, u3, u4, u5, u6⟩ | ⟨gc2, gm2, u1, u2, u3, u4, u5⟩
  · have iN := u3.1.2.1
    have N4 := u3.1.1.2.1
    rw [u1, bd2_e, if_neg (by decide), rp_ok u2]
    have := ex_loop (w := w) (i0 := i) (C0 := C) (hc0 := hc) (hm0 := hm) FU (i + 1) 0 0 none [] [u] gc2 gm2 FU FU (by unfold FU; omega) (by unfold FU; omega) (by unfold FU; omega) (by omega) (by omega) u3 (Or.inl ⟨rfl, rfl, rfl, q_w (q_unit u.1 u.2 u4) (by decide)⟩) u5 u6
    rw [nI_0] at this
    exact this
  · rw [u1, bd2_e, if_pos rfl, rp_err u2, bd2_e, if_pos rfl]
    exact Or.inr ⟨gc2, gm2, rfl, rfl, u3, u4, u5⟩
end
section
/-! WHAT WAITS in a condition: the model's stack -/
def FM (h g : PH) : Prop := (∀ b, b ≠ 104 → b ≠ 118 → b ≠ 119 → b ≠ 120 → g b = h b) ∧ ∀ j, j ≠ 12 → j ≠ 13 → j ≠ 14 → j ≠ 15 → j ≠ 25 → j ≠ 26 → j ≠ 28 → j ≠ 29 → j ≠ 30 → g 104 j = h 104 j
theorem fm_r (h : PH) : FM h h := ⟨fun _ _ _ _ _ => rfl, fun _ _ _ _ _ _ _ _ _ _ => rfl⟩
theorem fm_t {h g f : PH} (a : FM h g) (b : FM g f) : FM h f := ⟨fun x x1 x2 x3 x4 => by rw [b.1 x x1 x2 x3 x4, a.1 x x1 x2 x3 x4], fun j j1 j2 j3 j4 j5 j6 j7 j8 j9 => by rw [b.2 j j1 j2 j3 j4 j5 j6 j7 j8 j9, a.2 j j1 j2 j3 j4 j5 j6 j7 j8 j9]⟩
theorem fm_x {h g : PH} (a : FX h g) : FM h g := ⟨fun x x1 x2 x3 _ => a.1 x x1 x2 x3, fun j j1 j2 j3 j4 j5 _ _ j8 j9 => a.2 j j1 j2 j3 j4 j5 j8 j9⟩
theorem fm_up {h g : PH} (a : FM h g) {j : Nat} (hj : j = 26 ∨ j = 28) (v : Int32) : FM h (up g 104 j v) := ⟨fun x x1 x2 x3 x4 => by rw [up_cell x1]; exact a.1 x x1 x2 x3 x4, fun k k1 k2 k3 k4 k5 k6 k7 k8 k9 => by rw [up_oj (by omega)]; exact a.2 k k1 k2 k3 k4 k5 k6 k7 k8 k9⟩
theorem fm_120 {h g : PH} (a : FM h g) (j : Nat) (v : Int32) : FM h (up g 120 j v) := ⟨fun x x1 x2 x3 x4 => by rw [up_cell x4]; exact a.1 x x1 x2 x3 x4, fun k k1 k2 k3 k4 k5 k6 k7 k8 k9 => by rw [up_oc (by decide)]; exact a.2 k k1 k2 k3 k4 k5 k6 k7 k8 k9⟩
theorem mu_of {B : Nat → Nat} {L i : Nat} {h g : PH} (m : MU B L i h) (e1 : g 111 = h 111) (e2 : g 112 = h 112) (e : ∀ j, 11 ≤ j → j ≤ 15 → g 104 j = h 104 j) : MU B L i g := by
  obtain ⟨⟨t1, t2, t3, t4⟩, m2, m3, m4⟩ := m
  unfold MU TM
  rw [e1, e2, e 11 (by decide) (by decide), e 12 (by decide) (by decide), e 13 (by decide) (by decide), e 14 (by decide) (by decide), e 15 (by decide) (by decide)]
  exact ⟨⟨t1, t2, t3, t4⟩, m2, m3, m4⟩
theorem mc_of {C : List (Nat × Nat)} {h g : PH} (c : MC C h) (e1 : g 118 = h 118) (e2 : g 119 = h 119) (e : g 104 25 = h 104 25) : MC C g := by
  unfold MC at c ⊢
  rw [e1, e2, e]
  exact c
/-- the stack S, its top first -/
def MS (S : List Nat) (h : PH) : Prop := h 104 28 = nI S.length ∧ S.length ≤ 40 ∧ ∀ j x, S[j]? = some x → h 120 (S.length - 1 - j) = nI x
theorem ms_of {S : List Nat} {h g : PH} (m : MS S h) (e1 : g 120 = h 120) (e : g 104 28 = h 104 28) : MS S g := by
  unfold MS at m ⊢
  rw [e1, e]
  exact m
theorem ms_push {S : List Nat} {h : PH} (m : MS S h) (hl : S.length < 40) (x : Nat) : mm_waits (nI x) h = some (up (up h 120 S.length (nI x)) 104 28 (nI (S.length + 1))) ∧ MS (x :: S) (up (up h 120 S.length (nI x)) 104 28 (nI (S.length + 1))) := by
  obtain ⟨m1, m2, m3⟩ := m
  constructor
  · unfold mm_waits
    rw [m1, ck_nI hl (by decide), lt_e, show ix (nI S.length) = S.length from nI_clamp (by omega), up_oc (by decide), m1, lt_e, nI_1]
  · refine ⟨by rw [up_same, List.length_cons], by rw [List.length_cons]; omega, fun j y hj => ?_⟩
    rw [up_oc (by decide), List.length_cons]
    cases j with
    | zero =>
      have hj : some x = some y := hj
      cases hj
      rw [show S.length + 1 - 1 - 0 = S.length by omega, up_same]
    | succ j =>
      have hj : S[j]? = some y := hj
      obtain ⟨a, _⟩ := List.getElem?_eq_some_iff.mp hj
      rw [up_oj (by omega), show S.length + 1 - 1 - (j + 1) = S.length - 1 - j by omega]
      exact m3 j y hj
theorem ms_pop {S : List Nat} {h : PH} {x : Nat} (m : MS (x :: S) h) : h 104 28 - 1 = nI S.length ∧ h 120 S.length = nI x ∧ MS S (up h 104 28 (nI S.length)) := by
  obtain ⟨m1, m2, m3⟩ := m
  rw [List.length_cons] at m1 m2 m3
  refine ⟨by rw [m1, nI_pred], ?_, up_same, by omega, fun j y hj => ?_⟩
  · have := m3 0 x rfl
    rw [show S.length + 1 - 1 - 0 = S.length by omega] at this
    exact this
  · obtain ⟨a, _⟩ := List.getElem?_eq_some_iff.mp hj
    have := m3 (j + 1) y hj
    rw [up_oc (by decide), show S.length - 1 - j = S.length + 1 - 1 - (j + 1) by omega]
    exact this
/-- the top isn't x -/
def TN (S : List Nat) (x : Nat) : Prop := ∀ y S', S = y :: S' → y < 100 ∧ y ≠ x
theorem se_no {S : List Nat} {h : PH} (m : MS S h) (x : Nat) (hx : x < 100) (t : TN S x) (n : Nat) : mm_settles_L0 (nI x) (n + 1) h = some h := by
  rw [mm_settles_L0]
  cases S with
  | nil => rw [if_pos (by rw [m.1]; decide)]
  | cons y S =>
    obtain ⟨a, b⟩ := t y S rfl
    obtain ⟨p1, p2, p3⟩ := ms_pop m
    have l := m.2.1
    rw [List.length_cons] at l
    rw [if_neg (by rw [m.1, List.length_cons]; exact nI_nle (by omega) (by omega)), p1, ck_nI (show S.length < 40 by omega) (by decide), show ix (nI S.length) = S.length from nI_clamp (by omega), p2, if_neg (fun z => b ((nI_eq (by omega) (by omega)).mp z))]
/-- the model at token i with codes D, stack S, o open -/
def MZ (B : Nat → Nat) (L i : Nat) (D : List (Nat × Nat)) (S : List Nat) (o : Nat) (h : PH) : Prop := MU B L i h ∧ MC D h ∧ MS S h ∧ h 104 26 = nI o ∧ D.length + S.length ≤ i ∧ i ≤ 400
theorem se_go {B : Nat → Nat} {L i x : Nat} (hx : x < 100) {S : List Nat} (t : TN S x) : ∀ (k n : Nat) (D : List (Nat × Nat)) (o : Nat) (h : PH), k < n → (x = 9 → k ≤ o) → o < 100 → MZ B L i D (List.replicate k x ++ S) o h → ∃ g, mm_settles_L0 (nI x) n h = some g ∧ MZ B L i (D ++ List.replicate k (x, 0)) S (if x = 9 then o - k else o) g ∧ FM h g := by
  intro k
  induction k with
  | zero =>
    intro n D o h hn ho ho2 z
    cases n with
    | zero => omega
    | succ n =>
      have e : List.replicate 0 x ++ S = S := rfl
      rw [e] at z
      refine ⟨h, se_no z.2.2.1 x hx t n, ?_, fm_r h⟩
      rw [show D ++ List.replicate 0 (x, 0) = D from List.append_nil D, Nat.sub_zero, ite_self]
      exact z
  | succ k ih =>
    intro n D o h hn ho ho2 z
    cases n with
    | zero => omega
    | succ n =>
      have e : List.replicate (k + 1) x ++ S = x :: (List.replicate k x ++ S) := rfl
      rw [e] at z
      obtain ⟨z1, z2, z3, z4, z5, z6⟩ := z
      rw [List.length_cons] at z5
      generalize hT : List.replicate k x ++ S = T at z3 z5
      have l := z3.2.1
      rw [List.length_cons] at l
      obtain ⟨p1, p2, p3⟩ := ms_pop z3
      have c1 : MC D (up h 104 28 (nI T.length)) := mc_of z2 (up_cell (by decide)) (up_cell (by decide)) (up_oj (by decide))
      obtain ⟨b1, b2⟩ := mc_add c1 (by omega) x 0
      have len1 : (D ++ [(x, 0)]).length = D.length + 1 := by rw [List.length_append]; rfl
      have y1 : MU B L i (emO (up h 104 28 (nI T.length)) D.length (nI x) (nI 0)) := mu_em (mu_of z1 (up_cell (by decide)) (up_cell (by decide)) (fun j _ _ => up_oj (by omega))) _ _ _
      have y3 : MS T (emO (up h 104 28 (nI T.length)) D.length (nI x) (nI 0)) := ms_of p3 (emO_b 120 (by decide) (by decide) (by decide)) (emO_104 (by decide))
      have y4 : emO (up h 104 28 (nI T.length)) D.length (nI x) (nI 0) 104 26 = nI o := by rw [emO_104 (by decide), up_oj (by decide)]; exact z4
      have yf : FM h (emO (up h 104 28 (nI T.length)) D.length (nI x) (nI 0)) := fm_t (fm_up (fm_r h) (Or.inr rfl) _) (fm_x fx_em)
      rw [mm_settles_L0, if_neg (by rw [z3.1, List.length_cons]; exact nI_nle (by omega) (by omega)), p1, ck_nI (show T.length < 40 by omega) (by decide), show ix (nI T.length) = T.length from nI_clamp (by omega), p2, if_pos rfl, lt_e, show mm_emits (nI x) 0 (up h 104 28 (nI T.length)) = _ from b1, bd_e]
      generalize emO (up h 104 28 (nI T.length)) D.length (nI x) (nI 0) = g at b2 y1 y3 y4 yf ⊢
      have ap : D ++ [(x, 0)] ++ List.replicate k (x, 0) = D ++ List.replicate (k + 1) (x, 0) := by rw [List.append_assoc]; rfl
      by_cases c9 : x = 9
      · subst c9
        rw [if_pos (show nI 9 = (9 : Int32) from rfl), lt_e, y4, show nI o - 1 = nI (o - 1) by rw [show (1 : Int32) = nI 1 from rfl, nI_sub (by have := ho rfl; omega)]]
        have zz : MZ B L i (D ++ [(9, 0)]) (List.replicate k 9 ++ S) (o - 1) (up g 104 26 (nI (o - 1))) := by
          rw [hT]
          exact ⟨mu_of y1 (up_cell (by decide)) (up_cell (by decide)) (fun j _ _ => up_oj (by omega)), mc_of b2 (up_cell (by decide)) (up_cell (by decide)) (up_oj (by decide)), ms_of y3 (up_cell (by decide)) (up_oj (by decide)), up_same, by rw [len1]; omega, z6⟩
        obtain ⟨f, f1, f2, f3⟩ := ih n (D ++ [(9, 0)]) (o - 1) (up g 104 26 (nI (o - 1))) (by omega) (fun _ => by have := ho rfl; omega) (by omega) zz
        rw [ap, if_pos rfl, show o - 1 - k = o - (k + 1) by omega] at f2
        exact ⟨f, f1, by rw [if_pos rfl]; exact f2, fm_t (fm_up yf (Or.inl rfl) _) f3⟩
      · rw [if_neg (show ¬ nI x = (9 : Int32) from fun q => c9 ((nI_eq (b := 9) (by omega) (by decide)).mp q))]
        have zz : MZ B L i (D ++ [(x, 0)]) (List.replicate k x ++ S) o g := by
          rw [hT]
          exact ⟨y1, b2, y3, y4, by rw [len1]; omega, z6⟩
        obtain ⟨f, f1, f2, f3⟩ := ih n (D ++ [(x, 0)]) o g (by omega) (fun q => absurd q c9) ho2 zz
        rw [ap, if_neg c9] at f2
        exact ⟨f, f1, by rw [if_neg c9]; exact f2, fm_t yf f3⟩
theorem se_k {B : Nat → Nat} {L i x : Nat} (hx : x < 100) {S : List Nat} (t : TN S x) (k : Nat) (D : List (Nat × Nat)) (o : Nat) (h : PH) (hk : k < 1000) (ho : x = 9 → k ≤ o) (ho2 : o < 100) (z : MZ B L i D (List.replicate k x ++ S) o h) : ∃ g, mm_settles (nI x) h = some g ∧ MZ B L i (D ++ List.replicate k (x, 0)) S (if x = 9 then o - k else o) g ∧ FM h g :=
  se_go hx t k FU D o h (by unfold FU; omega) ho ho2 z
theorem mz_read {B : Nat → Nat} {L i : Nat} {D : List (Nat × Nat)} {S : List Nat} {o : Nat} {h : PH} (z : MZ B L i D S o h) (hi : i < 400) : ∃ g, mm_reads h = some g ∧ MZ B L (i + 1) D S o g ∧ FM h g := by
  obtain ⟨z1, z2, z3, z4, z5, z6⟩ := z
  obtain ⟨g, g1, g2, g3⟩ := mu_adv z1
  exact ⟨g, g1, ⟨g3, mc_4 z2 g2, ms_of z3 (g2.1 120 (by decide)) (g2.2 28 (by decide) (by decide) (by decide) (by decide)), by rw [g2.2 26 (by decide) (by decide) (by decide) (by decide)]; exact z4, by omega, by omega⟩, fm_x (fx_4 g2)⟩
/-- a token that waits: pushed, and the next one read -/
theorem mz_push {B : Nat → Nat} {L i : Nat} {D : List (Nat × Nat)} {S : List Nat} {o : Nat} {h : PH} (z : MZ B L i D S o h) (hl : S.length < 40) (hi : i < 400) (x : Nat) : ∃ g f, mm_waits (nI x) h = some g ∧ mm_reads g = some f ∧ MZ B L (i + 1) D (x :: S) o f ∧ FM h f := by
  obtain ⟨z1, z2, z3, z4, z5, z6⟩ := z
  obtain ⟨p1, p2⟩ := ms_push z3 hl x
  have m1 : MU B L i (up (up h 120 S.length (nI x)) 104 28 (nI (S.length + 1))) := mu_of z1 (by rw [up_cell (by decide), up_cell (by decide)]) (by rw [up_cell (by decide), up_cell (by decide)]) (fun j _ _ => by rw [up_oj (by omega), up_oc (by decide)])
  have m2 : MC D (up (up h 120 S.length (nI x)) 104 28 (nI (S.length + 1))) := mc_of z2 (by rw [up_cell (by decide), up_cell (by decide)]) (by rw [up_cell (by decide), up_cell (by decide)]) (by rw [up_oj (by decide), up_oc (by decide)])
  have m4 : up (up h 120 S.length (nI x)) 104 28 (nI (S.length + 1)) 104 26 = nI o := by rw [up_oj (by decide), up_oc (by decide)]; exact z4
  have mf : FM h (up (up h 120 S.length (nI x)) 104 28 (nI (S.length + 1))) := fm_up (fm_120 (fm_r h) _ _) (Or.inr rfl) _
  generalize up (up h 120 S.length (nI x)) 104 28 (nI (S.length + 1)) = g at p1 p2 m1 m2 m4 mf
  obtain ⟨f, g1, g2, g3⟩ := mu_adv m1
  refine ⟨g, f, p1, g1, ⟨g3, mc_4 m2 g2, ms_of p2 (g2.1 120 (by decide)) (g2.2 28 (by decide) (by decide) (by decide) (by decide)), by rw [g2.2 26 (by decide) (by decide) (by decide) (by decide)]; exact m4, ?_, by omega⟩, fm_t mf (fm_x (fx_4 g2))⟩
  rw [List.length_cons]
  omega
end
section
/-! CONDITIONS: the class goes down by calls, the model by its stack -/
theorem wv0x (x : Nat) (hx : x < 19) : (wv 0).getD x 99 = x := wv0 x hx
theorem c_w1 {B : Nat → Nat} {L N i : Nat} {h : PH} (c : CU 0 B L N i h) {x : Nat} (e : (tt B L i).1 = 2 ∧ (tt B L i).2 = x) (hx : x < 19) : mD_isWord (nI x) h = some 1 := by rw [c_wd (by decide) c x (by rw [wv0l]; exact hx), wv0x x hx, if_pos e]
theorem c_w0 {B : Nat → Nat} {L N i : Nat} {h : PH} (c : CU 0 B L N i h) {x : Nat} (e : ¬ ((tt B L i).1 = 2 ∧ (tt B L i).2 = x)) (hx : x < 19) : mD_isWord (nI x) h = some 0 := by rw [c_wd (by decide) c x (by rw [wv0l]; exact hx), wv0x x hx, if_neg e]
theorem m_w1 {B : Nat → Nat} {L i : Nat} {h : PH} (m : MU B L i h) {x : Nat} (e : (tt B L i).1 = 2 ∧ (tt B L i).2 = x) (hx : x < 256) : mm_isWord (nI x) h = some 1 := by rw [m_wd m x hx, if_pos e]
theorem m_w0 {B : Nat → Nat} {L i : Nat} {h : PH} (m : MU B L i h) {x : Nat} (e : ¬ ((tt B L i).1 = 2 ∧ (tt B L i).2 = x)) (hx : x < 256) : mm_isWord (nI x) h = some 0 := by rw [m_wd m x hx, if_neg e]
def refC (p : Int32) (h : PH) : Option (Int32 × PH) := bd2 (mD_refuse p h) fun r h => some (nb r, h)
def emitC (o : Int32) (h : PH) : Option (Int32 × PH) := bd2 (mD_emit o 0 h) fun r25 h26 => if r25 = 0 then some (0, h26) else some (1, h26)
/-- a comparison of the class, of the model, behind the first sum -/
def cmT (h16 : PH) : Option (Int32 × PH) := lt (h16 90 7) fun x17 => bd (mD_isSign 60 h16) fun r18 => jn0 (bd (mD_advance h16) fun h20 => bd2 (mD_expression h20) fun r21 h22 => if r21 = 0 then some (0, h22) else jn1 (fun (x24 : Int32) => bd2 (mD_emit x24 0 h22) fun r25 h26 => if r25 = 0 then some (0, h26) else some (1, h26)) fun j23 => if x17 = 60 then j23 6 else if x17 = 61 then j23 7 else j23 8) fun j19 => if r18 = 0 then bd (mD_isSign 61 h16) fun r27 => if r27 = 0 then bd (mD_isSign 62 h16) fun r28 => if r28 = 0 then bd2 (mD_refuse 1 h16) fun r29 h30 => some (nb r29, h30) else j19 else j19 else j19
def cmM (h2 : PH) : Option (Int32 × PH) := bd (mm_isSign 60 h2) fun r3 => jn0 (jn1 (fun (x6 : Int32) => bd (mm_reads h2) fun h7 => bd2 (mm_readSum h7) fun r8 h9 => if r8 = (-1) then some ((-1), h9) else bd (mm_emits x6 0 h9) fun h10 => some (0, h10)) fun j5 => if (h2 104 15) = 60 then j5 6 else if (h2 104 15) = 61 then j5 7 else j5 8) fun j4 => if r3 = 0 then bd (mm_isSign 61 h2) fun r11 => if r11 = 0 then bd (mm_isSign 62 h2) fun r12 => if r12 = 0 then bd2 (mm_errs 1 h2) fun r13 h14 => some (r13, h14) else j4 else j4 else j4
theorem rc_eq (h : PH) : mm_readCompared h = bd2 (mm_readSum h) fun r1 h2 => if r1 = (-1) then some ((-1), h2) else cmM h2 := rfl
theorem cl_cmp {B : Nat → Nat} {L N i : Nat} {h : PH} (c : CU 0 B L N i h) (f0 f1 : Int32 → PH → Option (Int32 × PH)) (p : Int32) (n6 : ¬ ((tt B L i).1 = 2 ∧ (tt B L i).2 = 6)) (n40 : ¬ ((tt B L i).1 = 4 ∧ (tt B L i).2 = 40)) : mD_clause_F f0 f1 p h = bd2 (mD_expression h) fun r15 h16 => if r15 = 0 then some (0, h16) else cmT h16 := by
  unfold mD_clause_F
  rw [show mD_isWord 6 h = some 0 from c_w0 (x := 6) c n6 (by decide), bd_e, jn0_e, if_pos rfl, show mD_isSign 40 h = some 0 from c_s0 (x := 40) c n40 (by decide), bd_e, if_pos rfl]
  rfl
def cmX (o x : Nat) : Prop := (o = 6 ∧ x = 60) ∨ (o = 7 ∧ x = 61) ∨ (o = 8 ∧ x = 62)
theorem cmT_y {B : Nat → Nat} {L N i : Nat} {h : PH} (c : CU 0 B L N i h) {o x : Nat} (x1 : (tt B L i).1 = 4) (x2 : (tt B L i).2 = x) (ox : cmX o x) : cmT h = bd (mD_advance h) fun h20 => bd2 (mD_expression h20) fun r21 h22 => if r21 = 0 then some (0, h22) else emitC (nI o) h22 := by
  have xv := sg_v c ⟨x1, x2⟩
  unfold cmT
  rw [lt_e, xv]
  rcases ox with ⟨o1, o2⟩ | ⟨o1, o2⟩ | ⟨o1, o2⟩
  · subst o1 o2
    rw [show mD_isSign 60 h = some 1 from c_s1 (x := 60) c ⟨x1, x2⟩ (by decide), bd_e, jn0_e, if_neg no10]
    (simp only [jn1_e, if_pos (show nI 60 = (60 : Int32) from rfl)]) <;> rfl
  · subst o1 o2
    rw [show mD_isSign 60 h = some 0 from c_s0 (x := 60) c (by omega) (by decide), bd_e, jn0_e, if_pos rfl, show mD_isSign 61 h = some 1 from c_s1 (x := 61) c ⟨x1, x2⟩ (by decide), bd_e, if_neg no10]
    (simp only [jn1_e, if_neg (show ¬ nI 61 = (60 : Int32) by decide), if_pos (show nI 61 = (61 : Int32) from rfl)]) <;> rfl
  · subst o1 o2
    rw [show mD_isSign 60 h = some 0 from c_s0 (x := 60) c (by omega) (by decide), bd_e, jn0_e, if_pos rfl, show mD_isSign 61 h = some 0 from c_s0 (x := 61) c (by omega) (by decide), bd_e, if_pos rfl, show mD_isSign 62 h = some 1 from c_s1 (x := 62) c ⟨x1, x2⟩ (by decide), bd_e, if_neg no10]
    (simp only [jn1_e, if_neg (show ¬ nI 62 = (60 : Int32) by decide), if_neg (show ¬ nI 62 = (61 : Int32) by decide)]) <;> rfl
theorem cmT_n {B : Nat → Nat} {L N i : Nat} {h : PH} (c : CU 0 B L N i h) (n : ∀ o x, cmX o x → ¬ ((tt B L i).1 = 4 ∧ (tt B L i).2 = x)) : cmT h = refC 1 h := by
  unfold cmT
  rw [lt_e, show mD_isSign 60 h = some 0 from c_s0 (x := 60) c (n 6 60 (Or.inl ⟨rfl, rfl⟩)) (by decide), bd_e, jn0_e, if_pos rfl, show mD_isSign 61 h = some 0 from c_s0 (x := 61) c (n 7 61 (Or.inr (Or.inl ⟨rfl, rfl⟩))) (by decide), bd_e, if_pos rfl, show mD_isSign 62 h = some 0 from c_s0 (x := 62) c (n 8 62 (Or.inr (Or.inr ⟨rfl, rfl⟩))) (by decide), bd_e, if_pos rfl]
  rfl
theorem cmM_y {B : Nat → Nat} {L i : Nat} {h : PH} (m : MU B L i h) {o x : Nat} (x1 : (tt B L i).1 = 4) (x2 : (tt B L i).2 = x) (ox : cmX o x) : cmM h = bd (mm_reads h) fun h7 => bd2 (mm_readSum h7) fun r8 h9 => if r8 = (-1) then some ((-1), h9) else bd (mm_emits (nI o) 0 h9) fun h10 => some (0, h10) := by
  have xv := msg_v m ⟨x1, x2⟩
  unfold cmM
  rw [xv]
  rcases ox with ⟨o1, o2⟩ | ⟨o1, o2⟩ | ⟨o1, o2⟩
  · subst o1 o2
    rw [show mm_isSign 60 h = some 1 from m_s1 (x := 60) m ⟨x1, x2⟩ (by decide), bd_e, jn0_e, if_neg no10]
    (simp only [jn1_e, if_pos (show nI 60 = (60 : Int32) from rfl)]) <;> rfl
  · subst o1 o2
    rw [show mm_isSign 60 h = some 0 from m_s0 (x := 60) m (by omega) (by decide), bd_e, jn0_e, if_pos rfl, show mm_isSign 61 h = some 1 from m_s1 (x := 61) m ⟨x1, x2⟩ (by decide), bd_e, if_neg no10]
    (simp only [jn1_e, if_neg (show ¬ nI 61 = (60 : Int32) by decide), if_pos (show nI 61 = (61 : Int32) from rfl)]) <;> rfl
  · subst o1 o2
    rw [show mm_isSign 60 h = some 0 from m_s0 (x := 60) m (by omega) (by decide), bd_e, jn0_e, if_pos rfl, show mm_isSign 61 h = some 0 from m_s0 (x := 61) m (by omega) (by decide), bd_e, if_pos rfl, show mm_isSign 62 h = some 1 from m_s1 (x := 62) m ⟨x1, x2⟩ (by decide), bd_e, if_neg no10]
    (simp only [jn1_e, if_neg (show ¬ nI 62 = (60 : Int32) by decide), if_neg (show ¬ nI 62 = (61 : Int32) by decide)]) <;> rfl
theorem cmM_n {B : Nat → Nat} {L i : Nat} {h : PH} (m : MU B L i h) (n : ∀ o x, cmX o x → ¬ ((tt B L i).1 = 4 ∧ (tt B L i).2 = x)) : cmM h = kp1 h := by
  unfold cmM
  rw [show mm_isSign 60 h = some 0 from m_s0 (x := 60) m (n 6 60 (Or.inl ⟨rfl, rfl⟩)) (by decide), bd_e, jn0_e, if_pos rfl, show mm_isSign 61 h = some 0 from m_s0 (x := 61) m (n 7 61 (Or.inr (Or.inl ⟨rfl, rfl⟩))) (by decide), bd_e, if_pos rfl, show mm_isSign 62 h = some 0 from m_s0 (x := 62) m (n 8 62 (Or.inr (Or.inr ⟨rfl, rfl⟩))) (by decide), bd_e, if_pos rfl]
  rfl
/-- a comparison on both sides -/
theorem cp_sim {B : Nat → Nat} {L N i w : Nat} {C : List (Nat × Nat)} {hc hm : PH} (j : JJ 0 B L N i w C hc hm) : PX 0 B L N i w (Qv P01 4) C hc hm (bd2 (mD_expression hc) fun r15 h16 => if r15 = 0 then some (0, h16) else cmT h16) (mm_readCompared hm) := by
  rw [rc_eq]
  rcases ex_sim j with ⟨i1, A, hc1, hm1, e1, e2, e3, e4, e5, e6, e7⟩ | ⟨hc1, hm1, e1, e2, e3, e4, e5⟩
  · rw [e1, bd2_e, if_neg no10, e2, bd2_e, if_neg (show ¬ (0 : Int32) = -1 by decide)]
    by_cases c : ∃ o x, cmX o x ∧ (tt B L i1).1 = 4 ∧ (tt B L i1).2 = x
    · obtain ⟨o, x, ox, x1, x2⟩ := c
      obtain ⟨gm, d1, d2, d3, d4, d5⟩ := j_adv e4 (by omega)
      rw [cmT_y e4.1 x1 x2 ox, d1, bd_e, cmM_y e4.2.1 x1 x2 ox, d2, bd_e]
      rcases ex_sim d3 with ⟨i2, D, hc2, hm2, f1, f2, f3, f4, f5, f6, f7⟩ | ⟨hc2, hm2, f1, f2, f3, f4, f5⟩
      · have ho : o = 6 ∨ o = 7 ∨ o = 8 := by
          rcases ox with z | z | z
          · exact Or.inl z.1
          · exact Or.inr (Or.inl z.1)
          · exact Or.inr (Or.inr z.1)
        obtain ⟨gc3, gm3, g1, g2, g3, g4, g5, _⟩ := j_emit f4 o 0 (by omega)
        rw [f1, bd2_e, if_neg no10, f2, bd2_e, if_neg (show ¬ (0 : Int32) = -1 by decide), show mm_emits (nI o) 0 hm2 = some gm3 from g2, bd_e]
        unfold emitC
        rw [show mD_emit (nI o) 0 hc2 = some (1, gc3) from em_at g1, bd2_e, if_neg no10]
        refine Or.inl ⟨i2, A ++ D ++ [(o, 0)], gc3, gm3, rfl, rfl, by omega, ?_, ?_, fc_t (fc_t (fc_t e6 d4) f6) g4, fx_t (fx_t (fx_t e7 (fx_4 d5)) f7) g5⟩
        · have : C ++ (A ++ D ++ [(o, 0)]) = C ++ A ++ D ++ [(o, 0)] := by simp only [List.append_assoc]
          rw [this]
          exact g3
        · exact q_bin e5 f5 (by omega) (by omega) (by omega) (by omega) (by decide) (by decide) (op_cm ho)
      · rw [f1, bd2_e, if_pos rfl, f2, bd2_e, if_pos rfl]
        exact Or.inr ⟨hc2, hm2, rfl, rfl, f3, fc_t (fc_t e6 d4) f4, fx_t (fx_t e7 (fx_4 d5)) f5⟩
    · have n : ∀ o x, cmX o x → ¬ ((tt B L i1).1 = 4 ∧ (tt B L i1).2 = x) := fun o x ox z => c ⟨o, x, ox, z.1, z.2⟩
      rw [cmT_n e4.1 n, cmM_n e4.2.1 n]
      exact px_err e4 1 e6 e7 rfl rfl
  · rw [e1, bd2_e, if_pos rfl, e2, bd2_e, if_pos rfl]
    exact Or.inr ⟨hc1, hm1, rfl, rfl, e3, e4, e5⟩
/-! the model's loop, case by case -/
def ka3 (h33 : PH) : Option (Int32 × PH) := bd2 (mm_errs 3 h33) fun r34 h35 => some (r34, h35)
def RA (n : Nat) (b d : Int32) (h : PH) : Option (Int32 × PH) := mm_readAny_L9 ka3 kp1 n b d h
def EL (n : Nat) (v1 : Int32) (h5 : PH) : Option (Int32 × PH) := if v1 = 0 then some (0, h5) else bd (mm_isSign 41 h5) fun r6 => if r6 = 0 then kp1 h5 else lt (up h5 104 28 ((h5 104 28) - 1)) fun h7 => lt (v1 - 1) fun x8 => lt (up h7 104 26 ((h7 104 26) - 1)) fun h9 => bd (mm_settles 9 h9) fun h10 => bd (mm_reads h10) fun h11 => RA n x8 0 h11
theorem ra_not {B : Nat → Nat} {L i n : Nat} {b : Int32} {h : PH} (m : MU B L i h) (x : (tt B L i).1 = 2 ∧ (tt B L i).2 = 6) (o8 : ¬ h 104 26 = 8) : RA (n + 1) b 1 h = bd (mm_waits 9 (up h 104 26 (h 104 26 + 1))) fun h26 => bd (mm_reads h26) fun h27 => RA n b 1 h27 := by
  unfold RA
  rw [mm_readAny_L9, if_neg no10, show mm_isWord 6 h = some 1 from m_w1 (x := 6) m x (by decide), bd_e, jn0_e, if_neg no10, if_neg o8, lt_e]
  (simp only [jn1_e, if_neg no10]) <;> rfl
theorem ra_br {B : Nat → Nat} {L i n : Nat} {b : Int32} {h : PH} (m : MU B L i h) (x : (tt B L i).1 = 4 ∧ (tt B L i).2 = 40) (o8 : ¬ h 104 26 = 8) : RA (n + 1) b 1 h = bd (mm_waits 12 (up h 104 26 (h 104 26 + 1))) fun h26 => bd (mm_reads h26) fun h27 => RA n (b + 1) 1 h27 := by
  unfold RA
  rw [mm_readAny_L9, if_neg no10, show mm_isWord 6 h = some 0 from m_w0 (x := 6) m (by omega) (by decide), bd_e, jn0_e, if_pos rfl, show mm_isSign 40 h = some 1 from m_s1 (x := 40) m x (by decide), bd_e, if_neg no10, if_neg o8, lt_e]
  (simp only [jn1_e, lt_e, if_pos (show (0 : Int32) = 0 from rfl)]) <;> rfl
theorem ra_full {B : Nat → Nat} {L i n : Nat} {b : Int32} {h : PH} (m : MU B L i h) (x : ((tt B L i).1 = 2 ∧ (tt B L i).2 = 6) ∨ ((tt B L i).1 = 4 ∧ (tt B L i).2 = 40)) (o8 : h 104 26 = 8) : RA (n + 1) b 1 h = ka3 h := by
  unfold RA
  rw [mm_readAny_L9, if_neg no10]
  rcases x with x | x
  · rw [show mm_isWord 6 h = some 1 from m_w1 (x := 6) m x (by decide), bd_e, jn0_e, if_neg no10, if_pos o8]
  · rw [show mm_isWord 6 h = some 0 from m_w0 (x := 6) m (by omega) (by decide), bd_e, jn0_e, if_pos rfl, show mm_isSign 40 h = some 1 from m_s1 (x := 40) m x (by decide), bd_e, if_neg no10, if_pos o8]
theorem ra_cmp {B : Nat → Nat} {L i n : Nat} {b : Int32} {h : PH} (m : MU B L i h) (n6 : ¬ ((tt B L i).1 = 2 ∧ (tt B L i).2 = 6)) (n40 : ¬ ((tt B L i).1 = 4 ∧ (tt B L i).2 = 40)) : RA (n + 1) b 1 h = bd2 (mm_readCompared h) fun r30 h31 => if r30 = (-1) then some ((-1), h31) else bd (mm_settles 9 h31) fun h32 => RA n b 0 h32 := by
  unfold RA
  rw [mm_readAny_L9, if_neg no10, show mm_isWord 6 h = some 0 from m_w0 (x := 6) m n6 (by decide), bd_e, jn0_e, if_pos rfl, show mm_isSign 40 h = some 0 from m_s0 (x := 40) m n40 (by decide), bd_e, if_pos rfl]
theorem ra_and {B : Nat → Nat} {L i n : Nat} {b : Int32} {h : PH} (m : MU B L i h) (x : (tt B L i).1 = 2 ∧ (tt B L i).2 = 5) : RA (n + 1) b 0 h = bd (mm_settles 10 h) fun h16 => bd (mm_waits 10 h16) fun h17 => bd (mm_reads h17) fun h18 => RA n b 1 h18 := by
  unfold RA
  rw [mm_readAny_L9, if_pos rfl, show mm_isWord 5 h = some 1 from m_w1 (x := 5) m x (by decide), bd_e, if_neg no10]
theorem ra_or {B : Nat → Nat} {L i n : Nat} {b : Int32} {h : PH} (m : MU B L i h) (x : (tt B L i).1 = 2 ∧ (tt B L i).2 = 4) : RA (n + 1) b 0 h = bd (mm_settles 10 h) fun h12 => bd (mm_settles 11 h12) fun h13 => bd (mm_waits 11 h13) fun h14 => bd (mm_reads h14) fun h15 => RA n b 1 h15 := by
  unfold RA
  rw [mm_readAny_L9, if_pos rfl, show mm_isWord 5 h = some 0 from m_w0 (x := 5) m (by omega) (by decide), bd_e, if_pos rfl, show mm_isWord 4 h = some 1 from m_w1 (x := 4) m x (by decide), bd_e, if_neg no10]
theorem ra_end {B : Nat → Nat} {L i n : Nat} {b : Int32} {h : PH} (m : MU B L i h) (n5 : ¬ ((tt B L i).1 = 2 ∧ (tt B L i).2 = 5)) (n4 : ¬ ((tt B L i).1 = 2 ∧ (tt B L i).2 = 4)) : RA (n + 1) b 0 h = bd (mm_settles 10 h) fun h4 => bd (mm_settles 11 h4) fun h5 => EL n b h5 := by
  unfold RA
  rw [mm_readAny_L9, if_pos rfl, show mm_isWord 5 h = some 0 from m_w0 (x := 5) m n5 (by decide), bd_e, if_pos rfl, show mm_isWord 4 h = some 0 from m_w0 (x := 4) m n4 (by decide), bd_e, if_pos rfl]
  rfl
/-! the class's clause, case by case -/
theorem cl_not {B : Nat → Nat} {L N i : Nat} {h : PH} (c : CU 0 B L N i h) (f0 f1 : Int32 → PH → Option (Int32 × PH)) (p : Int32) (x : (tt B L i).1 = 2 ∧ (tt B L i).2 = 6) (p8 : p < 8) : mD_clause_F f0 f1 p h = bd (mD_advance h) fun h3 => bd2 (f1 (p + 1) h3) fun r8 h9 => if r8 = 0 then some (0, h9) else emitC 9 h9 := by
  unfold mD_clause_F
  rw [show mD_isWord 6 h = some 1 from c_w1 (x := 6) c x (by decide), bd_e, jn0_e, if_neg no10, if_pos p8]
  (simp only [if_neg no10]) <;> rfl
theorem cl_br {B : Nat → Nat} {L N i : Nat} {h : PH} (c : CU 0 B L N i h) (f0 f1 : Int32 → PH → Option (Int32 × PH)) (p : Int32) (x : (tt B L i).1 = 4 ∧ (tt B L i).2 = 40) (p8 : p < 8) : mD_clause_F f0 f1 p h = bd (mD_advance h) fun h3 => bd2 (f0 (p + 1) h3) fun r4 h5 => if r4 = 0 then some (0, h5) else bd2 (mD_takesSign 41 h5) fun r6 h7 => if r6 = 0 then some (0, h7) else some (1, h7) := by
  unfold mD_clause_F
  rw [show mD_isWord 6 h = some 0 from c_w0 (x := 6) c (by omega) (by decide), bd_e, jn0_e, if_pos rfl, show mD_isSign 40 h = some 1 from c_s1 (x := 40) c x (by decide), bd_e, if_neg no10, if_pos p8]
  (simp only [if_pos (show (0 : Int32) = 0 from rfl)]) <;> rfl
theorem cl_full {B : Nat → Nat} {L N i : Nat} {h : PH} (c : CU 0 B L N i h) (f0 f1 : Int32 → PH → Option (Int32 × PH)) (p : Int32) (x : ((tt B L i).1 = 2 ∧ (tt B L i).2 = 6) ∨ ((tt B L i).1 = 4 ∧ (tt B L i).2 = 40)) (p8 : ¬ p < 8) : mD_clause_F f0 f1 p h = refC 3 h := by
  unfold mD_clause_F
  rcases x with x | x
  · rw [show mD_isWord 6 h = some 1 from c_w1 (x := 6) c x (by decide), bd_e, jn0_e, if_neg no10, if_neg p8]
    rfl
  · rw [show mD_isWord 6 h = some 0 from c_w0 (x := 6) c (by omega) (by decide), bd_e, jn0_e, if_pos rfl, show mD_isSign 40 h = some 1 from c_s1 (x := 40) c x (by decide), bd_e, if_neg no10, if_neg p8]
    rfl
def cdK (p : Int32) (f1 : Int32 → PH → Option (Int32 × PH)) (n : Nat) (v : Int32) (it : Nat) (isA : Bool) (h9 : PH) : Option (Int32 × PH) := bd2 (f1 p h9) fun r10 h11 => if r10 = 0 then some (0, h11) else if isA = true then bd2 (mD_emit 10 0 h11) fun _ h13 => mD_condition_L14 p f1 kfn n v (nI (it + 1)) h13 else mD_condition_L14 p f1 kfn n v (nI (it + 1)) h11
theorem cd_and {B : Nat → Nat} {L N i n : Nat} {h : PH} {v p : Int32} (c : CU 0 B L N i h) (f1 : Int32 → PH → Option (Int32 × PH)) (it : Nat) (hit : it < 400) (x : (tt B L i).1 = 2 ∧ (tt B L i).2 = 5) : mD_condition_L14 p f1 kfn (n + 1) v (nI it) h = bd (mD_advance h) fun h6 => cdK p f1 n v it true h6 := by
  rw [mD_condition_L14, if_neg (show ¬ (400 : Int32) ≤ nI it from nI_ge (b := 400) hit (by decide)), show mD_isWord 4 h = some 0 from c_w0 (x := 4) c (by omega) (by decide), bd_e, jn0_e, if_pos rfl, show mD_isWord 5 h = some 1 from c_w1 (x := 5) c x (by decide), bd_e, if_neg no10, bd_e]
  unfold cdK
  (simp only [jn2_e, if_neg no10, if_pos, nI_1]) <;> rfl
theorem cd_or {B : Nat → Nat} {L N i n : Nat} {h : PH} {v p : Int32} (c : CU 0 B L N i h) (f1 : Int32 → PH → Option (Int32 × PH)) (it : Nat) (hit : it < 400) (x : (tt B L i).1 = 2 ∧ (tt B L i).2 = 4) : mD_condition_L14 p f1 kfn (n + 1) v (nI it) h = bd (mD_advance h) fun h6 => if v = (-1) then cdK p f1 n 11 it false h6 else bd2 (mD_emit v 0 h6) fun _ h15 => cdK p f1 n 11 it false h15 := by
  rw [mD_condition_L14, if_neg (show ¬ (400 : Int32) ≤ nI it from nI_ge (b := 400) hit (by decide)), show mD_isWord 4 h = some 1 from c_w1 (x := 4) c x (by decide), bd_e, jn0_e, if_neg no10, show mD_isWord 5 h = some 0 from c_w0 (x := 5) c (by omega) (by decide), bd_e]
  unfold cdK
  (simp only [jn2_e, if_pos (show (0 : Int32) = 0 from rfl), nI_1, Bool.false_eq_true, if_false]) <;> rfl
theorem cd_end {B : Nat → Nat} {L N i n : Nat} {h : PH} {v p : Int32} (c : CU 0 B L N i h) (f1 : Int32 → PH → Option (Int32 × PH)) (it : Nat) (hit : it < 400) (n5 : ¬ ((tt B L i).1 = 2 ∧ (tt B L i).2 = 5)) (n4 : ¬ ((tt B L i).1 = 2 ∧ (tt B L i).2 = 4)) : mD_condition_L14 p f1 kfn (n + 1) v (nI it) h = kfn v h := by
  rw [mD_condition_L14, if_neg (show ¬ (400 : Int32) ≤ nI it from nI_ge (b := 400) hit (by decide)), show mD_isWord 4 h = some 0 from c_w0 (x := 4) c n4 (by decide), bd_e, jn0_e, if_pos rfl, show mD_isWord 5 h = some 0 from c_w0 (x := 5) c n5 (by decide), bd_e, if_pos rfl]
end
section
/-! CONDITIONS, on both sides -/
def nO : List Nat → Nat
  | [] => 0
  | x :: S => (if x = 9 ∨ x = 12 then 1 else 0) + nO S
def aS (S : List Nat) : Prop := ∀ x, x ∈ S → x < 100
theorem aS_c {x : Nat} {S : List Nat} (hx : x < 100) (a : aS S) : aS (x :: S) := fun y hy => by
  rcases List.mem_cons.mp hy with e | e
  · rw [e]; exact hx
  · exact a y e
theorem tn_c {x y : Nat} {S : List Nat} (hy : y < 100) (n : y ≠ x) : TN (y :: S) x := fun z S' e => by
  cases e
  exact ⟨hy, n⟩
theorem nO_rep (k : Nat) (S : List Nat) : nO (List.replicate k 9 ++ S) = k + nO S := by
  induction k with
  | zero => show nO S = 0 + nO S; omega
  | succ k ih =>
    show (if (9 : Nat) = 9 ∨ (9 : Nat) = 12 then 1 else 0) + nO (List.replicate k 9 ++ S) = _
    rw [if_pos (Or.inl rfl), ih]
    omega
theorem dec9 : ∀ S : List Nat, aS S → ∃ k S', S = List.replicate k 9 ++ S' ∧ TN S' 9 := by
  intro S
  induction S with
  | nil => intro _; exact ⟨0, [], rfl, fun y S' e => by cases e⟩
  | cons x S ih =>
    intro a
    by_cases c : x = 9
    · obtain ⟨k, S', e, t⟩ := ih (fun y hy => a y (List.mem_cons_of_mem _ hy))
      exact ⟨k + 1, S', by rw [c, e]; rfl, t⟩
    · exact ⟨0, x :: S, rfl, tn_c (a x List.mem_cons_self) c⟩
theorem xp_rep (k : Nat) : xp (List.replicate k (9, 0)) = List.replicate k (9, 0) := by
  induction k with
  | zero => rfl
  | succ k ih => rw [List.replicate_succ, xp, if_neg (by decide), ih]
/-- both at token i: the class with codes C, the model with D, its stack S, o open -/
def JZ (B : Nat → Nat) (L N i : Nat) (C D : List (Nat × Nat)) (S : List Nat) (o : Nat) (hc hm : PH) : Prop := CU 0 B L N i hc ∧ CC C hc ∧ MZ B L i (xp D) S o hm
theorem jz_jj {B : Nat → Nat} {L N i : Nat} {C : List (Nat × Nat)} {S : List Nat} {o : Nat} {hc hm : PH} (j : JZ B L N i C C S o hc hm) : JJ 0 B L N i S.length C hc hm := ⟨j.1, j.2.2.1, j.2.1, j.2.2.2.1, j.2.2.2.2.2.2.1⟩
theorem mz_open {B : Nat → Nat} {L i : Nat} {D : List (Nat × Nat)} {S : List Nat} {o : Nat} {h : PH} (z : MZ B L i D S o h) (o' : Nat) : MZ B L i D S o' (up h 104 26 (nI o')) := by
  obtain ⟨z1, z2, z3, z4, z5, z6⟩ := z
  exact ⟨mu_of z1 (up_cell (by decide)) (up_cell (by decide)) (fun j _ _ => up_oj (by omega)), mc_of z2 (up_cell (by decide)) (up_cell (by decide)) (up_oj (by decide)), ms_of z3 (up_cell (by decide)) (up_oj (by decide)), up_same, z5, z6⟩
def OKc (B : Nat → Nat) (L N i : Nat) (C : List (Nat × Nat)) (k : Nat) (S' : List Nat) (o t b : Nat) (hc hm : PH) (rc rm : Option (Int32 × PH)) : Prop := ∃ j A gc gm nM', i < j ∧ rc = some (1, gc) ∧ rm = RA nM' (nI b) 0 gm ∧ N < nM' + j ∧ JZ B L N j (C ++ A) (C ++ A ++ List.replicate k (9, 0)) S' o gc gm ∧ Qv P01 t A ∧ FC hc gc ∧ FM hm gm
def OKd (B : Nat → Nat) (L N i : Nat) (C : List (Nat × Nat)) (S : List Nat) (o t b : Nat) (hc hm : PH) (rc rm : Option (Int32 × PH)) : Prop := ∃ j A gc gm nM', i < j ∧ rc = some (1, gc) ∧ rm = EL nM' (nI b) gm ∧ N ≤ nM' + j ∧ JZ B L N j (C ++ A) (C ++ A) S o gc gm ∧ Qv P01 t A ∧ FC hc gc ∧ FM hm gm
def ERR (hc hm : PH) (rc rm : Option (Int32 × PH)) : Prop := ∃ gc gm, rc = some (0, gc) ∧ rm = some (-1, gm) ∧ FF gc gm ∧ FC hc gc ∧ FM hm gm
theorem err_of {B : Nat → Nat} {L N i w : Nat} {C : List (Nat × Nat)} {hc hm hc0 hm0 : PH} (j : JJ 0 B L N i w C hc hm) (p : Int32) (a : FC hc0 hc) (b : FM hm0 hm) {rc rm : Option (Int32 × PH)} (ec : rc = refC p hc) (em : rm = bd2 (mm_errs p hm) fun r h => some (r, h)) : ERR hc0 hm0 rc rm := by
  obtain ⟨gc, gm, r1, r2, r3, r4, r5⟩ := j_ref j p
  unfold refC at ec
  rw [r1, bd2_e] at ec
  rw [r2, bd2_e] at em
  exact ⟨gc, gm, ec, em, r3, fc_t a r4, fm_t b (fm_x r5)⟩
def CLP (B : Nat → Nat) (L N n : Nat) : Prop := ∀ (p b i nM : Nat) (C : List (Nat × Nat)) (S : List Nat) (k : Nat) (S' : List Nat) (hc hm : PH), p ≤ 8 → b ≤ p → 2 * (8 - p) + 1 ≤ n → nO S = p → S.length ≤ 3 * p + 2 → aS S → S = List.replicate k 9 ++ S' → TN S' 9 → JZ B L N i C C S p hc hm → N < nM + i → OKc B L N i C k S' (p - k) (2 * (8 - p) + 4) b hc hm (mD_cc n false (nI p) hc) (RA nM (nI b) 1 hm) ∨ ERR hc hm (mD_cc n false (nI p) hc) (RA nM (nI b) 1 hm)
def CNP (B : Nat → Nat) (L N n : Nat) : Prop := ∀ (p b i nM : Nat) (C : List (Nat × Nat)) (S : List Nat) (hc hm : PH), p ≤ 8 → b ≤ p → 2 * (8 - p) + 2 ≤ n → nO S = p → S.length ≤ 3 * p → aS S → TN S 9 → TN S 10 → TN S 11 → JZ B L N i C C S p hc hm → N < nM + i → OKd B L N i C S p (2 * (8 - p) + 6) b hc hm (mD_cc n true (nI p) hc) (RA nM (nI b) 1 hm) ∨ ERR hc hm (mD_cc n true (nI p) hc) (RA nM (nI b) 1 hm)
theorem cc_em {B : Nat → Nat} {L N i : Nat} {C : List (Nat × Nat)} {hc : PH} (cu : CU 0 B L N i hc) (cc : CC C hc) (hl : C.length < 400) (k : Nat) : ∃ gc, mD_emit (nI k) 0 hc = some (1, gc) ∧ CU 0 B L N i gc ∧ CC (C ++ [(k, 0)]) gc ∧ FC hc gc := by
  obtain ⟨gc, a1, a2, a3⟩ := cc_add cc hl k 0
  exact ⟨gc, em_at a1, cu_b cu a3, a2, ⟨fun b _ b2 b3 => a3 b b2 b3, by rw [a3 90 (by decide) (by decide)]⟩⟩
theorem cu_ad {B : Nat → Nat} {L N i : Nat} {C : List (Nat × Nat)} {hc : PH} (cu : CU 0 B L N i hc) (cc : CC C hc) (n0 : (tt B L i).1 ≠ 0) : mD_advance hc = some (avH hc (i + 1)) ∧ CU 0 B L N (i + 1) (avH hc (i + 1)) ∧ CC C (avH hc (i + 1)) ∧ FC hc (avH hc (i + 1)) ∧ i < 400 := by
  have l := cu_lt cu n0
  have N4 := cu.1.2.1
  obtain ⟨a1, a2⟩ := cu_adv cu l
  exact ⟨a1, a2, cc_b cc (avH_b hc _ 93 (by decide)) (avH_b hc _ 94 (by decide)), fc_av hc _, by omega⟩
theorem xl_rep (C : List (Nat × Nat)) (k : Nat) : (xp (C ++ List.replicate k (9, 0))).length = (xp C).length + k := by
  rw [xp_app, xp_rep, List.length_append, List.length_replicate]
/-- the NOTs that wait are put behind -/
theorem nots {B : Nat → Nat} {L i : Nat} {D : List (Nat × Nat)} {S S' : List Nat} {p k : Nat} {h : PH} (z : MZ B L i (xp D) S p h) (e : S = List.replicate k 9 ++ S') (t : TN S' 9) (hp : p ≤ 8) (hn : nO S = p) : ∃ g, mm_settles 9 h = some g ∧ MZ B L i (xp (D ++ List.replicate k (9, 0))) S' (p - k) g ∧ FM h g := by
  have kp : k ≤ p := by rw [← hn, e, nO_rep]; omega
  rw [e] at z
  obtain ⟨g, g1, g2, g3⟩ := se_k (x := 9) (by decide) t k (xp D) p h (by omega) (fun _ => kp) (by omega) z
  rw [if_pos rfl] at g2
  refine ⟨g, g1, ?_, g3⟩
  rw [xp_app, xp_rep]
  exact g2
theorem cl_step {B : Nat → Nat} {L N n : Nat} (cl : CLP B L N n) (cn : CNP B L N n) : CLP B L N (n + 1) := by
  intro p b i nM C S k S' hc hm hp hb hn ho hS haS eS tS j hM
  have iN := j.1.2.1
  have ccd : mD_cc (n + 1) false (nI p) hc = mD_clause_F (mD_cc n true) (mD_cc n false) (nI p) hc := rfl
  rw [ccd]
  cases nM with
  | zero => omega
  | succ nM =>
  have cu := j.1
  have mu := j.2.2.1
  by_cases x6 : (tt B L i).1 = 2 ∧ (tt B L i).2 = 6
  · by_cases p8 : p = 8
    · refine Or.inr (err_of (jz_jj j) 3 (fc_r hc) (fm_r hm) (cl_full cu _ _ _ (Or.inl x6) (by rw [p8]; decide)) (ra_full mu (Or.inl x6) (by rw [j.2.2.2.2.2.1, p8]; rfl)))
    · obtain ⟨a1, a2, a3, a4, a5⟩ := cu_ad cu j.2.1 (by omega)
      obtain ⟨f, g, b1, b2, b3, b4⟩ := mz_push (mz_open j.2.2 (p + 1)) (by omega) a5 9
      have o1 : hm 104 26 + 1 = nI (p + 1) := by rw [j.2.2.2.2.2.1, nI_1]
      rw [cl_not cu _ _ _ x6 (nI_lt (b := 8) (by omega) (by decide)), a1, bd_e, nI_1, ra_not mu x6 (by rw [j.2.2.2.2.2.1]; exact fun z => p8 ((nI_eq (b := 8) (by omega) (by decide)).mp z)), o1, show mm_waits 9 (up hm 104 26 (nI (p + 1))) = some f from b1, bd_e, b2, bd_e]
      have mf : FM hm g := fm_t (fm_up (fm_r hm) (Or.inl rfl) _) b4
      rcases cl (p + 1) b (i + 1) nM C (9 :: S) (k + 1) S' (avH hc (i + 1)) g (by omega) (by omega) (by omega) (by show (if (9 : Nat) = 9 ∨ (9 : Nat) = 12 then 1 else 0) + nO S = _; rw [if_pos (Or.inl rfl)]; omega) (by rw [List.length_cons]; omega) (aS_c (by decide) haS) (by rw [eS]; rfl) tS ⟨a2, a3, b3⟩ (by omega) with ⟨j2, A, gc, gm, nM', r1, r2, r3, r4, ⟨r5, r6, r7⟩, r8, r9, r10⟩ | ⟨gc, gm, r1, r2, r3, r4, r5⟩
      · have bl := r7.2.2.2.2.1
        rw [xl_rep] at bl
        have le := xp_le (C ++ A)
        have j4 := r7.2.2.2.2.2
        obtain ⟨gc2, q1, q2, q3, q4⟩ := cc_em r5 r6 (by omega) 9
        refine Or.inl ⟨j2, A ++ [(9, 0)], gc2, gm, nM', by omega, ?_, r3, r4, ⟨q2, by rw [← List.append_assoc]; exact q3, ?_⟩, q_w (q_not r8) (by omega), fc_t (fc_t a4 r9) q4, fm_t mf r10⟩
        · rw [r2, bd2_e, if_neg no10]
          unfold emitC
          rw [show mD_emit 9 0 gc = some (1, gc2) from q1, bd2_e, if_neg no10]
        · have e1 : C ++ (A ++ [(9, 0)]) ++ List.replicate k (9, 0) = C ++ A ++ List.replicate (k + 1) (9, 0) := by
            rw [List.replicate_succ]
            simp only [List.append_assoc, List.singleton_append]
          rw [e1, show p - k = p + 1 - (k + 1) by omega]
          exact r7
      · exact Or.inr ⟨gc, gm, by rw [r1, bd2_e, if_pos rfl], r2, r3, fc_t a4 r4, fm_t mf r5⟩
  · by_cases x40 : (tt B L i).1 = 4 ∧ (tt B L i).2 = 40
    · by_cases p8 : p = 8
      · refine Or.inr (err_of (jz_jj j) 3 (fc_r hc) (fm_r hm) (cl_full cu _ _ _ (Or.inr x40) (by rw [p8]; decide)) (ra_full mu (Or.inr x40) (by rw [j.2.2.2.2.2.1, p8]; rfl)))
      · obtain ⟨a1, a2, a3, a4, a5⟩ := cu_ad cu j.2.1 (by omega)
        obtain ⟨f, g, b1, b2, b3, b4⟩ := mz_push (mz_open j.2.2 (p + 1)) (by omega) a5 12
        have o1 : hm 104 26 + 1 = nI (p + 1) := by rw [j.2.2.2.2.2.1, nI_1]
        rw [cl_br cu _ _ _ x40 (nI_lt (b := 8) (by omega) (by decide)), a1, bd_e, nI_1, ra_br mu x40 (by rw [j.2.2.2.2.2.1]; exact fun z => p8 ((nI_eq (b := 8) (by omega) (by decide)).mp z)), o1, show mm_waits 12 (up hm 104 26 (nI (p + 1))) = some f from b1, bd_e, b2, bd_e, nI_1]
        have mf : FM hm g := fm_t (fm_up (fm_r hm) (Or.inl rfl) _) b4
        rcases cn (p + 1) (b + 1) (i + 1) nM C (12 :: S) (avH hc (i + 1)) g (by omega) (by omega) (by omega) (by show (if (12 : Nat) = 9 ∨ (12 : Nat) = 12 then 1 else 0) + nO S = _; rw [if_pos (Or.inr rfl)]; omega) (by rw [List.length_cons]; omega) (aS_c (by decide) haS) (tn_c (by decide) (by decide)) (tn_c (by decide) (by decide)) (tn_c (by decide) (by decide)) ⟨a2, a3, b3⟩ (by omega) with ⟨j2, A, gc, gm, nM', r1, r2, r3, r4, r5, r8, r9, r10⟩ | ⟨gc, gm, r1, r2, r3, r4, r5⟩
        · rw [r2, bd2_e, if_neg no10, r3]
          unfold EL
          rw [if_neg (nI_ne0 (show 0 < b + 1 by omega) (by omega))]
          by_cases x41 : (tt B L j2).1 = 4 ∧ (tt B L j2).2 = 41
          · obtain ⟨c1, c2, c3, c4, c5⟩ := cu_ad r5.1 r5.2.1 (by omega)
            obtain ⟨z1, z2, z3, z4, z5, z6⟩ := r5.2.2
            obtain ⟨p1, p2, p3⟩ := ms_pop z3
            have zS : MZ B L j2 (xp (C ++ A)) S p (up (up gm 104 28 (nI S.length)) 104 26 (nI p)) := by
              refine mz_open (o := p + 1) ⟨mu_of z1 (up_cell (by decide)) (up_cell (by decide)) (fun j _ _ => up_oj (by omega)), mc_of z2 (up_cell (by decide)) (up_cell (by decide)) (up_oj (by decide)), p3, by rw [up_oj (by decide)]; exact z4, ?_, z6⟩ p
              rw [List.length_cons] at z5
              omega
            obtain ⟨g2, s1, s2, s3⟩ := nots zS eS tS hp ho
            obtain ⟨g3, t1, t2, t3⟩ := mz_read s2 c5
            have o2 : up gm 104 28 (nI S.length) 104 26 - 1 = nI p := by rw [up_oj (by decide), z4, nI_pred]
            refine Or.inl ⟨j2 + 1, A, avH gc (j2 + 1), g3, nM', by omega, ?_, ?_, by omega, ⟨c2, c3, t2⟩, q_w r8 (by omega), fc_t (fc_t a4 r9) c4, fm_t (fm_t mf r10) (fm_t (fm_up (fm_up (fm_r gm) (Or.inr rfl) _) (Or.inl rfl) _) (fm_t s3 t3))⟩
            · unfold mD_takesSign
              rw [show mD_isSign 41 gc = some 1 from c_s1 (x := 41) r5.1 x41 (by decide), bd_e, if_neg no10, c1, bd_e, bd2_e, if_neg no10]
            · rw [show mm_isSign 41 gm = some 1 from m_s1 (x := 41) z1 x41 (by decide), bd_e, if_neg no10, lt_e, p1, lt_e, nI_pred, lt_e, o2, s1, bd_e, t1, bd_e]
          · refine Or.inr ?_
            obtain ⟨gc2, gm2, e1, e2, e3, e4, e5⟩ := j_ref (jz_jj r5) 1
            refine ⟨gc2, gm2, ?_, ?_, e3, fc_t (fc_t a4 r9) e4, fm_t (fm_t mf r10) (fm_x e5)⟩
            · unfold mD_takesSign
              rw [show mD_isSign 41 gc = some 0 from c_s0 (x := 41) r5.1 x41 (by decide), bd_e, if_pos rfl, e1, bd2_e, bd2_e, if_pos (show nb 0 = (0 : Int32) from rfl)]
            · rw [show mm_isSign 41 gm = some 0 from m_s0 (x := 41) r5.2.2.1 x41 (by decide), bd_e, if_pos rfl]
              unfold kp1
              rw [e2, bd2_e]
        · exact Or.inr ⟨gc, gm, by rw [r1, bd2_e, if_pos rfl], r2, r3, fc_t a4 r4, fm_t mf r5⟩
    · rw [cl_cmp cu _ _ _ x6 x40, ra_cmp mu x6 x40]
      rcases cp_sim (jz_jj j) with ⟨j2, A, gc, gm, e1, e2, e3, e4, e5, e6, e7⟩ | ⟨gc, gm, e1, e2, e3, e4, e5⟩
      · have zS : MZ B L j2 (xp (C ++ A)) S p gm := ⟨e4.2.1, e4.2.2.2.1, ms_of j.2.2.2.2.1 (e7.1 120 (by decide) (by decide) (by decide)) (e7.2 28 (by decide) (by decide) (by decide) (by decide) (by decide) (by decide) (by decide)), by rw [e7.2 26 (by decide) (by decide) (by decide) (by decide) (by decide) (by decide) (by decide)]; exact j.2.2.2.2.2.1, e4.2.2.2.2, by have := e4.1.2.1; have := e4.1.1.2.1; omega⟩
        obtain ⟨g2, s1, s2, s3⟩ := nots zS eS tS hp ho
        exact Or.inl ⟨j2, A, gc, g2, nM, e3, e1, by rw [e2, bd2_e, if_neg (show ¬ (0 : Int32) = -1 by decide), s1, bd_e], by omega, ⟨e4.1, e4.2.2.1, s2⟩, q_w e5 (by omega), e6, fm_t (fm_x e7) s3⟩
      · exact Or.inr ⟨gc, gm, e1, by rw [e2, bd2_e, if_pos rfl], e3, e4, fm_x e5⟩
end
section
/-! CONDITIONS: and, or -/
def tW (w : Bool) (S : List Nat) : List Nat := (if w = true then [11] else []) ++ S
def stW (w a : Bool) (S : List Nat) : List Nat := (if a = true then [10] else []) ++ tW w S
theorem tW_l (w : Bool) (S : List Nat) : (tW w S).length ≤ S.length + 1 ∧ nO (tW w S) = nO S ∧ (w = true → 1 ≤ (tW w S).length) := by
  cases w with
  | false => exact ⟨by show S.length ≤ _; omega, rfl, fun z => by cases z⟩
  | true =>
    refine ⟨by show S.length + 1 ≤ _; omega, ?_, fun _ => by show 1 ≤ S.length + 1; omega⟩
    show (if (11 : Nat) = 9 ∨ (11 : Nat) = 12 then 1 else 0) + nO S = nO S
    rw [if_neg (by decide)]
    omega
theorem aS_t (w : Bool) {S : List Nat} (a : aS S) : aS (tW w S) := by
  cases w with
  | false => exact a
  | true => exact aS_c (by decide) a
theorem co_10 {B : Nat → Nat} {L i p : Nat} {w a : Bool} {S : List Nat} {D F : List (Nat × Nat)} {h : PH} (hp : p ≤ 8) (t10 : TN S 10) (d0 : a = false → D = F) (d1 : a = true → D ++ [(10, 0)] = F) (z : MZ B L i (xp D) (stW w a S) p h) : ∃ g, mm_settles 10 h = some g ∧ MZ B L i (xp F) (tW w S) p g ∧ FM h g := by
  have tT : TN (tW w S) 10 := by
    cases w with
    | false => exact t10
    | true => exact tn_c (by decide) (by decide)
  cases a with
  | false =>
    obtain ⟨g, g1, g2, g3⟩ := se_k (x := 10) (by decide) tT 0 (xp D) p h (by decide) (fun q => absurd q (by decide)) (by omega) z
    rw [if_neg (by decide), show xp D ++ List.replicate 0 (10, 0) = xp D from List.append_nil _, d0 rfl] at g2
    exact ⟨g, g1, g2, g3⟩
  | true =>
    obtain ⟨g, g1, g2, g3⟩ := se_k (x := 10) (by decide) tT 1 (xp D) p h (by decide) (fun q => absurd q (by decide)) (by omega) z
    rw [if_neg (by decide)] at g2
    refine ⟨g, g1, ?_, g3⟩
    rw [← d1 rfl, xp_app, xp_1 (by decide)]
    exact g2
theorem co_11 {B : Nat → Nat} {L i p : Nat} {w : Bool} {S : List Nat} {F : List (Nat × Nat)} {h : PH} (hp : p ≤ 8) (t11 : TN S 11) (z : MZ B L i (xp F) (tW w S) p h) : ∃ g, mm_settles 11 h = some g ∧ MZ B L i (xp (if w = true then F ++ [(11, 0)] else F)) S p g ∧ FM h g := by
  cases w with
  | false =>
    obtain ⟨g, g1, g2, g3⟩ := se_k (x := 11) (by decide) t11 0 (xp F) p h (by decide) (fun q => absurd q (by decide)) (by omega) z
    rw [if_neg (by decide), show xp F ++ List.replicate 0 (11, 0) = xp F from List.append_nil _] at g2
    exact ⟨g, g1, g2, g3⟩
  | true =>
    obtain ⟨g, g1, g2, g3⟩ := se_k (x := 11) (by decide) t11 1 (xp F) p h (by decide) (fun q => absurd q (by decide)) (by omega) z
    rw [if_neg (by decide)] at g2
    refine ⟨g, g1, ?_, g3⟩
    rw [if_pos rfl, xp_app, xp_1 (by decide)]
    exact g2
def vW (w : Bool) : Int32 := if w = true then 11 else -1
theorem co_loop {B : Nat → Nat} {L N n : Nat} (cl : CLP B L N n) {p b : Nat} (hp : p ≤ 8) (hb : b ≤ p) (hn : 2 * (8 - p) + 1 ≤ n) {S : List Nat} (hO : nO S = p) (hS : S.length ≤ 3 * p) (haS : aS S) (t10 : TN S 10) (t11 : TN S 11) {C : List (Nat × Nat)} {i0 : Nat} {hc0 hm0 : PH} : ∀ (m i it nM : Nat) (w a : Bool) (X Y D : List (Nat × Nat)) (hc hm : PH), N < m + i → N < nM + i → it < i → i0 < i → (w = false → X = []) → (w = true → Qv P01 (2 * (8 - p) + 6) X) → Qv P01 (2 * (8 - p) + 5) Y → (a = false → D = C ++ (X ++ Y)) → (a = true → D ++ [(10, 0)] = C ++ (X ++ Y)) → JZ B L N i (C ++ (X ++ Y)) D (stW w a S) p hc hm → FC hc0 hc → FM hm0 hm → OKd B L N i0 C S p (2 * (8 - p) + 6) b hc0 hm0 (mD_condition_L14 (nI p) (mD_cc n false) kfn m (vW w) (nI it) hc) (RA nM (nI b) 0 hm) ∨ ERR hc0 hm0 (mD_condition_L14 (nI p) (mD_cc n false) kfn m (vW w) (nI it) hc) (RA nM (nI b) 0 hm) := by
  intro m
  induction m with
  | zero => intro i it nM w a X Y D hc hm h1 _ _ _ _ _ _ _ _ j; have := j.1.2.1; omega
  | succ m ih =>
    intro i it nM w a X Y D hc hm h1 h2 h3 h4 w0 w1 qY d0 d1 j fa fb
    obtain ⟨cu, cc, z⟩ := j
    have iN := cu.2.1
    have N4 := cu.1.2.1
    have mu := z.1
    obtain ⟨tl1, tl2, tl3⟩ := tW_l w S
    cases nM with
    | zero => omega
    | succ nM =>
    obtain ⟨g, s1, s2, s3⟩ := co_10 hp t10 d0 d1 z
    by_cases x5 : (tt B L i).1 = 2 ∧ (tt B L i).2 = 5
    · obtain ⟨a1, a2, a3, a4, a5⟩ := cu_ad cu cc (by omega)
      obtain ⟨f1, f2, b1, b2, b3, b4⟩ := mz_push s2 (by omega) a5 10
      rw [cd_and cu _ it (by omega) x5, a1, bd_e, ra_and mu x5, s1, bd_e, show mm_waits 10 g = some f1 from b1, bd_e, b2, bd_e]
      unfold cdK
      rcases cl p b (i + 1) nM (C ++ (X ++ Y)) (10 :: tW w S) 0 (10 :: tW w S) (avH hc (i + 1)) f2 hp hb hn (by show (if (10 : Nat) = 9 ∨ (10 : Nat) = 12 then 1 else 0) + nO (tW w S) = p; rw [if_neg (by decide), tl2]; omega) (by rw [List.length_cons]; omega) (aS_c (by decide) (aS_t w haS)) rfl (tn_c (by decide) (by decide)) ⟨a2, a3, b3⟩ (by omega) with ⟨j2, A, gc, gm, nM', r1, r2, r3, r4, ⟨r5, r6, r7⟩, r8, r9, r10⟩ | ⟨gc, gm, r1, r2, r3, r4, r5⟩
      · rw [show C ++ (X ++ Y) ++ A ++ List.replicate 0 (9, 0) = C ++ (X ++ Y) ++ A from List.append_nil _, Nat.sub_zero] at r7
        have bl := r7.2.2.2.2.1
        have j4 := r7.2.2.2.2.2
        rw [List.length_cons] at bl
        have le := xp_le (C ++ (X ++ Y) ++ A)
        obtain ⟨gc2, q1, q2, q3, q4⟩ := cc_em r5 r6 (by omega) 10
        rw [r2, bd2_e, if_neg no10, if_pos rfl, show mD_emit 10 0 gc = some (1, gc2) from q1, bd2_e, r3]
        have eC : C ++ (X ++ (Y ++ A ++ [(10, 0)])) = C ++ (X ++ Y) ++ A ++ [(10, 0)] := by simp only [List.append_assoc]
        exact ih j2 (it + 1) nM' w true X (Y ++ A ++ [(10, 0)]) (C ++ (X ++ Y) ++ A) gc2 gm (by omega) r4 (by omega) (by omega) w0 w1 (q_bin qY r8 (by decide) (by decide) (by decide) (by decide) (Nat.le_refl _) (Nat.le_refl _) (op_lg (Or.inl rfl))) (fun q => by cases q) (fun _ => eC.symm) ⟨q2, by rw [eC]; exact q3, r7⟩ (fc_t (fc_t fa a4) (fc_t r9 q4)) (fm_t (fm_t fb (fm_t s3 b4)) r10)
      · refine Or.inr ⟨gc, gm, by rw [r1, bd2_e, if_pos rfl], r2, r3, fc_t (fc_t fa a4) r4, fm_t (fm_t fb (fm_t s3 b4)) r5⟩
    · obtain ⟨g2, u1, u2, u3⟩ := co_11 hp t11 s2
      have zz := z.2.2.2.2.1
      have key : ∃ Z, (if w = true then C ++ (X ++ Y) ++ [(11, 0)] else C ++ (X ++ Y)) = C ++ Z ∧ Qv P01 (2 * (8 - p) + 6) Z := by
        cases w with
        | false => exact ⟨X ++ Y, if_neg (by decide), by rw [w0 rfl]; exact q_w qY (by omega)⟩
        | true => exact ⟨X ++ Y ++ [(11, 0)], by rw [if_pos rfl]; simp only [List.append_assoc], q_bin (w1 rfl) qY (by decide) (by decide) (by decide) (by decide) (Nat.le_refl _) (Nat.le_refl _) (op_lg (Or.inr rfl))⟩
      obtain ⟨Z, eZ, qZ⟩ := key
      rw [eZ] at u2
      by_cases x4 : (tt B L i).1 = 2 ∧ (tt B L i).2 = 4
      · obtain ⟨a1, a2, a3, a4, a5⟩ := cu_ad cu cc (by omega)
        obtain ⟨f1, f2, b1, b2, b3, b4⟩ := mz_push u2 (by omega) a5 11
        -- the class behind the or
        have cZ : ∃ gc0, (if vW w = -1 then cdK (nI p) (mD_cc n false) m 11 it false (avH hc (i + 1)) else bd2 (mD_emit (vW w) 0 (avH hc (i + 1))) fun _ h15 => cdK (nI p) (mD_cc n false) m 11 it false h15) = cdK (nI p) (mD_cc n false) m 11 it false gc0 ∧ CU 0 B L N (i + 1) gc0 ∧ CC (C ++ Z) gc0 ∧ FC hc gc0 := by
          cases w with
          | false =>
            rw [if_neg (by decide)] at eZ
            exact ⟨avH hc (i + 1), if_pos rfl, a2, by rw [← eZ]; exact a3, a4⟩
          | true =>
            rw [if_pos rfl] at eZ
            have le := xp_le (C ++ (X ++ Y))
            have bl := s2.2.2.2.2.1
            have := tl3 rfl
            obtain ⟨gc2, q1, q2, q3, q4⟩ := cc_em a2 a3 (by omega) 11
            exact ⟨gc2, by rw [if_neg (show ¬ vW true = -1 by decide), show mD_emit (vW true) 0 (avH hc (i + 1)) = some (1, gc2) from q1, bd2_e], q2, by rw [← eZ]; exact q3, fc_t a4 q4⟩
        obtain ⟨gc0, c1, c2, c3, c4⟩ := cZ
        rw [cd_or cu _ it (by omega) x4, a1, bd_e, c1, ra_or mu x4, s1, bd_e, u1, bd_e, show mm_waits 11 g2 = some f1 from b1, bd_e, b2, bd_e]
        unfold cdK
        rcases cl p b (i + 1) nM (C ++ Z) (11 :: S) 0 (11 :: S) gc0 f2 hp hb hn (by show (if (11 : Nat) = 9 ∨ (11 : Nat) = 12 then 1 else 0) + nO S = p; rw [if_neg (by decide)]; omega) (by rw [List.length_cons]; omega) (aS_c (by decide) haS) rfl (tn_c (by decide) (by decide)) ⟨c2, c3, b3⟩ (by omega) with ⟨j2, A, gc, gm, nM', r1, r2, r3, r4, ⟨r5, r6, r7⟩, r8, r9, r10⟩ | ⟨gc, gm, r1, r2, r3, r4, r5⟩
        · rw [show C ++ Z ++ A ++ List.replicate 0 (9, 0) = C ++ Z ++ A from List.append_nil _, Nat.sub_zero] at r7
          rw [r2, bd2_e, if_neg no10, if_neg (show ¬ false = true by decide), r3]
          have eC : C ++ (Z ++ A) = C ++ Z ++ A := by rw [List.append_assoc]
          exact ih j2 (it + 1) nM' true false Z A (C ++ Z ++ A) gc gm (by omega) r4 (by omega) (by omega) (fun q => by cases q) (fun _ => qZ) (q_w r8 (by omega)) (fun _ => eC.symm) (fun q => by cases q) ⟨r5, by rw [eC]; exact r6, r7⟩ (fc_t (fc_t fa c4) r9) (fm_t (fm_t fb (fm_t s3 (fm_t u3 b4))) r10)
        · refine Or.inr ⟨gc, gm, by rw [r1, bd2_e, if_pos rfl], r2, r3, fc_t (fc_t fa c4) r4, fm_t (fm_t fb (fm_t s3 (fm_t u3 b4))) r5⟩
      · rw [cd_end cu _ it (by omega) x5 x4, ra_end mu x5 x4, s1, bd_e, u1, bd_e]
        have cZ : ∃ gc0, kfn (vW w) hc = some (1, gc0) ∧ CU 0 B L N i gc0 ∧ CC (C ++ Z) gc0 ∧ FC hc gc0 := by
          unfold kfn
          cases w with
          | false =>
            rw [if_neg (by decide)] at eZ
            exact ⟨hc, if_pos rfl, cu, by rw [← eZ]; exact cc, fc_r hc⟩
          | true =>
            rw [if_pos rfl] at eZ
            have le := xp_le (C ++ (X ++ Y))
            have bl := s2.2.2.2.2.1
            have := tl3 rfl
            obtain ⟨gc2, q1, q2, q3, q4⟩ := cc_em cu cc (by omega) 11
            exact ⟨gc2, by rw [if_neg (show ¬ vW true = -1 by decide), show mD_emit (vW true) 0 hc = some (1, gc2) from q1, bd2_e, if_neg no10], q2, by rw [← eZ]; exact q3, q4⟩
        obtain ⟨gc0, c1, c2, c3, c4⟩ := cZ
        exact Or.inl ⟨i, Z, gc0, g2, nM, h4, c1, rfl, by omega, ⟨c2, c3, u2⟩, qZ, fc_t fa c4, fm_t fb (fm_t s3 u3)⟩
theorem cn_step {B : Nat → Nat} {L N n : Nat} (cl : CLP B L N n) : CNP B L N (n + 1) := by
  intro p b i nM C S hc hm hp hb hn ho hS haS t9 t10 t11 j hM
  have ccd : mD_cc (n + 1) true (nI p) hc = bd2 (mD_cc n false (nI p) hc) fun r1 h2 => if r1 = 0 then some (0, h2) else mD_condition_L14 (nI p) (mD_cc n false) kfn FU (-1) 0 h2 := rfl
  rw [ccd]
  rcases cl p b i nM C S 0 S hc hm hp hb (by omega) ho (by omega) haS rfl t9 j hM with ⟨j2, A, gc, gm, nM', r1, r2, r3, r4, ⟨r5, r6, r7⟩, r8, r9, r10⟩ | ⟨gc, gm, r1, r2, r3, r4, r5⟩
  · rw [show C ++ A ++ List.replicate 0 (9, 0) = C ++ A from List.append_nil _, Nat.sub_zero] at r7
    have N4 := r5.1.2.1
    have iN := r5.2.1
    rw [r2, bd2_e, if_neg no10, r3]
    have := co_loop cl hp hb (by omega) ho hS haS t10 t11 (C := C) (i0 := i) (hc0 := hc) (hm0 := hm) FU j2 0 nM' false false [] A (C ++ A) gc gm (by unfold FU; omega) r4 (by omega) r1 (fun _ => rfl) (fun q => by cases q) (q_w r8 (by omega)) (fun _ => rfl) (fun q => by cases q) ⟨r5, r6, r7⟩ r9 r10
    rw [nI_0] at this
    exact this
  · exact Or.inr ⟨gc, gm, by rw [r1, bd2_e, if_pos rfl], r2, r3, r4, r5⟩
theorem cc_all (B : Nat → Nat) (L N : Nat) : ∀ n, CLP B L N n ∧ CNP B L N n := by
  intro n
  induction n with
  | zero => exact ⟨fun p b i nM C S k S' hc hm _ _ h => by omega, fun p b i nM C S hc hm _ _ h => by omega⟩
  | succ n ih => exact ⟨cl_step ih.1 ih.2, cn_step ih.1⟩
theorem ra_g (n : Nat) (h : PH) : mm_readAny_L9 (fun (h33 : PH) => bd2 (mm_errs 3 h33) fun r34 h35 => some (r34, h35)) (fun (h36 : PH) => bd2 (mm_errs 1 h36) fun r37 h38 => some (r37, h38)) n 0 1 h = RA n 0 1 h := rfl
theorem ra_all (h : PH) : mm_readAny h = RA FU 0 1 (up h 104 28 0) := by
  unfold mm_readAny
  rw [lt_e]
  exact ra_g FU _
/-- a condition, on both sides -/
theorem cd_sim {B : Nat → Nat} {L N i : Nat} {C : List (Nat × Nat)} {hc hm : PH} (j : JJ 0 B L N i 0 C hc hm) (o : hm 104 26 = 0) : (∃ j2 A gc gm, i < j2 ∧ mD_condition 30 0 hc = some (1, gc) ∧ mm_readAny hm = some (0, gm) ∧ JJ 0 B L N j2 0 (C ++ A) gc gm ∧ gm 104 26 = 0 ∧ Qv P01 22 A ∧ FC hc gc ∧ FM hm gm) ∨ ERR hc hm (mD_condition 30 0 hc) (mm_readAny hm) := by
  have iN := j.1.2.1
  have N4 := j.1.1.2.1
  have z : MZ B L i (xp C) [] 0 (up hm 104 28 0) := ⟨mu_of j.2.1 (up_cell (by decide)) (up_cell (by decide)) (fun k _ _ => up_oj (by omega)), mc_of j.2.2.2.1 (up_cell (by decide)) (up_cell (by decide)) (up_oj (by decide)), ⟨up_same, by decide, fun k x hk => by cases hk⟩, by rw [up_oj (by decide)]; exact o, by have := j.2.2.2.2; show (xp C).length + 0 ≤ i; omega, by omega⟩
  have e1 : mm_readAny hm = RA FU (nI 0) 1 (up hm 104 28 0) := by
    rw [ra_all, nI_0]
  have e2 : mD_condition 30 0 hc = mD_cc 30 true (nI 0) hc := by
    rw [nI_0]
    rfl
  have tn : ∀ x, TN [] x := fun x y S' e => by cases e
  rw [e1, e2]
  have fm0 : FM hm (up hm 104 28 0) := fm_up (fm_r hm) (Or.inr rfl) _
  rcases (cc_all B L N 30).2 0 0 i FU C [] hc (up hm 104 28 0) (by decide) (by decide) (by decide) rfl (by decide) (fun x hx => by cases hx) (tn 9) (tn 10) (tn 11) ⟨j.1, j.2.2.1, z⟩ (by unfold FU; omega) with ⟨j2, A, gc, gm, nM', r1, r2, r3, r4, ⟨r5, r6, r7⟩, r8, r9, r10⟩ | ⟨gc, gm, r1, r2, r3, r4, r5⟩
  · refine Or.inl ⟨j2, A, gc, gm, r1, r2, ?_, ⟨r5, r7.1, r6, r7.2.1, by have := r7.2.2.2.2.1; omega⟩, r7.2.2.2.1, r8, r9, fm_t fm0 r10⟩
    rw [r3]
    unfold EL
    rw [if_pos (show nI 0 = (0 : Int32) from rfl)]
  · exact Or.inr ⟨gc, gm, r1, r2, r3, r4, fm_t fm0 r5⟩
end
