/-! SUMS: the class's one loop, the model's two -/
def kp1 (h15 : PH) : Option (Int32 × PH) := bd2 (mm_errs 1 h15) fun r16 h17 => some (r16, h17)
def kp2 (h18 : PH) : Option (Int32 × PH) := bd2 (mm_errs 2 h18) fun r19 h20 => some (r19, h20)
def kfn (x25 : Int32) (h26 : PH) : Option (Int32 × PH) := if x25 = (-1) then some (1, h26) else bd2 (mD_emit x25 0 h26) fun r27 h28 => if r27 = 0 then some (0, h28) else some (1, h28)
def mrT (wo : Option Nat) (n2 : Nat) (h : PH) : Option (Int32 × PH) := match wo with
  | none => mm_readSum_L10 n2 h
  | some o => bd (mm_emits (nI o) 0 h) fun h10 => mm_readSum_L10 n2 h10
/-- the model behind a unit of a product, with a sign that waits -/
def MR (wo : Option Nat) (n n2 : Nat) (hm : PH) : Option (Int32 × PH) := bd2 (mm_readProduct_L10 kp1 kp2 n hm) fun r h => if r = (-1) then some ((-1), h) else mrT wo n2 h
def woI (wo : Option Nat) : Int32 := match wo with
  | none => -1
  | some o => nI o
theorem em_at {k v : Nat} {h g : PH} (e : mR_add 93 (nI k) (nI v) 0 0 0 h = some (1, g)) : mD_emit (nI k) (nI v) h = some (1, g) := by
  unfold mD_emit
  rw [e, bd2_e]
  rfl
/-- sums and products done so far, and what waits -/
def SQ (wo : Option Nat) (wl : Nat) (A P : List (Nat × Nat)) : Prop := (wo = none ∧ wl = 0 ∧ A = [] ∧ Qv PT 2 P) ∨ ∃ o, wo = some o ∧ wl = 1 ∧ (o = 2 ∨ o = 3) ∧ Qv PT 3 A ∧ Qv PT 2 P
theorem sg_v {s : Nat} {B : Nat → Nat} {L N i : Nat} {h : PH} (c : CU s B L N i h) {x : Nat} (e : (tt B L i).1 = 4 ∧ (tt B L i).2 = x) : h 90 7 = nI x := by
  rcases cu_tk c with ⟨a, _⟩ | ⟨a, _⟩ | ⟨a, _⟩ | ⟨a, _⟩ | ⟨_, _, _, f⟩
  · omega
  · omega
  · omega
  · omega
  · rw [f, e.2]
theorem msg_v {B : Nat → Nat} {L i : Nat} {h : PH} (m : MU B L i h) {x : Nat} (e : (tt B L i).1 = 4 ∧ (tt B L i).2 = x) : h 104 15 = nI x := by
  have k : TkM (tt B L i) (h 104 14) (h 104 15) := m.2.2.2
  rcases k with ⟨a, _⟩ | ⟨a, _⟩ | ⟨a, _⟩ | ⟨a, _⟩ | ⟨_, _, _, f⟩
  · omega
  · omega
  · omega
  · omega
  · rw [f, e.2]
theorem c_s1 {s : Nat} {B : Nat → Nat} {L N i : Nat} {h : PH} (c : CU s B L N i h) {x : Nat} (e : (tt B L i).1 = 4 ∧ (tt B L i).2 = x) (hx : x < 256) : mD_isSign (nI x) h = some 1 := by rw [c_sg c x hx, if_pos e]
theorem c_s0 {s : Nat} {B : Nat → Nat} {L N i : Nat} {h : PH} (c : CU s B L N i h) {x : Nat} (e : ¬ ((tt B L i).1 = 4 ∧ (tt B L i).2 = x)) (hx : x < 256) : mD_isSign (nI x) h = some 0 := by rw [c_sg c x hx, if_neg e]
theorem m_s1 {B : Nat → Nat} {L i : Nat} {h : PH} (m : MU B L i h) {x : Nat} (e : (tt B L i).1 = 4 ∧ (tt B L i).2 = x) (hx : x < 256) : mm_isSign (nI x) h = some 1 := by rw [m_sg m x hx, if_pos e]
theorem m_s0 {B : Nat → Nat} {L i : Nat} {h : PH} (m : MU B L i h) {x : Nat} (e : ¬ ((tt B L i).1 = 4 ∧ (tt B L i).2 = x)) (hx : x < 256) : mm_isSign (nI x) h = some 0 := by rw [m_sg m x hx, if_neg e]
theorem no10 : ¬ (1 : Int32) = 0 := by decide
theorem rp_ok {h g : PH} (e : mm_readUnit h = some (0, g)) : mm_readProduct h = mm_readProduct_L10 kp1 kp2 FU g := by
  unfold mm_readProduct
  rw [e, bd2_e, if_neg (by decide)]
  rfl
theorem rp_err {h g : PH} (e : mm_readUnit h = some (-1, g)) : mm_readProduct h = some (-1, g) := by
  unfold mm_readProduct
  rw [e, bd2_e, if_pos rfl]
theorem rs_sg {B : Nat → Nat} {L i : Nat} {h : PH} (m : MU B L i h) (n : Nat) {o x : Nat} (x1 : (tt B L i).1 = 4) (x2 : (tt B L i).2 = x) (ox : (o = 2 ∧ x = 43) ∨ (o = 3 ∧ x = 45)) : mm_readSum_L10 (n + 1) h = bd (mm_reads h) fun h7 => bd2 (mm_readProduct h7) fun r8 h9 => if r8 = (-1) then some ((-1), h9) else bd (mm_emits (nI o) 0 h9) fun h10 => mm_readSum_L10 n h10 := by
  have xv := msg_v m ⟨x1, x2⟩
  rcases ox with ⟨o1, o2⟩ | ⟨o1, o2⟩
  · subst o1 o2
    rw [mm_readSum_L10, show mm_isSign 43 h = some 1 from m_s1 (x := 43) m ⟨x1, x2⟩ (by decide), bd_e, jn0_e, if_neg no10, jn1_e, xv, if_pos (show nI 43 = (43 : Int32) from rfl)]
    rfl
  · subst o1 o2
    rw [mm_readSum_L10, show mm_isSign 43 h = some 0 from m_s0 (x := 43) m (by omega) (by decide), bd_e, jn0_e, if_pos rfl, show mm_isSign 45 h = some 1 from m_s1 (x := 45) m ⟨x1, x2⟩ (by decide), bd_e, if_neg no10, jn1_e, xv, if_neg (show ¬ nI 45 = (43 : Int32) by decide)]
    rfl
theorem rs_end {B : Nat → Nat} {L i : Nat} {h : PH} (m : MU B L i h) (n : Nat) (np : ¬ ((tt B L i).1 = 4 ∧ (tt B L i).2 = 43)) (nm : ¬ ((tt B L i).1 = 4 ∧ (tt B L i).2 = 45)) : mm_readSum_L10 (n + 1) h = some (0, h) := by
  rw [mm_readSum_L10, show mm_isSign 43 h = some 0 from m_s0 (x := 43) m np (by decide), bd_e, jn0_e, if_pos rfl, show mm_isSign 45 h = some 0 from m_s0 (x := 45) m nm (by decide), bd_e, if_pos rfl]
def exU (n o it : Nat) (h13 : PH) : Option (Int32 × PH) := bd2 (mD_unit h13) fun r14 h15 => if r14 = 0 then some (0, h15) else mD_expression_L13 kfn n (nI o) (nI (it + 1)) h15
theorem ex_sg {B : Nat → Nat} {L N i n : Nat} {hc : PH} {v : Int32} (c : CU 0 B L N i hc) (it : Nat) (hit : it < 400) {o x : Nat} (x1 : (tt B L i).1 = 4) (x2 : (tt B L i).2 = x) (ox : (o = 2 ∧ x = 43) ∨ (o = 3 ∧ x = 45)) : mD_expression_L13 kfn (n + 1) v (nI it) hc = bd (mD_advance hc) fun h6 => if v = (-1) then exU n o it h6 else bd2 (mD_emit v 0 h6) fun _ h21 => exU n o it h21 := by
  have xv := sg_v c ⟨x1, x2⟩
  rw [mD_expression_L13, if_neg (show ¬ (400 : Int32) ≤ nI it from nI_ge (b := 400) hit (by decide))]
  rcases ox with ⟨o1, o2⟩ | ⟨o1, o2⟩
  · subst o1 o2
    rw [show mD_isSign 43 hc = some 1 from c_s1 (x := 43) c ⟨x1, x2⟩ (by decide), bd_e, jn0_e, if_neg no10, lt_e, xv]
    (simp only [if_neg (show ¬ nI 43 = (47 : Int32) by decide), if_neg (show ¬ nI 43 = (42 : Int32) by decide), if_pos (show nI 43 = (43 : Int32) from rfl), jn2_e, jn1_e, nI_1]) <;> rfl
  · subst o1 o2
    rw [show mD_isSign 43 hc = some 0 from c_s0 (x := 43) c (by omega) (by decide), bd_e, jn0_e, if_pos rfl, show mD_isSign 45 hc = some 1 from c_s1 (x := 45) c ⟨x1, x2⟩ (by decide), bd_e, if_neg no10, lt_e, xv]
    (simp only [if_neg (show ¬ nI 45 = (47 : Int32) by decide), if_neg (show ¬ nI 45 = (42 : Int32) by decide), if_neg (show ¬ nI 45 = (43 : Int32) by decide), jn2_e, jn1_e, nI_1]) <;> rfl
theorem ex_mul {B : Nat → Nat} {L N i n : Nat} {hc : PH} {v : Int32} (c : CU 0 B L N i hc) (it : Nat) (hit : it < 400) (x : (tt B L i).1 = 4 ∧ (tt B L i).2 = 42) : mD_expression_L13 kfn (n + 1) v (nI it) hc = bd (mD_advance hc) fun h6 => bd2 (mD_unit h6) fun r14 h15 => if r14 = 0 then some (0, h15) else bd2 (mD_emit 4 0 h15) fun _ h17 => mD_expression_L13 kfn n v (nI (it + 1)) h17 := by
  have xv := sg_v c x
  rw [mD_expression_L13, if_neg (show ¬ (400 : Int32) ≤ nI it from nI_ge (b := 400) hit (by decide)), show mD_isSign 43 hc = some 0 from c_s0 (x := 43) c (by omega) (by decide), bd_e, jn0_e, if_pos rfl, show mD_isSign 45 hc = some 0 from c_s0 (x := 45) c (by omega) (by decide), bd_e, if_pos rfl, show mD_isSign 42 hc = some 1 from c_s1 (x := 42) c x (by decide), bd_e, if_neg no10, lt_e, xv]
  (simp only [if_neg (show ¬ nI 42 = (47 : Int32) by decide), if_pos (show nI 42 = (42 : Int32) from rfl), jn2_e, jn1_e, nI_1]) <;> rfl
theorem ex_div {B : Nat → Nat} {L N i n : Nat} {hc : PH} {v : Int32} (c : CU 0 B L N i hc) (it : Nat) (hit : it < 400) (x : (tt B L i).1 = 4 ∧ (tt B L i).2 = 47) : mD_expression_L13 kfn (n + 1) v (nI it) hc = bd (mD_advance hc) fun h6 => bd2 (mD_takesNumber 1 9999 h6) fun r7 h8 => if r7 = 0 then some (0, h8) else bd2 (mD_emit 5 (h8 90 9) h8) fun _ h10 => mD_expression_L13 kfn n v (nI (it + 1)) h10 := by
  have xv := sg_v c x
  rw [mD_expression_L13, if_neg (show ¬ (400 : Int32) ≤ nI it from nI_ge (b := 400) hit (by decide)), show mD_isSign 43 hc = some 0 from c_s0 (x := 43) c (by omega) (by decide), bd_e, jn0_e, if_pos rfl, show mD_isSign 45 hc = some 0 from c_s0 (x := 45) c (by omega) (by decide), bd_e, if_pos rfl, show mD_isSign 42 hc = some 0 from c_s0 (x := 42) c (by omega) (by decide), bd_e, if_pos rfl, show mD_isSign 47 hc = some 1 from c_s1 (x := 47) c x (by decide), bd_e, if_neg no10, lt_e, xv]
  (simp only [if_pos (show nI 47 = (47 : Int32) from rfl), nI_1]) <;> rfl
theorem ex_none {B : Nat → Nat} {L N i n : Nat} {hc : PH} {v : Int32} (c : CU 0 B L N i hc) (it : Nat) (hit : it < 400) (a : ¬ ((tt B L i).1 = 4 ∧ (tt B L i).2 = 43)) (b : ¬ ((tt B L i).1 = 4 ∧ (tt B L i).2 = 45)) (d : ¬ ((tt B L i).1 = 4 ∧ (tt B L i).2 = 42)) (e : ¬ ((tt B L i).1 = 4 ∧ (tt B L i).2 = 47)) : mD_expression_L13 kfn (n + 1) v (nI it) hc = kfn v hc := by
  rw [mD_expression_L13, if_neg (show ¬ (400 : Int32) ≤ nI it from nI_ge (b := 400) hit (by decide)), show mD_isSign 43 hc = some 0 from c_s0 (x := 43) c a (by decide), bd_e, jn0_e, if_pos rfl, show mD_isSign 45 hc = some 0 from c_s0 (x := 45) c b (by decide), bd_e, if_pos rfl, show mD_isSign 42 hc = some 0 from c_s0 (x := 42) c d (by decide), bd_e, if_pos rfl, show mD_isSign 47 hc = some 0 from c_s0 (x := 47) c e (by decide), bd_e, if_pos rfl]
theorem rp_mul {B : Nat → Nat} {L i n : Nat} {h : PH} (m : MU B L i h) (x : (tt B L i).1 = 4 ∧ (tt B L i).2 = 42) : mm_readProduct_L10 kp1 kp2 (n + 1) h = bd (mm_reads h) fun h6 => bd2 (mm_readUnit h6) fun r9 h10 => if r9 = (-1) then some ((-1), h10) else bd (mm_emits 4 0 h10) fun h13 => mm_readProduct_L10 kp1 kp2 n h13 := by
  rw [mm_readProduct_L10, show mm_isSign 42 h = some 1 from m_s1 (x := 42) m x (by decide), bd_e, jn0_e, if_neg no10, bd_e]
  (simp only [jn0_e, jn1_e, if_neg no10]) <;> rfl
theorem rp_div {B : Nat → Nat} {L i n : Nat} {h : PH} (m : MU B L i h) (x : (tt B L i).1 = 4 ∧ (tt B L i).2 = 47) : mm_readProduct_L10 kp1 kp2 (n + 1) h = bd (mm_reads h) fun h6 => if (h6 104 14) = 3 then (if (h6 104 15) = 0 then kp2 h6 else bd2 (mm_readUnit h6) fun r9 h10 => if r9 = (-1) then some ((-1), h10) else bd (mm_emits 5 0 h10) fun h13 => mm_readProduct_L10 kp1 kp2 n h13) else kp1 h6 := by
  rw [mm_readProduct_L10, show mm_isSign 42 h = some 0 from m_s0 (x := 42) m (by omega) (by decide), bd_e, jn0_e, if_pos rfl, show mm_isSign 47 h = some 1 from m_s1 (x := 47) m x (by decide), bd_e, if_neg no10, bd_e]
  (simp only [jn0_e, jn1_e, if_pos (show (0 : Int32) = 0 from rfl)]) <;> rfl
theorem rp_end {B : Nat → Nat} {L i n : Nat} {h : PH} (m : MU B L i h) (a : ¬ ((tt B L i).1 = 4 ∧ (tt B L i).2 = 42)) (b : ¬ ((tt B L i).1 = 4 ∧ (tt B L i).2 = 47)) : mm_readProduct_L10 kp1 kp2 (n + 1) h = some (0, h) := by
  rw [mm_readProduct_L10, show mm_isSign 42 h = some 0 from m_s0 (x := 42) m a (by decide), bd_e, jn0_e, if_pos rfl, show mm_isSign 47 h = some 0 from m_s0 (x := 47) m b (by decide), bd_e, if_pos rfl]
theorem j_swap {s : Nat} {B : Nat → Nat} {L N i w : Nat} {C : List (Nat × Nat)} {hc hm : PH} (j : JJ s B L N i (w + 1) C hc hm) (n0 : (tt B L i).1 ≠ 0) (k v : Nat) (k5 : k ≠ 5) : ∃ gc gm1 gm2, mD_advance hc = some (avH hc (i + 1)) ∧ mR_add 93 (nI k) (nI v) 0 0 0 (avH hc (i + 1)) = some (1, gc) ∧ mm_emits (nI k) (nI v) hm = some gm1 ∧ MU B L i gm1 ∧ mm_reads gm1 = some gm2 ∧ JJ s B L N (i + 1) (w + 1) (C ++ [(k, v)]) gc gm2 ∧ FC hc gc ∧ FX hm gm2 := by
  obtain ⟨j1, j2, j3, j4, j5⟩ := j
  have iN := cu_lt j1 n0
  have N4 := j1.1.2.1
  have le := xp_le C
  obtain ⟨d1, d2⟩ := cu_adv j1 iN
  obtain ⟨gc, a1, a2, a3⟩ := cc_add (cc_b j3 (avH_b hc (i + 1) 93 (by decide)) (avH_b hc (i + 1) 94 (by decide))) (by omega) k v
  obtain ⟨b1, b2⟩ := mc_add j4 (by omega) k v
  obtain ⟨gm, e1, e2, e3⟩ := mu_adv (mu_em j2 (xp C).length (nI k) (nI v))
  refine ⟨gc, _, gm, d1, a1, b1, mu_em j2 _ _ _, e1, ⟨cu_b d2 a3, e3, a2, ?_, ?_⟩, fc_t (fc_av hc _) ⟨fun b b1 b2 b3 => a3 b b2 b3, by rw [a3 90 (by decide) (by decide)]⟩, fx_t fx_em (fx_4 e2)⟩
  · rw [xp_app, xp_1 k5]
    exact mc_4 b2 e2
  · rw [xp_app, xp_1 k5, List.length_append]
    show (xp C).length + 1 + (w + 1) ≤ i + 1
    omega
/-- the end of a sum: what waits is put behind it -/
theorem ex_end {B : Nat → Nat} {L N i i0 w wl : Nat} {C0 A P : List (Nat × Nat)} {wo : Option Nat} {hc hm hc0 hm0 : PH} (j : JJ 0 B L N i (w + wl) (C0 ++ (A ++ P)) hc hm) (q : SQ wo wl A P) (hi : i0 < i) (a : FC hc0 hc) (b : FX hm0 hm) (n2 : Nat) (np : ¬ ((tt B L i).1 = 4 ∧ (tt B L i).2 = 43)) (nm : ¬ ((tt B L i).1 = 4 ∧ (tt B L i).2 = 45)) : PX 0 B L N i0 w (Qv PT 3) C0 hc0 hm0 (kfn (woI wo) hc) (mrT wo (n2 + 1) hm) := by
  rcases q with ⟨q1, q2, q3, q4⟩ | ⟨o, q1, q2, q3, q4, q5⟩
  · subst q1 q2 q3
    refine Or.inl ⟨i, P, hc, hm, ?_, rs_end j.2.1 n2 np nm, hi, j, q_w q4 (by decide), a, b⟩
    unfold kfn
    rw [if_pos (show woI none = -1 from rfl)]
  · subst q1 q2
    obtain ⟨gc, gm, e1, e2, e3, e4, e5, _⟩ := j_emit j o 0 (by omega)
    refine Or.inl ⟨i, A ++ P ++ [(o, 0)], gc, gm, ?_, ?_, hi, by rw [← List.append_assoc]; exact e3, ?_, fc_t a e4, fx_t b e5⟩
    · unfold kfn
      rw [if_neg (show ¬ woI (some o) = -1 from nI_nm1 (show o < 2 ^ 31 by omega)), show mD_emit (woI (some o)) 0 hc = some (1, gc) from em_at e1, bd2_e, if_neg no10]
    · show bd (mm_emits (nI o) 0 hm) _ = _
      rw [show mm_emits (nI o) 0 hm = some gm from e2, bd_e]
      exact rs_end e3.2.1 n2 np nm
    · exact q_bin q4 q5 (by omega) (by omega) (by omega) (by omega) (by decide) (by decide) (op_ar (by omega))
theorem ex_loop {B : Nat → Nat} {L N w i0 : Nat} {C0 : List (Nat × Nat)} {hc0 hm0 : PH} : ∀ (n i it wl : Nat) (wo : Option Nat) (A P : List (Nat × Nat)) (hc hm : PH) (nM nS : Nat), N < n + i → N < nM + i → N < nS + i → it < i → i0 < i → JJ 0 B L N i (w + wl) (C0 ++ (A ++ P)) hc hm → SQ wo wl A P → FC hc0 hc → FX hm0 hm → PX 0 B L N i0 w (Qv PT 3) C0 hc0 hm0 (mD_expression_L13 kfn n (woI wo) (nI it) hc) (MR wo nM nS hm) := by
  intro n
  induction n with
  | zero => intro i it wl wo A P hc hm nM nS h1 _ _ _ _ j; have := j.1.2.1; omega
  | succ n ih =>
    intro i it wl wo A P hc hm nM nS h1 h2 h3 h4 h5 j q a b
    have iN := j.1.2.1
    have N4 := j.1.1.2.1
    cases nM with
    | zero => omega
    | succ nM =>
    cases nS with
    | zero => omega
    | succ nS =>
    unfold MR
    by_cases c42 : (tt B L i).1 = 4 ∧ (tt B L i).2 = 42
    · obtain ⟨gm, d1, d2, d3, d4, d5⟩ := j_adv j (by omega)
      rw [ex_mul j.1 it (by omega) c42, d1, bd_e, rp_mul j.2.1 c42, d2, bd_e]
      rcases u_sim d3 with ⟨u, gc2, gm2, u1, u2, u3, u4, u5, u6⟩ | ⟨gc2, gm2, u1, u2, u3, u4, u5⟩
      · obtain ⟨gc3, gm3, e1, e2, e3, e4, e5, _⟩ := j_emit u3 4 0 (by decide)
        rw [u1, bd2_e, if_neg no10, show mD_emit 4 0 gc2 = some (1, gc3) from em_at e1, bd2_e, u2, bd2_e, if_neg (show ¬ (0 : Int32) = -1 by decide), show mm_emits 4 0 gm2 = some gm3 from e2, bd_e]
        have e3' : JJ 0 B L N (i + 1 + 1) (w + wl) (C0 ++ (A ++ (P ++ [u] ++ [(4, 0)]))) gc3 gm3 := by
          have : C0 ++ (A ++ (P ++ [u] ++ [(4, 0)])) = C0 ++ (A ++ P) ++ [u] ++ [(4, 0)] := by simp only [List.append_assoc]
          rw [this]
          exact e3
        have q' : SQ wo wl A (P ++ [u] ++ [(4, 0)]) := by
          have qb : Qv PT 2 P → Qv PT 2 (P ++ [u] ++ [(4, 0)]) := fun z => q_bin z (q_unit u.1 u.2 u4) (by decide) (by decide) (by decide) (by decide) (by decide) (by decide) (op_ar (by decide))
          rcases q with ⟨q1, q2, q3, q4⟩ | ⟨o, q1, q2, q3, q4, q5⟩
          · exact Or.inl ⟨q1, q2, q3, qb q4⟩
          · exact Or.inr ⟨o, q1, q2, q3, q4, qb q5⟩
        exact ih (i + 1 + 1) (it + 1) wl wo A _ gc3 gm3 nM (nS + 1) (by omega) (by omega) (by omega) (by omega) (by omega) e3' q' (fc_t (fc_t (fc_t a d4) u5) e4) (fx_t (fx_t (fx_t b (fx_4 d5)) u6) e5)
      · rw [u1, bd2_e, if_pos rfl, u2, bd2_e, if_pos rfl, bd2_e, if_pos rfl]
        exact Or.inr ⟨gc2, gm2, rfl, rfl, u3, fc_t (fc_t a d4) u4, fx_t (fx_t b (fx_4 d5)) u5⟩
    · by_cases c47 : (tt B L i).1 = 4 ∧ (tt B L i).2 = 47
      · obtain ⟨gm, d1, d2, d3, d4, d5⟩ := j_adv j (by omega)
        rw [ex_div j.1 it (by omega) c47, d1, bd_e, rp_div j.2.1 c47, d2, bd_e]
        have tc := cu_tk d3.1
        have tm : TkM (tt B L (i + 1)) (gm 104 14) (gm 104 15) := d3.2.1.2.2.2
        unfold mD_takesNumber
        by_cases c3 : (tt B L (i + 1)).1 = 3
        · have c6 : avH hc (i + 1) 90 6 = 2 ∧ avH hc (i + 1) 90 7 = nI (tt B L (i + 1)).2 ∧ (tt B L (i + 1)).2 < 10000 := by
            rcases tc with ⟨z, _⟩ | ⟨z, _⟩ | ⟨z, _⟩ | ⟨z, z2, z3, z4⟩ | ⟨z, _⟩
            · omega
            · omega
            · omega
            · exact ⟨z3, z4, z2⟩
            · omega
          have m6 : gm 104 14 = 3 ∧ gm 104 15 = nI (tt B L (i + 1)).2 := by
            rcases tm with ⟨z, _⟩ | ⟨z, _⟩ | ⟨z, _⟩ | ⟨z, z2, z3, z4⟩ | ⟨z, _⟩
            · omega
            · omega
            · omega
            · exact ⟨z3, z4⟩
            · omega
          obtain ⟨c6a, c6b, c6c⟩ := c6
          rw [if_pos c6a, if_pos m6.1, c6b, m6.2]
          by_cases c0 : (tt B L (i + 1)).2 = 0
          · rw [c0, within_n (by decide), bd_e, if_pos rfl, if_pos (show nI 0 = (0 : Int32) from rfl)]
            obtain ⟨gc, gm2, r1, r2, r3, r4, r5⟩ := j_ref d3 2
            rw [r1, bd2_e, bd2_e, if_pos (show nb 0 = (0 : Int32) from rfl)]
            unfold kp2
            rw [r2, bd2_e, bd2_e, if_pos rfl]
            exact Or.inr ⟨gc, gm2, rfl, rfl, r3, fc_t (fc_t a d4) r4, fx_t (fx_t b (fx_4 d5)) r5⟩
          · generalize hv : (tt B L (i + 1)).2 = v at c6b c6c m6 c0 ⊢
            rw [within_y ⟨show (1 : Int32) ≤ nI v from nI_le (a := 1) (by omega) (by omega), show nI v ≤ (9999 : Int32) from nI_le (b := 9999) (by omega) (by decide)⟩, bd_e, if_neg no10, if_neg (show ¬ nI v = (0 : Int32) from fun z => c0 ((nI_eq (b := 0) (by omega) (by decide)).mp z)), lt_e]
            obtain ⟨j1, j2, j3, j4, j5⟩ := d3
            have iN1 := cu_lt j1 (by omega)
            have cu9 : CU 0 B L N (i + 1) (up (avH hc (i + 1)) 90 9 (nI v)) := cu_9 j1 _
            obtain ⟨k1, k2⟩ := cu_adv cu9 iN1
            have k9 : avH (up (avH hc (i + 1)) 90 9 (nI v)) (i + 1 + 1) 90 9 = nI v := by rw [avH_o _ _ 9 (by decide) (by decide) (by decide), up_same]
            have cc9 : CC (C0 ++ (A ++ P)) (avH (up (avH hc (i + 1)) 90 9 (nI v)) (i + 1 + 1)) := cc_b (cc_b j3 (funext fun _ => up_oc (by decide)) (funext fun _ => up_oc (by decide))) (avH_b _ _ 93 (by decide)) (avH_b _ _ 94 (by decide))
            have fc9 : FC hc0 (avH (up (avH hc (i + 1)) 90 9 (nI v)) (i + 1 + 1)) := fc_t (fc_t a d4) (fc_t ⟨fun x x1 _ _ => funext fun _ => up_oc x1, up_oj (by decide)⟩ (fc_av _ _))
            rw [k1, bd_e, bd2_e, if_neg no10]
            generalize avH (up (avH hc (i + 1)) 90 9 (nI v)) (i + 1 + 1) = hc9 at k2 k9 cc9 fc9 ⊢
            have le := xp_le (C0 ++ (A ++ P))
            obtain ⟨gc, a1, a2, a3⟩ := cc_add cc9 (by omega) 5 v
            rw [k9, show mD_emit 5 (nI v) hc9 = some (1, gc) from em_at a1, bd2_e]
            obtain ⟨b1, b2⟩ := mc_add j4 (by omega) 0 v
            obtain ⟨gm2, e1, e2, e3⟩ := mu_adv (mu_em j2 (xp (C0 ++ (A ++ P))).length (nI 0) (nI v))
            have ml : (xp (C0 ++ (A ++ P)) ++ [(0, v)]).length = (xp (C0 ++ (A ++ P))).length + 1 := by rw [List.length_append]; rfl
            obtain ⟨b3, b4⟩ := mc_add (mc_4 b2 e2) (by rw [ml]; omega) 5 0
            rw [mu_num m6.1, m6.2, show mm_emits 0 (nI v) gm = _ from b1, bd_e, e1, bd_e, bd2_e, if_neg (show ¬ (0 : Int32) = -1 by decide), show mm_emits 5 0 gm2 = _ from b3, bd_e]
            have e3' : JJ 0 B L N (i + 1 + 1) (w + wl) (C0 ++ (A ++ (P ++ [(5, v)]))) gc (emO gm2 (xp (C0 ++ (A ++ P)) ++ [(0, v)]).length (nI 5) (nI 0)) := by
              have : C0 ++ (A ++ (P ++ [(5, v)])) = C0 ++ (A ++ P) ++ [(5, v)] := by simp only [List.append_assoc]
              rw [this]
              refine ⟨cu_b k2 a3, mu_em e3 _ _ _, a2, ?_, ?_⟩
              · rw [xp_app, xp_5, show xp (C0 ++ (A ++ P)) ++ [(0, v), (5, 0)] = xp (C0 ++ (A ++ P)) ++ [(0, v)] ++ [(5, 0)] by rw [List.append_assoc]; rfl]
                exact b4
              · rw [xp_app, xp_5, List.length_append]
                show (xp (C0 ++ (A ++ P))).length + 2 + (w + wl) ≤ i + 1 + 1
                omega
            have q' : SQ wo wl A (P ++ [(5, v)]) := by
              rcases q with ⟨q1, q2, q3, q4⟩ | ⟨o, q1, q2, q3, q4, q5⟩
              · exact Or.inl ⟨q1, q2, q3, q_part v q4⟩
              · exact Or.inr ⟨o, q1, q2, q3, q4, q_part v q5⟩
            exact ih (i + 1 + 1) (it + 1) wl wo A _ gc _ nM (nS + 1) (by omega) (by omega) (by omega) (by omega) (by omega) e3' q' (fc_t fc9 ⟨fun x x1 x2 x3 => a3 x x2 x3, by rw [a3 90 (by decide) (by decide)]⟩) (fx_t (fx_t (fx_t b (fx_4 d5)) (fx_t fx_em (fx_4 e2))) fx_em)
        · have c6 : ¬ avH hc (i + 1) 90 6 = 2 := fun z => by
            rcases tc with ⟨_, y⟩ | ⟨_, y⟩ | ⟨_, _, ⟨_, _, _, y, _⟩ | ⟨y, _⟩⟩ | ⟨y, _⟩ | ⟨_, _, y, _⟩
            · rw [y] at z; exact absurd z (by decide)
            · rw [y] at z; exact absurd z (by decide)
            · rw [y] at z; exact absurd z (by decide)
            · rw [y] at z; exact absurd z (by decide)
            · exact c3 y
            · rw [y] at z; exact absurd z (by decide)
          have m6 : ¬ gm 104 14 = 3 := fun z => by
            rcases tm with ⟨_, y⟩ | ⟨_, y⟩ | ⟨_, _, y, _⟩ | ⟨y, _⟩ | ⟨_, _, y, _⟩
            · rw [y] at z; exact absurd z (by decide)
            · rw [y] at z; exact absurd z (by decide)
            · rw [y] at z; exact absurd z (by decide)
            · exact c3 y
            · rw [y] at z; exact absurd z (by decide)
          obtain ⟨gc, gm2, r1, r2, r3, r4, r5⟩ := j_ref d3 1
          rw [if_neg c6, r1, bd2_e, bd2_e, if_pos (show nb 0 = (0 : Int32) from rfl), if_neg m6]
          unfold kp1
          rw [r2, bd2_e, bd2_e, if_pos rfl]
          exact Or.inr ⟨gc, gm2, rfl, rfl, r3, fc_t (fc_t a d4) r4, fx_t (fx_t b (fx_4 d5)) r5⟩
      · rw [rp_end j.2.1 c42 c47, bd2_e, if_neg (show ¬ (0 : Int32) = -1 by decide)]
        by_cases cs : ((tt B L i).1 = 4 ∧ (tt B L i).2 = 43) ∨ ((tt B L i).1 = 4 ∧ (tt B L i).2 = 45)
        · have key : ∃ o x : Nat, (o = 2 ∨ o = 3) ∧ (tt B L i).1 = 4 ∧ (tt B L i).2 = x ∧ ((o = 2 ∧ x = 43) ∨ (o = 3 ∧ x = 45)) := by
            rcases cs with z | z
            · exact ⟨2, 43, Or.inl rfl, z.1, z.2, Or.inl ⟨rfl, rfl⟩⟩
            · exact ⟨3, 45, Or.inr rfl, z.1, z.2, Or.inr ⟨rfl, rfl⟩⟩
          obtain ⟨o, x, o1, x1, x2, ox⟩ := key
          -- behind the sign: a unit, and on
          have core : ∀ (gc gm : PH) (A2 : List (Nat × Nat)), JJ 0 B L N (i + 1) (w + 1) (C0 ++ A2) gc gm → Qv PT 3 A2 → FC hc0 gc → FX hm0 gm → PX 0 B L N i0 w (Qv PT 3) C0 hc0 hm0 (exU n o it gc) (bd2 (mm_readProduct gm) fun r8 h9 => if r8 = (-1) then some ((-1), h9) else bd (mm_emits (nI o) 0 h9) fun h10 => mm_readSum_L10 nS h10) := fun gc gm A2 jj q2 a2 b2 => by
            unfold exU
            rcases u_sim jj with ⟨u, gc2, gm2, u1, u2, u3, u4, u5, u6⟩ | ⟨gc2, gm2, u1, u2, u3, u4, u5⟩
            · rw [u1, bd2_e, if_neg no10, rp_ok u2]
              rw [List.append_assoc] at u3
              exact ih (i + 1 + 1) (it + 1) 1 (some o) A2 [u] gc2 gm2 FU nS (by omega) (by unfold FU; omega) (by omega) (by omega) (by omega) u3 (Or.inr ⟨o, rfl, rfl, o1, q2, q_w (q_unit u.1 u.2 u4) (by decide)⟩) (fc_t a2 u5) (fx_t b2 u6)
            · rw [u1, bd2_e, if_pos rfl, rp_err u2, bd2_e, if_pos rfl]
              exact Or.inr ⟨gc2, gm2, rfl, rfl, u3, fc_t a2 u4, fx_t b2 u5⟩
          rw [ex_sg j.1 it (by omega) x1 x2 ox]
          rcases q with ⟨q1, q2, q3, q4⟩ | ⟨o', q1, q2, q3, q4, q5⟩
          · subst q1 q2 q3
            obtain ⟨gm, d1, d2, d3, d4, d5⟩ := j_adv j (by omega)
            rw [d1, bd_e, if_pos (show woI none = -1 from rfl)]
            show PX 0 B L N i0 w (Qv PT 3) C0 hc0 hm0 _ (mm_readSum_L10 (nS + 1) hm)
            rw [rs_sg j.2.1 nS x1 x2 ox, d2, bd_e]
            exact core _ gm P d3 (q_w q4 (by decide)) (fc_t a d4) (fx_t b (fx_4 d5))
          · subst q1 q2
            obtain ⟨gc, gm1, gm2, d1, d2, d3, d4, d5, d6, d7, d8⟩ := j_swap j (by omega) o' 0 (by omega)
            rw [d1, bd_e, if_neg (show ¬ woI (some o') = -1 from nI_nm1 (show o' < 2 ^ 31 by omega)), show mD_emit (woI (some o')) 0 (avH hc (i + 1)) = some (1, gc) from em_at d2, bd2_e]
            show PX 0 B L N i0 w (Qv PT 3) C0 hc0 hm0 _ (bd (mm_emits (nI o') 0 hm) fun h10 => mm_readSum_L10 (nS + 1) h10)
            rw [show mm_emits (nI o') 0 hm = some gm1 from d3, bd_e, rs_sg d4 nS x1 x2 ox, d5, bd_e]
            rw [List.append_assoc] at d6
            exact core gc gm2 (A ++ P ++ [(o', 0)]) d6 (q_bin q4 q5 (by omega) (by omega) (by omega) (by omega) (by decide) (by decide) (op_ar (by omega))) (fc_t a d7) (fx_t b d8)
        · have n43 : ¬ ((tt B L i).1 = 4 ∧ (tt B L i).2 = 43) := fun z => cs (Or.inl z)
          have n45 : ¬ ((tt B L i).1 = 4 ∧ (tt B L i).2 = 45) := fun z => cs (Or.inr z)
          rw [ex_none j.1 it (by omega) n43 n45 c42 c47]
          exact ex_end j q h5 a b nS n43 n45
/-- a sum, on both sides -/
theorem ex_sim {B : Nat → Nat} {L N i w : Nat} {C : List (Nat × Nat)} {hc hm : PH} (j : JJ 0 B L N i w C hc hm) : PX 0 B L N i w (Qv PT 3) C hc hm (mD_expression hc) (mm_readSum hm) := by
  unfold mD_expression mm_readSum
  rcases u_sim j with ⟨u, gc2, gm2, u1, u2, u3, u4, u5, u6⟩ | ⟨gc2, gm2, u1, u2, u3, u4, u5⟩
  · have iN := u3.1.2.1
    have N4 := u3.1.1.2.1
    rw [u1, bd2_e, if_neg (by decide), rp_ok u2]
    have := ex_loop (w := w) (i0 := i) (C0 := C) (hc0 := hc) (hm0 := hm) FU (i + 1) 0 0 none [] [u] gc2 gm2 FU FU (by unfold FU; omega) (by unfold FU; omega) (by unfold FU; omega) (by omega) (by omega) u3 (Or.inl ⟨rfl, rfl, rfl, q_w (q_unit u.1 u.2 u4) (by decide)⟩) u5 u6
    rw [nI_0] at this
    exact this
  · rw [u1, bd2_e, if_pos rfl, rp_err u2, bd2_e, if_pos rfl]
    exact Or.inr ⟨gc2, gm2, rfl, rfl, u3, u4, u5⟩
