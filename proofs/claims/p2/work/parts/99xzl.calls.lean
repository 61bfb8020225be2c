/-! THE CALLS that change the town: the relation is kept, and they answer alike -/
theorem tw_state (k : Nat) (a1 : Int32) (h : PH) (i : IM h) (t : TWN k h) (hk : k < 512) {rX rm : Int32} {h1 h2 : PH} (e1 : mX_state a1 h = some (rX, h1)) (e2 : mm_state a1 h1 = some (rm, h2)) (cs : CS h h1 h2) : TWN (k + 1) h2 ∧ rX = rm := by
  have xx := cs.2.2.2.1
  have ss := cs.2.2.2.2
  obtain ⟨t1, t2, t3, ⟨H, N, M, u, s, Ls, t4, t5⟩, t6⟩ := id t
  have c1 : ∀ (z : Option (Int32 × PH)), ck 1 115 z = z := fun z => ck_nI (i := 1) (by decide) (by decide)
  have e1' : mX_state a1 h = some (h 1 7, up (up h 1 7 a1) 70 3 0) := by
    unfold mX_state mP_forget
    rw [lt_e, lt_e, lt_e, bd_e]
  have e2' : mm_state a1 h1 = some (up h1 104 0 0 105 1, up (up (up h1 104 0 0) 105 1 a1) 104 3 0) := by
    unfold mm_state
    rw [lt_e, c1, lt_e, c1, lt_e, lt_e, show ix (1 : Int32) = 1 from rfl]
  rw [e1'] at e1
  rw [e2'] at e2
  cases e1
  cases e2
  have tt := tn_in xx t4
  have r5 := rt_f tt.1 (f := 7) (by decide) (by decide) a1
  have cc : ∀ x, x ≠ 70 → x < 104 → up (up (up (up (up h 1 7 a1) 70 3 0) 104 0 0) 105 1 a1) 104 3 0 x = up h 1 7 a1 x := fun x x1 x2 => by rw [up_cell (by omega), up_cell (by omega), up_cell (by omega), up_cell x1]
  have cm : ∀ x, 105 ≤ x → up (up (up (up (up h 1 7 a1) 70 3 0) 104 0 0) 105 1 a1) 104 3 0 x = up (up (up (up h 1 7 a1) 70 3 0) 104 0 0) 105 1 a1 x := fun x hx => up_cell (by omega)
  refine ⟨⟨by omega, fun c hc => ?_, ?_, ⟨H, N, M, 0, s, Ls, tn_mono (b := 1000 * k) ⟨rt_tr r5 (fun x hx => cc x (by omega) (by omega)) (fun j hj => ?_) (fun j hj => ?_) (fun x hx => cm x (by omega)), ?_, ?_, ?_⟩ (by omega) (by omega), pk_0 t5.2.1 ?_ ?_ up_same⟩, fun nz => tni_st t hk i.1 (fun x hx => ?_) ?_ ?_ ?_ nz⟩, ?_⟩
  · have c70 : c ≠ 70 := by
      rcases hc with z | z | ⟨e, z1, z2⟩ <;> omega
    have c104 : c < 104 := by
      rcases hc with z | z | ⟨e, z1, z2⟩ <;> omega
    rw [cc c c70 c104]
    by_cases z : c = 1
    · rw [z, up_oj (by decide)]; exact t2 1 (Or.inl rfl)
    · rw [up_cell z]; exact t2 c hc
  · rw [cc 69 (by decide) (by decide), up_oc (by decide)]; exact t3
  · rw [up_oj (by omega)]
    rfl
  · rw [up_oc (by decide)]
    rfl
  · exact sk_of tt.2.1 (by rw [cc 10 (by decide) (by decide), up_cell (by decide)]) (by rw [cc 11 (by decide) (by decide), up_cell (by decide)]) (by rw [up_oj (by decide), up_oc (by decide)]) (by rw [cm 121 (by decide), up_cell (by decide)])
  · exact of_of tt.2.2.1 (by rw [cc 12 (by decide) (by decide), up_cell (by decide)]) (by rw [cc 13 (by decide) (by decide), up_cell (by decide)]) (by rw [up_oj (by decide), up_oc (by decide)]) (by rw [cm 122 (by decide), up_cell (by decide)])
  · rw [cc 14 (by decide) (by decide), up_cell (by decide), up_oj (by decide), up_oc (by decide)]
    exact tt.2.2.2
  · rw [up_oc (by decide), up_oc (by decide), up_oc (by decide), up_oj (by decide), up_oc (by decide)]
    exact t5.2.2.1
  · rw [up_oc (by decide), up_oc (by decide), up_oc (by decide), up_same]
  · rw [cc x (by omega) (by omega), up_cell (by omega)]
  · rw [up_oj (by decide), up_oc (by decide), up_oj (by decide), up_oc (by decide), up_oc (by decide)]
  · rw [up_oj (by decide), up_oc (by decide), up_oj (by decide), up_oc (by decide), up_oc (by decide)]
  · rw [up_cell (by decide), up_cell (by decide), up_cell (by decide), up_cell (by decide), up_cell (by decide)]
  · exact tt.1.1.2.2.2.1 7 (by decide) (by decide)
/-- after deeds: the relation over one heap -/
theorem twn_dd {k H N M u s : Nat} {Ls : LNS} {h hm gc gm g : PH} (t : TWN k h) (hk : k < 512) (i : Inv h) (tn : TNt H N M (1000 * k) Ls h hm) (r : RTT AA H (1000 * (k + 1)) Ls B0 gc gm) (pk : PK H (1000 * (k + 1)) Ls u s gc gm) (qa : QA gc) (dc : DC2 h gc) (dm1 : ∀ x, x ≠ 104 → x ≠ 105 → x ≠ 106 → x ≠ 110 → x ≠ 124 → x ≠ 125 → gm x = hm x) (dm2 : ∀ j, j ≠ 0 → j ≠ 3 → gm 104 j = hm 104 j) (m148 : hm 148 = h 148) (m72 : hm 104 72 = h 104 72) (m5 : hm 104 5 = h 104 5) (c : ∀ x, x < 104 → g x = gc x) (m : ∀ x, 104 ≤ x → g x = gm x) : TWN (k + 1) g := by
  have d := fun x (h1 : x ≠ 1) (h2 : x ≠ 2) (h3 : x ≠ 16) (h4 : x ≠ 17) (h5 : x < 34 ∨ 36 < x) (h6 : x < 70 ∨ 84 < x) => dc x h1 h2 h3 h4 h5 h6
  have tg : TNt H N M (1000 * (k + 1)) Ls gc gm := ⟨r, sk_of tn.2.1 (d 10 (by decide) (by decide) (by decide) (by decide) (by decide) (by decide)) (d 11 (by decide) (by decide) (by decide) (by decide) (by decide) (by decide)) (dm2 33 (by decide) (by decide)) (dm1 121 (by decide) (by decide) (by decide) (by decide) (by decide) (by decide)), of_of tn.2.2.1 (d 12 (by decide) (by decide) (by decide) (by decide) (by decide) (by decide)) (d 13 (by decide) (by decide) (by decide) (by decide) (by decide) (by decide)) (dm2 35 (by decide) (by decide)) (dm1 122 (by decide) (by decide) (by decide) (by decide) (by decide) (by decide)), by rw [d 14 (by decide) (by decide) (by decide) (by decide) (by decide) (by decide), dm2 37 (by decide) (by decide)]; exact tn.2.2.2⟩
  refine ⟨by omega, fun x hx => ?_, ?_, ⟨H, N, M, u, s, Ls, tn_one c m tg, pk_one c m pk⟩, fun nz => tni_st t hk i (fun x hx => ?_) ?_ ?_ ?_ nz⟩
  · rw [c x (by rcases hx with z | z | ⟨e, z1, z2⟩ <;> omega)]
    exact qa x hx
  · rw [c 69 (by decide), d 69 (by decide) (by decide) (by decide) (by decide) (by decide) (by decide)]
    exact t.2.2.1
  · rw [c x (by omega), d x (by omega) (by omega) (by omega) (by omega) (by omega) (by omega)]
  · rw [m 104 (by decide), dm2 72 (by decide) (by decide), m72]
  · rw [m 104 (by decide), dm2 5 (by decide) (by decide), m5]
  · rw [m 148 (by decide), dm1 148 (by decide) (by decide) (by decide) (by decide) (by decide) (by decide), m148]
/-- nothing was done -/
theorem twn_id {k : Nat} {h h1 : PH} (t : TWN k h) (hk : k < 512) (e : h1 = h) : TWN (k + 1) (up h1 104 0 0) := by
  subst e
  exact twn_fr (Nat.le_succ k) hk (fun x hx => up_cell (by omega)) ⟨fun j hj => up_oj (by omega), fun j _ => up_oc (by decide), fun x hx => up_cell (by omega)⟩ t
theorem tw_quarters (k : Nat) (a1 : Int32) (h : PH) (i : IM h) (t : TWN k h) (hk : k < 512) {rX rm : Int32} {h1 h2 : PH} (e1 : mX_quarters a1 h = some (rX, h1)) (e2 : mm_quarters a1 h1 = some (rm, h2)) (cs : CS h h1 h2) : TWN (k + 1) h2 ∧ rX = rm := by
  have xx := cs.2.2.2.1
  have ss := cs.2.2.2.2
  obtain ⟨t1, t2, t3, ⟨H, N, M, u, s, Ls, t4, t5⟩, t6⟩ := id t
  have tt := tn_in xx t4
  have pp := pkt_in xx t5
  have c0 : ∀ (z : Option (Int32 × PH)), ck 0 115 z = z := fun z => ck_nI (i := 0) (by decide) (by decide)
  unfold mX_quarters at e1
  unfold mm_quarters at e2
  rw [lt_e] at e2
  by_cases f : 1 ≤ a1 ∧ a1 ≤ 60
  · rw [within_y f, bd_e, if_neg no10] at e1
    rw [isIn_y f, bd_e, if_neg no10, c0, show ix (0 : Int32) = 0 from rfl] at e2
    obtain ⟨P, P1, P2, eP⟩ := nat_of (rng_of (x := 1) (y := 60) rfl rfl f) (by decide)
    subst eP
    obtain ⟨Q, Q1, Q2, eQ⟩ := nat_of (t2 1 (Or.inl rfl)) (by decide)
    have e6 : up h1 104 0 0 105 0 = h 1 6 := (tt.1.1.2.2.2.1 6 (by decide) (by decide)).symm
    rw [e6, eQ, nI_add] at e2
    rw [eQ, nI_add] at e1
    by_cases g : Q + P ≤ 9999
    · have g' : nI (Q + P) ≤ (9999 : Int32) := nI_le (b := 9999) g (by omega)
      rw [if_pos g'] at e1 e2
      obtain ⟨v', gc', gm', q1, q2, q3, ⟨u', s', q4⟩, q5, q6, q7⟩ := qt_loop (hc := h) (hm := up h1 104 0 0) tt.2.1 tt.2.2.1 (Q := Q) g (by omega) (b := 1000 * k) (by omega) FU 0 0 h (up h1 104 0 0) (by unfold FU; omega) (Nat.zero_le _) tt.1 ⟨u, s, pp⟩ t2 eQ (fun _ _ _ _ _ _ _ => rfl) ⟨fun _ _ _ _ _ _ _ => rfl, fun _ _ => rfl⟩
      rw [nI_0] at q1 q2
      rw [q1] at e1
      rw [q2] at e2
      cases e1
      cases e2
      exact ⟨twn_dd t hk i.1 tt (rt_mono q3 (by omega) (by omega)) (pk_mono q4 (by omega) (by omega)) q5 q6 q7.1 (fun j _ j3 => q7.2 j j3) (by rw [up_cell (by decide), xx 148 (by decide)]) (by rw [up_oj (by decide), xx 104 (by decide)]) (by rw [up_oj (by decide), xx 104 (by decide)]) ss (fun _ _ => rfl), rfl⟩
    · have g' : ¬ nI (Q + P) ≤ (9999 : Int32) := nI_ge (a := 9999) (by omega) (by omega)
      rw [if_neg g'] at e1 e2
      cases e1
      cases e2
      exact ⟨twn_id t hk rfl, rfl⟩
  · rw [within_n f, bd_e, if_pos rfl] at e1
    rw [isIn_n f, bd_e, if_pos rfl] at e2
    cases e1
    cases e2
    exact ⟨twn_id t hk rfl, rfl⟩
theorem tw_act (k : Nat) (a1 a2 a3 : Int32) (h : PH) (i : IM h) (t : TWN k h) (hk : k < 512) {rX rm : Int32} {h1 h2 : PH} (e1 : mX_act a1 a2 a3 h = some (rX, h1)) (e2 : mm_act a1 a2 a3 h1 = some (rm, h2)) (cs : CS h h1 h2) : TWN (k + 1) h2 ∧ rX = rm := by
  have xx := cs.2.2.2.1
  have ss := cs.2.2.2.2
  obtain ⟨t1, t2, t3, ⟨H, N, M, u, s, Ls, t4, t5⟩, t6⟩ := id t
  have tt := tn_in xx t4
  have pp := pkt_in xx t5
  obtain ⟨x, x1, x2, x3⟩ := ca_sim tt.1.1 a1 a2 a3
  unfold mX_act at e1
  unfold mm_act at e2
  rw [x1, bd_e] at e1
  rw [lt_e, x2, bd_e] at e2
  rcases x3 with x0 | ⟨x0, ak⟩
  · rw [if_pos x0] at e1 e2
    cases e1
    cases e2
    exact ⟨twn_id t hk rfl, rfl⟩
  · have x0' : ¬ x = 0 := by rw [x0]; exact no10
    rw [if_neg x0'] at e1 e2
    obtain ⟨g1, m1, u', s', a1', a2', a3', a4, a5, a6, a7, a8⟩ := kp_sim tt.1 pp
    rw [a1', bd_e] at e1
    rw [a2', bd_e] at e2
    obtain ⟨l, l1, l2, l3⟩ := rt_Bn a3'
    have ak' : AK H g1 a1 a2 a3 := by
      unfold AK at ak ⊢
      rw [a5 2 (by decide)]
      exact ak
    obtain ⟨gc, gm, b1, b2, b3, b4, b5, b6⟩ := ac_sim l3 (by omega) ak'
    have p2 := pk_deed a4 l1 l2 b2 b3 b4 (Nat.le_succ _)
    rw [b1, bd_e] at e1
    have e2' := b6 _ rfl
    have e2'' := e2'.symm.trans e2
    cases e1
    cases e2''
    refine ⟨twn_dd t hk i.1 tt (rt_mono (rt_B0 b2) (by omega) (by omega)) (pk_mono p2 (by omega) (by omega)) (qa_d b3 (by rw [b5, a5 1 (by decide)]; exact t2 1 (Or.inl rfl)) (qa_keep pp a1' t2)) ?_ (fun x x1 x2 x3 x4 x5 x6 => by rw [b4 x x2 x4 x5 x6, a7 x x3 x1]) (fun j _ j3 => by rw [b4 104 (by decide) (by decide) (by decide) (by decide), a8 j j3]) (by rw [up_cell (by decide), xx 148 (by decide)]) (by rw [up_oj (by decide), xx 104 (by decide)]) (by rw [up_oj (by decide), xx 104 (by decide)]) ss (fun _ _ => rfl), rfl⟩
    intro x x1 x2 x3 x4 x5 x6
    rw [b3 x x1 x2 x3 x4 (by omega) (by omega) (by omega)]
    rcases x6 with y | y
    · exact a5 x y
    · exact a6 x y
theorem tw_undo (k : Nat) (h : PH) (i : IM h) (t : TWN k h) (hk : k < 512) {rX rm : Int32} {h1 h2 : PH} (e1 : mX_undo h = some (rX, h1)) (e2 : mm_undo h1 = some (rm, h2)) (cs : CS h h1 h2) : TWN (k + 1) h2 ∧ rX = rm := by
  have xx := cs.2.2.2.1
  have ss := cs.2.2.2.2
  obtain ⟨t1, t2, t3, ⟨H, N, M, u, s, Ls, t4, t5⟩, t6⟩ := id t
  have tt : TNt H N M (1000 * k) Ls h h1 := tn_tr t4 (fun _ _ => rfl) (fun j _ => by rw [xx 104 (by decide)]) (fun j _ => by rw [xx 105 (by decide)]) (fun x hx => xx x (by omega))
  have pp : PK H (1000 * k) Ls u s h h1 := pk_tr t5 (fun _ _ => rfl) (fun j _ => by rw [xx 104 (by decide)]) (fun x hx => xx x (by omega))
  obtain ⟨x, gc, gm, u', b1, b2, b3, b4, b5, b6, b7, b8⟩ := un_sim tt.1 pp
  rw [b1] at e1
  rw [b2] at e2
  cases e1
  cases e2
  exact ⟨twn_dd t hk i.1 tt (rt_mono b3 (by omega) (by omega)) (pk_mono b4 (by omega) (by omega)) (b8 t2) b5 (fun x x1 x2 _ _ _ _ => b6 x x1 x2) b7 (xx 148 (by decide)) (by rw [xx 104 (by decide)]) (by rw [xx 104 (by decide)]) ss (fun _ _ => rfl), rfl⟩
