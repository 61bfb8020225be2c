/-! THE SKY: both sides -/
def SK (N : Nat) (hc hm : PH) : Prop := N ≤ 16 ∧ hc 10 1 = 5 ∧ hc 10 3 = nI N ∧ hm 104 33 = nI N ∧ ∀ r, r < N → hc 11 (5 * r) = hm 121 (3 * r) ∧ ((hc 11 (5 * r + 1) = 1 ∧ hm 121 (3 * r + 1) = 0 ∧ hc 11 (5 * r + 2) = hm 121 (3 * r + 2)) ∨ (hc 11 (5 * r + 1) = 2 ∧ hm 121 (3 * r + 1) = 1) ∨ (hc 11 (5 * r + 1) = 3 ∧ hm 121 (3 * r + 1) = 2))
theorem sk_of {N : Nat} {hc hm gc gm : PH} (s : SK N hc hm) (c0 : gc 10 = hc 10) (c1 : gc 11 = hc 11) (m3 : gm 104 33 = hm 104 33) (m1 : gm 121 = hm 121) : SK N gc gm := by
  unfold SK
  rw [c0, c1, m3, m1]
  exact s
theorem at_10 {h : PH} {m r c : Nat} (c1 : h 10 1 = 5) (c3 : h 10 3 = nI m) (hm : m ≤ 16) (hr : r < m) (hc : c < 5) : mR_at 10 (nI r) (nI c) h = some (h 11 (5 * r + c)) := by
  unfold mR_at
  rw [if_neg (nI_pos (by omega)), c3, if_neg (nI_ge hr (by omega)), if_neg (nI_pos (by omega)), c1, if_pos (show nI c < (5 : Int32) from nI_lt (b := 5) hc (by decide)), show nI r * (5 : Int32) = nI (r * 5) from nI_mul r 5, nI_add, show ln (10 + 1) = 80 from rfl, ck_nI (by omega) (by decide), show ix (nI (r * 5 + c)) = r * 5 + c from nI_clamp (by omega), Nat.mul_comm r 5]
theorem wt_loop {B : BKT} {A : Nat → Prop} {H b N : Nat} {Ls : LNS} {hc hm : PH} (s : SK N hc hm) : ∀ (n nM r : Nat) (gc gm : PH), N < n + r → N < nM + r → r ≤ N → RTT A H b Ls B gc gm → (∀ x, x ≠ 1 → gc x = hc x) → DM hm gm → gc 1 6 = hc 1 6 → ∃ gc' gm', mS_weather_L10 68 n (nI r) gc = some gc' ∧ mm_skyOf_L2 nM (nI (3 * r)) gm = some gm' ∧ RTT A H b Ls B gc' gm' ∧ (∀ x, x ≠ 1 → gc' x = hc x) ∧ DM hm gm' ∧ gc' 1 6 = hc 1 6 := by
  intro n
  induction n with
  | zero => intro nM r gc gm h1 h2 h3; omega
  | succ n ih =>
    intro nM r gc gm h1 h2 h3 rr fx dm f6
    cases nM with
    | zero => omega
    | succ nM =>
    obtain ⟨s1, s2, s3, s4, s5⟩ : SK N gc gm := sk_of s (fx 10 (by decide)) (fx 11 (by decide)) (by rw [dm 104 (by decide) (by decide) (by decide) (by decide)]) (dm 121 (by decide) (by decide) (by decide) (by decide))
    have t3 : (3 : Int32) * nI N = nI (3 * N) := nI_mul 3 N
    by_cases c : r = N
    · refine ⟨gc, gm, ?_, ?_, rr, fx, dm, f6⟩
      · rw [mS_weather_L10, s3, if_pos (nI_le (by omega) (by omega))]
      · rw [mm_skyOf_L2, s4, t3, if_pos (nI_le (by omega) (by omega))]
    · have hr : r < N := by omega
      obtain ⟨q0, q1⟩ := s5 r hr
      have a0 : mR_at 10 (nI r) 0 gc = some (hm 121 (3 * r)) := by
        have := at_10 (c := 0) s2 s3 s1 hr (by decide)
        rw [Nat.add_zero, q0, dm 121 (by decide) (by decide) (by decide) (by decide)] at this
        exact this
      have a1 : mR_at 10 (nI r) 1 gc = some (gc 11 (5 * r + 1)) := at_10 (c := 1) s2 s3 s1 hr (by decide)
      have a2 : ∀ g : PH, g 10 = gc 10 → g 11 = gc 11 → mR_at 10 (nI r) 2 g = some (gc 11 (5 * r + 2)) := fun g g1 g2 => by
        have := at_10 (h := g) (c := 2) (by rw [g1]; exact s2) (by rw [g1]; exact s3) s1 hr (by decide)
        rw [g2] at this
        exact this
      have m21 : gm 121 = hm 121 := dm 121 (by decide) (by decide) (by decide) (by decide)
      have e6 : gc 1 6 = gm 105 0 := rr.1.2.2.2.1 6 (by decide) (by decide)
      have k0 : ∀ (z : Option PH), ck (nI (3 * r)) 96 z = z := fun z => ck_nI (by omega) (by decide)
      have k1 : ∀ (z : Option PH), ck (nI (3 * r + 1)) 96 z = z := fun z => ck_nI (by omega) (by decide)
      have k2 : ∀ (z : Option PH), ck (nI (3 * r + 2)) 96 z = z := fun z => ck_nI (by omega) (by decide)
      have j0 : ∀ (z : Option PH), ck 0 115 z = z := fun z => ck_nI (i := 0) (by decide) (by decide)
      have j3 : ∀ (z : Option PH), ck 3 115 z = z := fun z => ck_nI (i := 3) (by decide) (by decide)
      have j4 : ∀ (z : Option PH), ck 4 115 z = z := fun z => ck_nI (i := 4) (by decide) (by decide)
      have x0 : ix (nI (3 * r)) = 3 * r := nI_clamp (by omega)
      have x1 : ix (nI (3 * r + 1)) = 3 * r + 1 := nI_clamp (by omega)
      have x2 : ix (nI (3 * r + 2)) = 3 * r + 2 := nI_clamp (by omega)
      have p1 : nI (3 * r) + (1 : Int32) = nI (3 * r + 1) := nI_1 _
      have p2 : nI (3 * r) + (2 : Int32) = nI (3 * r + 2) := nI_add _ 2
      have p3 : nI (3 * r) + (3 : Int32) = nI (3 * (r + 1)) := nI_add _ 3
      have cls : mS_weather_L10 68 (n + 1) (nI r) gc = if hm 121 (3 * r) = gc 1 6 then (if gc 11 (5 * r + 1) = 1 then bd (mR_at 10 (nI r) 2 gc) fun r3 => lt (up gc 1 2 r3) fun h4 => mS_weather_L10 68 n (nI (r + 1)) h4 else if gc 11 (5 * r + 1) = 2 then lt (up gc 1 3 1) fun h5 => mS_weather_L10 68 n (nI (r + 1)) h5 else lt (up gc 1 3 0) fun h6 => mS_weather_L10 68 n (nI (r + 1)) h6) else mS_weather_L10 68 n (nI (r + 1)) gc := by
        rw [mS_weather_L10, s3, if_neg (nI_ge hr (by omega)), a0, bd_e, show sT 68 = 1 from rfl, a1, bd_e, nI_1]
      have mdl : mm_skyOf_L2 (nM + 1) (nI (3 * r)) gm = if hm 121 (3 * r) = gc 1 6 then (if gm 121 (3 * r + 1) = 0 then lt (up gm 105 3 (gm 121 (3 * r + 2))) fun h1 => lt (nI (3 * (r + 1))) fun x2 => mm_skyOf_L2 nM x2 h1 else jn1 (fun (x4 : Int32) => lt (up gm 105 4 x4) fun h5 => lt (nI (3 * (r + 1))) fun x6 => mm_skyOf_L2 nM x6 h5) fun j3 => if gm 121 (3 * r + 1) = 1 then j3 1 else j3 0) else lt (nI (3 * (r + 1))) fun x7 => mm_skyOf_L2 nM x7 gm := by
        rw [mm_skyOf_L2, s4, t3, if_neg (nI_ge (by omega) (by omega)), k0, j0, x0, show ix (0 : Int32) = 0 from rfl, p1, p2, p3, k1, k1, k2, x1, x2, j3, show ix (3 : Int32) = 3 from rfl, show ix (4 : Int32) = 4 from rfl, ← e6, m21]
        simp only [j4]
      have go : ∀ (f : Nat) (v : Int32), 2 ≤ f → f < 6 → ∃ gc' gm', mS_weather_L10 68 n (nI (r + 1)) (up gc 1 f v) = some gc' ∧ mm_skyOf_L2 nM (nI (3 * (r + 1))) (up gm 105 (sf f) v) = some gm' ∧ RTT A H b Ls B gc' gm' ∧ (∀ x, x ≠ 1 → gc' x = hc x) ∧ DM hm gm' ∧ gc' 1 6 = hc 1 6 := fun f v f1 f2 =>
        ih nM (r + 1) _ _ (by omega) (by omega) (by omega) (rt_f rr f1 (by omega) v) (fun x hx => by rw [up_cell hx]; exact fx x hx) (dm_t dm (dm_up gm _ v)) (by rw [up_oj (by omega)]; exact f6)
      rw [cls, mdl]
      by_cases q : hm 121 (3 * r) = gc 1 6
      · rw [if_pos q, if_pos q]
        rcases q1 with ⟨b1, b2, b3⟩ | ⟨b1, b2⟩ | ⟨b1, b2⟩
        · rw [if_pos b1, if_pos b2, a2 gc rfl rfl, bd_e, lt_e, lt_e, lt_e, ← b3]
          exact go 2 _ (by decide) (by decide)
        · rw [if_neg (by rw [b1]; decide), if_pos b1, if_neg (by rw [b2]; decide), jn1_e, if_pos b2, lt_e]
          change ∃ gc' gm', _ ∧ (lt (up gm 105 4 1) fun h5 => lt (nI (3 * (r + 1))) fun x6 => mm_skyOf_L2 nM x6 h5) = some gm' ∧ _
          rw [lt_e, lt_e]
          exact go 3 1 (by decide) (by decide)
        · rw [if_neg (by rw [b1]; decide), if_neg (by rw [b1]; decide), if_neg (by rw [b2]; decide), jn1_e, if_neg (by rw [b2]; decide), lt_e]
          change ∃ gc' gm', _ ∧ (lt (up gm 105 4 0) fun h5 => lt (nI (3 * (r + 1))) fun x6 => mm_skyOf_L2 nM x6 h5) = some gm' ∧ _
          rw [lt_e, lt_e]
          exact go 3 0 (by decide) (by decide)
      · rw [if_neg q, if_neg q, lt_e]
        exact ih nM (r + 1) gc gm (by omega) (by omega) (by omega) rr fx dm f6
theorem wt_sim {B : BKT} {A : Nat → Prop} {H b N : Nat} {Ls : LNS} {hc hm : PH} (s : SK N hc hm) (r : RTT A H b Ls B hc hm) : ∃ gc gm, mS_weather 68 hc = some gc ∧ mm_skyOf hm = some gm ∧ RTT A H b Ls B gc gm ∧ (∀ x, x ≠ 1 → gc x = hc x) ∧ DM hm gm ∧ gc 1 6 = hc 1 6 := by
  have s1 := s.1
  obtain ⟨gc, gm, a1, a2, a3⟩ := wt_loop s FU FU 0 hc hm (by unfold FU; omega) (by unfold FU; omega) (Nat.zero_le _) r (fun _ _ => rfl) (dm_r hm) rfl
  exact ⟨gc, gm, a1, a2, a3⟩
/-! THE OFFICE'S YEAR: both sides -/
def OF (H N : Nat) (hc hm : PH) : Prop := N ≤ 16 ∧ hc 12 1 = 5 ∧ hc 12 3 = nI N ∧ hm 104 35 = nI N ∧ ∀ r, r < N → hc 13 (5 * r) = hm 122 (5 * r) ∧ (∃ k, k < 4 ∧ hc 13 (5 * r + 1) = nI (k + 1) ∧ hm 122 (5 * r + 1) = nI k) ∧ (∃ a, a < H ∧ hc 13 (5 * r + 2) = nI a ∧ hm 122 (5 * r + 2) = nI a) ∧ (∃ w, w < 4 ∧ hc 13 (5 * r + 3) = nI w ∧ hm 122 (5 * r + 3) = nI w) ∧ ∃ m, m < 100 ∧ hc 13 (5 * r + 4) = nI m ∧ hm 122 (5 * r + 4) = nI m
theorem of_of {H N : Nat} {hc hm gc gm : PH} (s : OF H N hc hm) (c0 : gc 12 = hc 12) (c1 : gc 13 = hc 13) (m3 : gm 104 35 = hm 104 35) (m1 : gm 122 = hm 122) : OF H N gc gm := by
  unfold OF
  rw [c0, c1, m3, m1]
  exact s
theorem at_12 {h : PH} {m r c : Nat} (c1 : h 12 1 = 5) (c3 : h 12 3 = nI m) (hm : m ≤ 16) (hr : r < m) (hc : c < 5) : mR_at 12 (nI r) (nI c) h = some (h 13 (5 * r + c)) := by
  unfold mR_at
  rw [if_neg (nI_pos (by omega)), c3, if_neg (nI_ge hr (by omega)), if_neg (nI_pos (by omega)), c1, if_pos (show nI c < (5 : Int32) from nI_lt (b := 5) hc (by decide)), show nI r * (5 : Int32) = nI (r * 5) from nI_mul r 5, nI_add, show ln (12 + 1) = 80 from rfl, ck_nI (by omega) (by decide), show ix (nI (r * 5 + c)) = r * 5 + c from nI_clamp (by omega), Nat.mul_comm r 5]
theorem rt_mono {B : BKT} {A : Nat → Prop} {H b b' : Nat} {Ls : LNS} {hc hm : PH} (r : RTT A H b Ls B hc hm) (h1 : b ≤ b') (h2 : b' < 1000000) : RTT A H b' Ls B hc hm := by
  obtain ⟨q1, q2, q3, q4, q5, q6, q7⟩ := r
  exact ⟨q1, q2, q3, q4, q5, q6, ⟨q7.1, by have := q7.2.1; omega, h2⟩⟩
theorem gr_e (z : Int32) (h : PH) : mm_greater 0 z h = some (imax 0 z) := by
  unfold mm_greater imax
  by_cases c : (0 : Int32) < z
  · rw [if_pos c, if_pos (Int32.le_of_lt c)]
  · rw [if_neg c]
    by_cases d : (0 : Int32) ≤ z
    · rw [if_pos d]
      rw [Int32.lt_iff_toInt_lt] at c
      rw [Int32.le_iff_toInt_le] at d
      rw [show z = 0 from Int32.toInt_inj.mp (by omega)]
    · rw [if_neg d]
theorem ls_e (a z : Int32) (h : PH) : mm_lesser a z h = some (imin a z) := by
  unfold mm_lesser imin
  by_cases c : z < a
  · rw [if_pos c, if_pos (Int32.le_of_lt c)]
  · rw [if_neg c]
    by_cases d : z ≤ a
    · rw [if_pos d]
      rw [Int32.lt_iff_toInt_lt] at c
      rw [Int32.le_iff_toInt_le] at d
      rw [show z = a from Int32.toInt_inj.mp (by omega)]
    · rw [if_neg d]
/-- a line of the office -/
theorem ol_sim {B : BKT} {A : Nat → Prop} {H b N : Nat} {Ls : LNS} {hc hm : PH} (o : OF H N hc hm) (r0 : RTT A H b Ls B hc hm) (hb : b + 1 < 1000000) {r : Nat} (hr : r < N) : ∃ gc gm, mS_officeLine 68 12 (nI r) hc = some gc ∧ mm_does (nI (5 * r)) hm = some gm ∧ RTT A H (b + 1) Ls B gc gm ∧ DC hc gc ∧ DM hm gm ∧ gc 1 = hc 1 := by
  obtain ⟨o1, o2, o3, o4, o5⟩ := o
  obtain ⟨q0, ⟨k, k1, k2, k3⟩, ⟨a, a1, a2, a3⟩, ⟨w, w1, w2, w3⟩, ⟨m, m1, m2, m3⟩⟩ := o5 r hr
  have t := r0.1
  have h12 := t.1
  have at1 : mR_at 12 (nI r) 1 hc = some (nI (k + 1)) := by
    have := at_12 (c := 1) o2 o3 o1 hr (by decide)
    rw [k2] at this
    exact this
  have at2 : mR_at 12 (nI r) 2 hc = some (nI a) := by
    have := at_12 (c := 2) o2 o3 o1 hr (by decide)
    rw [a2] at this
    exact this
  have at3 : mR_at 12 (nI r) 3 hc = some (nI w) := by
    have := at_12 (c := 3) o2 o3 o1 hr (by decide)
    rw [w2] at this
    exact this
  have at4 : mR_at 12 (nI r) 4 hc = some (nI m) := by
    have := at_12 (c := 4) o2 o3 o1 hr (by decide)
    rw [m2] at this
    exact this
  have cK : ∀ c, c < 5 → ∀ (z : Option PH), ck (nI (5 * r + c)) 160 z = z := fun c hc' z => ck_nI (by omega) (by decide)
  have xK : ∀ c, c < 5 → ix (nI (5 * r + c)) = 5 * r + c := fun c hc' => nI_clamp (by omega)
  have p1 : nI (5 * r) + (1 : Int32) = nI (5 * r + 1) := nI_1 _
  have p2 : nI (5 * r) + (2 : Int32) = nI (5 * r + 2) := nI_add _ 2
  have p3 : nI (5 * r) + (3 : Int32) = nI (5 * r + 3) := nI_add _ 3
  have p4 : nI (5 * r) + (4 : Int32) = nI (5 * r + 4) := nI_add _ 4
  have cls : mS_officeLine 68 12 (nI r) hc = if nI (k + 1) = 1 then bd (mB_read 1 (nI a) 8 hc) fun r4 => bd (mB_write 1 (nI a) 8 (imax 0 (r4 - nI m)) hc) fun h5 => some h5 else if nI (k + 1) = 2 then bd (mB_thicken 1 (nI a) (nI w) (nI m) hc) fun h7 => some h7 else if nI (k + 1) = 3 then bd (mS_mayWed 68 (nI a) hc) fun r8 => if r8 = 0 then some hc else bd (mS_wed 68 (nI a) hc) fun h9 => some h9 else bd (mB_isUp 1 (nI a) hc) fun r10 => if r10 = 0 then some hc else bd (mS_raze 68 (nI a) hc) fun h11 => some h11 := by
    unfold mS_officeLine
    rw [at2, bd_e, at4, bd_e, at1, bd_e, at3, bd_e, show sT 68 = 1 from rfl]
  have c67 : ∀ (z : Option PH), ck (nI (67 + a)) 115 z = z := fun z => ck_nI (by omega) (by decide)
  rw [cls]
  unfold mm_does
  rw [p1, p2, p4, cK 1 (by decide), lt_e, cK 2 (by decide), lt_e, cK 4 (by decide), lt_e, xK 1 (by decide), xK 2 (by decide), xK 4 (by decide), k3, a3, m3, p3, xK 3 (by decide)]
  simp only [jn1_e]
  have kc : k = 0 ∨ k = 1 ∨ k = 2 ∨ k = 3 := by omega
  rcases kc with e | e | e | e
  · subst e
    have c8 : hm 105 (67 + a) = hc 2 (11 * a + 8) := (colM t a1).2.2.2.2.1
    refine ⟨_, _, ?_, ?_, rt_mono (rt_wr r0 a1 (c := 8) (by decide) (by decide) (imax 0 (hc 2 (11 * a + 8) - nI m)) (fun z => by omega)) (Nat.le_succ b) hb, fun x _ x2 _ _ _ _ _ => up_cell x2, dm_up hm _ _, up_cell (by decide)⟩
    · rw [if_pos (show nI (0 + 1) = (1 : Int32) from rfl), show mB_read 1 (nI a) 8 hc = _ from rdB t a1 (c := 8) (by decide), bd_e, show mB_write 1 (nI a) 8 _ hc = _ from wrB t a1 (c := 8) (by decide) _, bd_e]
    · rw [if_pos (show nI 0 = (0 : Int32) from rfl), show (67 : Int32) + nI a = nI (67 + a) from nI_add 67 a, c67, show ix (nI (67 + a)) = 67 + a from nI_clamp (by omega), c8, gr_e, bd_e, c67, lt_e, if_neg (show ¬ nI 0 = (1 : Int32) by decide), if_neg (show ¬ nI 0 = (2 : Int32) by decide), if_neg (show ¬ nI 0 = (3 : Int32) by decide)]
      rfl
  · subst e
    obtain ⟨v, v1, v2, v3⟩ := tk_sim t a1 w1 m1
    have hv : R 0 99 v := by
      have := v3.2.2.2.2.2 a w a1 w1
      rw [up_same] at this
      exact this
    refine ⟨_, _, ?_, ?_, rt_mono (rt_wr r0 a1 (c := w) (by omega) (by omega) v (fun _ => hv)) (Nat.le_succ b) hb, fun x _ x2 _ _ _ _ _ => up_cell x2, dm_col hm (mc105 (by omega) (by omega)) v, up_cell (by decide)⟩
    · rw [if_neg (show ¬ nI (1 + 1) = (1 : Int32) by decide), if_pos (show nI (1 + 1) = (2 : Int32) from rfl), v1, bd_e]
    · rw [if_neg (show ¬ nI 1 = (0 : Int32) by decide), if_pos (show nI 1 = (1 : Int32) from rfl), cK 3 (by decide), cK 3 (by decide), w3, wlM t a1 w1, bd_e, v2 _ rfl, bd_e, if_neg (show ¬ nI 1 = (2 : Int32) by decide), if_neg (show ¬ nI 1 = (3 : Int32) by decide)]
  · subst e
    obtain ⟨x, x1, x2, x3⟩ := cw_sim t a1
    rw [if_neg (show ¬ nI (2 + 1) = (1 : Int32) by decide), if_neg (show ¬ nI (2 + 1) = (2 : Int32) by decide), if_pos (show nI (2 + 1) = (3 : Int32) from rfl), x2, bd_e, if_neg (show ¬ nI 2 = (0 : Int32) by decide), if_neg (show ¬ nI 2 = (1 : Int32) by decide), if_pos (show nI 2 = (2 : Int32) from rfl), x3, bd_e]
    by_cases x0 : x = 0
    · rw [if_pos x0, if_pos x0, if_neg (show ¬ nI 2 = (3 : Int32) by decide)]
      exact ⟨hc, hm, rfl, rfl, rt_mono r0 (Nat.le_succ b) hb, dc_r hc, dm_r hm, rfl⟩
    · obtain ⟨gc, gm, g1, g2, g3, g4, g5, g6⟩ := we_sim r0 hb a1
      rw [if_neg x0, if_neg x0, g1, bd_e, g2, bd_e, if_neg (show ¬ nI 2 = (3 : Int32) by decide)]
      exact ⟨gc, gm, rfl, rfl, g3, g4, g5, g6⟩
  · subst e
    rw [if_neg (show ¬ nI (3 + 1) = (1 : Int32) by decide), if_neg (show ¬ nI (3 + 1) = (2 : Int32) by decide), if_neg (show ¬ nI (3 + 1) = (3 : Int32) by decide), isBB t a1, bd_e, if_neg (show ¬ nI 3 = (0 : Int32) by decide), if_neg (show ¬ nI 3 = (1 : Int32) by decide), if_neg (show ¬ nI 3 = (2 : Int32) by decide), if_pos (show nI 3 = (3 : Int32) from rfl), isM t a1, bd_e]
    by_cases u : upI hc a = 0
    · rw [if_pos u, if_pos u]
      exact ⟨hc, hm, rfl, rfl, rt_mono r0 (Nat.le_succ b) hb, dc_r hc, dm_r hm, rfl⟩
    · obtain ⟨gc, gm, g1, g2, g3, g4, g5, g6⟩ := rz_sim r0 a1
      rw [if_neg u, if_neg u, g1, bd_e, g2, bd_e]
      exact ⟨gc, gm, rfl, rfl, rt_mono g3 (Nat.le_succ b) hb, g4, g5, g6⟩
/-- all lines of this quarter -/
theorem ol_loop {B : BKT} {A : Nat → Prop} {H b N : Nat} {Ls : LNS} {hc hm : PH} (o : OF H N hc hm) (hb : b + N < 1000000) : ∀ (n nM r : Nat) (gc gm : PH), N < n + r → N < nM + r → r ≤ N → RTT A H (b + r) Ls B gc gm → DC hc gc → DM hm gm → gc 1 6 = hc 1 6 → ∃ gc' gm', (∀ k0, mS_pass_L6 68 k0 n (nI r) gc = k0 gc') ∧ (∀ k0, mm_goesBy_L6 k0 nM (nI (5 * r)) gm = k0 gm') ∧ RTT A H (b + N) Ls B gc' gm' ∧ DC hc gc' ∧ DM hm gm' ∧ gc' 1 6 = hc 1 6 := by
  intro n
  induction n with
  | zero => intro nM r gc gm h1 h2 h3; omega
  | succ n ih =>
    intro nM r gc gm h1 h2 h3 rr dc dm f6
    cases nM with
    | zero => omega
    | succ nM =>
    have oo : OF H N gc gm := of_of o (dc 12 (by decide) (by decide) (by decide) (by decide) (by decide) (by decide) (by decide)) (dc 13 (by decide) (by decide) (by decide) (by decide) (by decide) (by decide) (by decide)) (by rw [dm 104 (by decide) (by decide) (by decide) (by decide)]) (dm 122 (by decide) (by decide) (by decide) (by decide))
    obtain ⟨o1, o2, o3, o4, o5⟩ := oo
    have oo : OF H N gc gm := ⟨o1, o2, o3, o4, o5⟩
    have t5 : (5 : Int32) * nI N = nI (5 * N) := nI_mul 5 N
    by_cases c : r = N
    · subst c
      refine ⟨gc, gm, fun k0 => ?_, fun k0 => ?_, rr, dc, dm, f6⟩
      · rw [mS_pass_L6, o3, if_pos (nI_le (by omega) (by omega))]
      · rw [mm_goesBy_L6, o4, t5, if_pos (nI_le (by omega) (by omega))]
    · have hr : r < N := by omega
      obtain ⟨q0, _⟩ := o5 r hr
      have a0 : mR_at 12 (nI r) 0 gc = some (gm 122 (5 * r)) := by
        have := at_12 (c := 0) o2 o3 o1 hr (by decide)
        rw [Nat.add_zero, q0] at this
        exact this
      have e6 : gc 1 6 = gm 105 0 := rr.1.2.2.2.1 6 (by decide) (by decide)
      have k5 : ∀ (z : Option (Int32 × PH)), ck (nI (5 * r)) 160 z = z := fun z => ck_nI (by omega) (by decide)
      have j0 : ∀ (z : Option (Int32 × PH)), ck 0 115 z = z := fun z => ck_nI (i := 0) (by decide) (by decide)
      have p5 : nI (5 * r) + (5 : Int32) = nI (5 * (r + 1)) := nI_add _ 5
      have x5 : ix (nI (5 * r)) = 5 * r := nI_clamp (by omega)
      by_cases q : gm 122 (5 * r) = gc 1 6
      · obtain ⟨g1, g2, a1, a2, a3, a4, a5, a6⟩ := ol_sim oo rr (by omega) hr
        obtain ⟨gc', gm', b1, b2, b3⟩ := ih nM (r + 1) g1 g2 (by omega) (by omega) (by omega) a3 (dc_t dc a4) (dm_t dm a5) (by rw [a6]; exact f6)
        refine ⟨gc', gm', fun k0 => ?_, fun k0 => ?_, b3⟩
        · rw [mS_pass_L6, o3, if_neg (nI_ge hr (by omega)), a0, bd_e, show sT 68 = 1 from rfl, if_pos q, a1, bd_e, nI_1, b1]
        · rw [mm_goesBy_L6, o4, t5, if_neg (nI_ge (by omega) (by omega)), k5, j0, x5, show ix (0 : Int32) = 0 from rfl, if_pos (by rw [← e6]; exact q), a2, bd_e, lt_e, p5, b2]
      · obtain ⟨gc', gm', b1, b2, b3⟩ := ih nM (r + 1) gc gm (by omega) (by omega) (by omega) (rt_mono rr (by omega) (by omega)) dc dm f6
        refine ⟨gc', gm', fun k0 => ?_, fun k0 => ?_, b3⟩
        · rw [mS_pass_L6, o3, if_neg (nI_ge hr (by omega)), a0, bd_e, show sT 68 = 1 from rfl, if_neg q, nI_1, b1]
        · rw [mm_goesBy_L6, o4, t5, if_neg (nI_ge (by omega) (by omega)), k5, j0, x5, show ix (0 : Int32) = 0 from rfl, if_neg (by rw [← e6]; exact q), lt_e, p5, b2]
/-! house by house: rent, rats, rain, frost -/
theorem rl_loop2 {B : BKT} {H b : Nat} {Ls : LNS} {hc hm : PH} (p p' : Int32) : ∀ (n k : Nat) (gc gm : PH), H < n + k → k ≤ H → RTT AA H b Ls B gc gm → DC hc gc → DM hm gm → WD H hc gc → ∃ gc' gm', (∀ k0, mS_pass_L70 68 p k0 n (nI k) gc = k0 gc') ∧ (∀ k0, mm_goesBy_L50 p' k0 n (nI k) gm = k0 gm') ∧ RTT AA H b Ls B gc' gm' ∧ DC hc gc' ∧ DM hm gm' ∧ WD H hc gc' := by
  intro n
  induction n with
  | zero => intro k gc gm h1 h2; omega
  | succ n ih =>
    intro k gc gm h1 h2 rr dc dm wd
    have t := rr.1
    have h12 := t.1
    by_cases c : k = H
    · subst c
      refine ⟨gc, gm, fun k0 => ?_, fun k0 => ?_, rr, dc, dm, wd⟩
      · rw [mS_pass_L70, show sT 68 = 1 from rfl, t.2.1, if_pos (nI_le (Nat.le_refl _) (by omega))]
      · rw [mm_goesBy_L50, t.2.2.1, if_pos (nI_le (Nat.le_refl _) (by omega))]
    · have hk : k < H := by omega
      obtain ⟨g1, g2, a1, a2, a3, a4, a5, a6⟩ := pr_sim rr hk
      obtain ⟨gc', gm', b1, b2, b3⟩ := ih (k + 1) g1 g2 (by omega) (by omega) a3 (dc_t dc a4) (dm_t dm a5) (wd_t wd a6)
      obtain ⟨gi, gj, i1, i2, i3⟩ := ih (k + 1) gc gm (by omega) (by omega) rr dc dm wd
      have c79 : ∀ (z : Option (Int32 × PH)), ck (nI (79 + k)) 115 z = z := fun z => ck_nI (by omega) (by decide)
      have e7 : gm 105 (79 + k) = gc 2 (11 * k + 7) := (colM t hk).2.2.2.1
      by_cases u : upI gc k = 0
      · refine ⟨gi, gj, fun k0 => ?_, fun k0 => ?_, i3⟩
        · rw [mS_pass_L70, show sT 68 = 1 from rfl, t.2.1, if_neg (nI_ge hk (by omega)), isBB t hk, bd_e, if_pos u, nI_1, i1]
        · rw [mm_goesBy_L50, t.2.2.1, if_neg (nI_ge hk (by omega)), isM t hk, bd_e, if_pos u, nI_1, i2]
      · by_cases l : gc 2 (11 * k + 7) ≤ 0
        · refine ⟨gi, gj, fun k0 => ?_, fun k0 => ?_, i3⟩
          · rw [mS_pass_L70, show sT 68 = 1 from rfl, t.2.1, if_neg (nI_ge hk (by omega)), isBB t hk, bd_e, if_neg u, show mB_read 1 (nI k) 7 gc = _ from rdB t hk (c := 7) (by decide), bd_e, if_pos l, nI_1, i1]
          · rw [mm_goesBy_L50, t.2.2.1, if_neg (nI_ge hk (by omega)), isM t hk, bd_e, if_neg u, show (79 : Int32) + nI k = nI (79 + k) from nI_add 79 k, c79, show ix (nI (79 + k)) = 79 + k from nI_clamp (by omega), e7, if_pos l, nI_1, i2]
        · refine ⟨gc', gm', fun k0 => ?_, fun k0 => ?_, b3⟩
          · rw [mS_pass_L70, show sT 68 = 1 from rfl, t.2.1, if_neg (nI_ge hk (by omega)), isBB t hk, bd_e, if_neg u, show mB_read 1 (nI k) 7 gc = _ from rdB t hk (c := 7) (by decide), bd_e, if_neg l, a1, bd_e, nI_1, b1]
          · rw [mm_goesBy_L50, t.2.2.1, if_neg (nI_ge hk (by omega)), isM t hk, bd_e, if_neg u, show (79 : Int32) + nI k = nI (79 + k) from nI_add 79 k, c79, show ix (nI (79 + k)) = 79 + k from nI_clamp (by omega), e7, if_neg l, a2, bd_e, nI_1, b2]
theorem gl_loop2 {B : BKT} {H b : Nat} {Ls : LNS} {hc hm : PH} (p p' : Int32) : ∀ (n k : Nat) (gc gm : PH), H < n + k → k ≤ H → RTT AA H b Ls B gc gm → DC hc gc → DM hm gm → WD H hc gc → ∃ gc' gm', (∀ k0, mS_pass_L118 68 p k0 n (nI k) gc = k0 gc') ∧ (∀ k0, mm_goesBy_L91 p' k0 n (nI k) gm = k0 gm') ∧ RTT AA H b Ls B gc' gm' ∧ DC hc gc' ∧ DM hm gm' ∧ WD H hc gc' := by
  intro n
  induction n with
  | zero => intro k gc gm h1 h2; omega
  | succ n ih =>
    intro k gc gm h1 h2 rr dc dm wd
    have t := rr.1
    have h12 := t.1
    by_cases c : k = H
    · subst c
      refine ⟨gc, gm, fun k0 => ?_, fun k0 => ?_, rr, dc, dm, wd⟩
      · rw [mS_pass_L118, show sT 68 = 1 from rfl, t.2.1, if_pos (nI_le (Nat.le_refl _) (by omega))]
      · rw [mm_goesBy_L91, t.2.2.1, if_pos (nI_le (Nat.le_refl _) (by omega))]
    · have hk : k < H := by omega
      obtain ⟨g1, g2, a1, a2, a3, a4, a5, a6⟩ := gn_sim rr hk
      obtain ⟨gc', gm', b1, b2, b3⟩ := ih (k + 1) g1 g2 (by omega) (by omega) a3 (dc_t dc a4) (dm_t dm a5) (wd_t wd a6)
      refine ⟨gc', gm', fun k0 => ?_, fun k0 => ?_, b3⟩
      · rw [mS_pass_L118, show sT 68 = 1 from rfl, t.2.1, if_neg (nI_ge hk (by omega)), a1, bd_e, nI_1, b1]
      · rw [mm_goesBy_L91, t.2.2.1, if_neg (nI_ge hk (by omega)), a2, bd_e, nI_1, b2]
theorem ml_loop2 {B : BKT} {H b : Nat} {Ls : LNS} {hc hm : PH} (p p' : Int32) : ∀ (n k : Nat) (gc gm : PH), H < n + k → k ≤ H → RTT AA H b Ls B gc gm → DC hc gc → DM hm gm → WD H hc gc → ∃ gc' gm', (∀ k0, mS_pass_L142 68 p k0 n (nI k) gc = k0 gc') ∧ (∀ k0, mm_goesBy_L112 p' k0 n (nI k) gm = k0 gm') ∧ RTT AA H b Ls B gc' gm' ∧ DC hc gc' ∧ DM hm gm' ∧ WD H hc gc' := by
  intro n
  induction n with
  | zero => intro k gc gm h1 h2; omega
  | succ n ih =>
    intro k gc gm h1 h2 rr dc dm wd
    have t := rr.1
    have h12 := t.1
    by_cases c : k = H
    · subst c
      refine ⟨gc, gm, fun k0 => ?_, fun k0 => ?_, rr, dc, dm, wd⟩
      · rw [mS_pass_L142, show sT 68 = 1 from rfl, t.2.1, if_pos (nI_le (Nat.le_refl _) (by omega))]
      · rw [mm_goesBy_L112, t.2.2.1, if_pos (nI_le (Nat.le_refl _) (by omega))]
    · have hk : k < H := by omega
      obtain ⟨g1, g2, a1, a2, a3, a4, a5, a6⟩ := mt_sim rr hk
      obtain ⟨gc', gm', b1, b2, b3⟩ := ih (k + 1) g1 g2 (by omega) (by omega) a3 (dc_t dc a4) (dm_t dm a5) (wd_t wd a6)
      refine ⟨gc', gm', fun k0 => ?_, fun k0 => ?_, b3⟩
      · rw [mS_pass_L142, show sT 68 = 1 from rfl, t.2.1, if_neg (nI_ge hk (by omega)), a1, bd_e, nI_1, b1]
      · rw [mm_goesBy_L112, t.2.2.1, if_neg (nI_ge hk (by omega)), a2, bd_e, nI_1, b2]
theorem hd_loop2 {B : BKT} {A : Nat → Prop} {H b : Nat} {Ls : LNS} {hc hm : PH} (p' : Int32) : ∀ (n nM k : Nat) (gc gm : PH), H < n + k → H < nM + k → k ≤ H → RTT A H b Ls B gc gm → (∀ x, x ≠ 2 → gc x = hc x) → (∀ i c, i < H → c < 11 → c ≠ 6 → gc 2 (11 * i + c) = hc 2 (11 * i + c)) → DM hm gm → ∃ gc' gm', mS_harden_L2 68 n (nI k) gc = some gc' ∧ (∀ k0, mm_goesBy_L133 p' k0 nM (nI k) gm = k0 gm') ∧ RTT A H b Ls B gc' gm' ∧ (∀ x, x ≠ 2 → gc' x = hc x) ∧ (∀ i c, i < H → c < 11 → c ≠ 6 → gc' 2 (11 * i + c) = hc 2 (11 * i + c)) ∧ DM hm gm' := by
  intro n
  induction n with
  | zero => intro nM k gc gm h1 h2 h3; omega
  | succ n ih =>
    intro nM k gc gm h1 h2 h3 rr fx fy dm
    cases nM with
    | zero => omega
    | succ nM =>
    have t := rr.1
    have h12 := t.1
    by_cases c : k = H
    · subst c
      refine ⟨gc, gm, ?_, fun k0 => ?_, rr, fx, fy, dm⟩
      · rw [mS_harden_L2, show sT 68 = 1 from rfl, t.2.1, if_pos (nI_le (Nat.le_refl _) (by omega))]
      · rw [mm_goesBy_L133, t.2.2.1, if_pos (nI_le (Nat.le_refl _) (by omega))]
    · have hk : k < H := by omega
      have c4 : ∀ (z : Option (Int32 × PH)), ck 4 115 z = z := fun z => ck_nI (i := 4) (by decide) (by decide)
      have c55 : ∀ (z : Option (Int32 × PH)), ck (nI (55 + k)) 115 z = z := fun z => ck_nI (by omega) (by decide)
      have e3 : gc 1 3 = gm 105 4 := t.2.2.2.1 3 (by decide) (by decide)
      have e6 : gm 105 (55 + k) = gc 2 (11 * k + 6) := (colM t hk).2.2.1
      obtain ⟨gi, gj, i1, i2, i3⟩ := ih nM (k + 1) gc gm (by omega) (by omega) (by omega) rr fx fy dm
      by_cases f : gc 1 3 = 1
      · by_cases u : upI gc k = 0
        · refine ⟨gi, gj, ?_, fun k0 => ?_, i3⟩
          · rw [mS_harden_L2, show sT 68 = 1 from rfl, t.2.1, if_neg (nI_ge hk (by omega)), if_pos f, isBB t hk, bd_e, if_pos u, nI_1, i1]
          · rw [mm_goesBy_L133, t.2.2.1, if_neg (nI_ge hk (by omega)), c4, show ix (4 : Int32) = 4 from rfl, if_pos (by rw [← e3]; exact f), isM t hk, bd_e, if_pos u, nI_1, i2]
        · obtain ⟨gi, gj, i1, i2, i3⟩ := ih nM (k + 1) (up gc 2 (11 * k + 6) (imin 9 (gc 2 (11 * k + 6) + 1))) (up gm 105 (55 + k) (imin 9 (gc 2 (11 * k + 6) + 1))) (by omega) (by omega) (by omega) (rt_wr rr hk (c := 6) (by decide) (by decide) _ (fun z => by omega)) (fun x hx => by rw [up_cell hx]; exact fx x hx) (fun i c hi hc' h6 => by rw [up_oj (by omega)]; exact fy i c hi hc' h6) (dm_t dm (dm_up gm _ _))
          refine ⟨gi, gj, ?_, fun k0 => ?_, i3⟩
          · rw [mS_harden_L2, show sT 68 = 1 from rfl, t.2.1, if_neg (nI_ge hk (by omega)), if_pos f, isBB t hk, bd_e, if_neg u, show mB_read 1 (nI k) 6 gc = _ from rdB t hk (c := 6) (by decide), bd_e, show mB_write 1 (nI k) 6 _ gc = _ from wrB t hk (c := 6) (by decide) _, bd_e, nI_1, i1]
          · rw [mm_goesBy_L133, t.2.2.1, if_neg (nI_ge hk (by omega)), c4, show ix (4 : Int32) = 4 from rfl, if_pos (by rw [← e3]; exact f), isM t hk, bd_e, if_neg u, show (55 : Int32) + nI k = nI (55 + k) from nI_add 55 k, c55, show ix (nI (55 + k)) = 55 + k from nI_clamp (by omega), e6, ls_e, bd_e, c55, lt_e, nI_1, i2]
      · refine ⟨gi, gj, ?_, fun k0 => ?_, i3⟩
        · rw [mS_harden_L2, show sT 68 = 1 from rfl, t.2.1, if_neg (nI_ge hk (by omega)), if_neg f, nI_1, i1]
        · rw [mm_goesBy_L133, t.2.2.1, if_neg (nI_ge hk (by omega)), c4, show ix (4 : Int32) = 4 from rfl, if_neg (by rw [← e3]; exact f), nI_1, i2]
