/-! QUARTERS: both sides; what is kept stays kept -/
theorem rt_Bn {B : BKT} {A : Nat → Prop} {H b : Nat} {Ls : LNS} {hc hm : PH} (r : RTT A H b Ls B hc hm) : ∃ n, n ≤ 150 ∧ hc 16 3 = nI n ∧ RTT A H b Ls (n, hc 17) hc hm := by
  obtain ⟨q1, q2, ⟨n, n1, n2, n3, n4, n5, n6, n7⟩, q4, q5, q6, q7⟩ := r
  exact ⟨n, n1, n4, q1, q2, ⟨n, n1, n2, n3, n4, n5, n6, Nat.le_refl n, fun _ _ => rfl⟩, q4, q5, q6, q7⟩
/-- a deed leaves what is kept -/
theorem pk_deed {H b b' u s n : Nat} {Ls : LNS} {hc hm gc gm : PH} (pk : PK H b Ls u s hc hm) (hn : n ≤ 150) (e16 : hc 16 3 = nI n) (r : RTT AA H b' Ls (n, hc 17) gc gm) (dc : DC hc gc) (dm : DM hm gm) (hb : b ≤ b') : PK H b' Ls u s gc gm := by
  obtain ⟨p1, p2, p3, p4, p5, p6, p7⟩ := pk
  have fc : ∀ x, x ≠ 1 → x ≠ 2 → x ≠ 16 → x ≠ 17 → x < 34 ∨ 36 < x → gc x = hc x := fun x x1 x2 x3 x4 x5 => dc x x1 x2 x3 x4 (by omega) (by omega) (by omega)
  have fm : ∀ x, x ≠ 105 → x ≠ 110 → x < 124 → gm x = hm x := fun x x1 x2 x3 => dm x x1 x2 (by omega) (by omega)
  have c70 := fc 70 (by decide) (by decide) (by decide) (by decide) (by decide)
  have c72 := fc 72 (by decide) (by decide) (by decide) (by decide) (by decide)
  have m104 := fm 104 (by decide) (by decide) (by decide)
  obtain ⟨_, _, ⟨n', n1, n2, n3, n4, n5, n6, n7⟩, _, _, _, q7⟩ := r
  refine ⟨p1, p2, by rw [c70]; exact p3, by rw [c70]; exact p4, by rw [m104]; exact p5, fun j hj => ?_, fun i j hij hj => by rw [c72]; exact p7 i j hij hj⟩
  have me : (s + j) % 6 < 6 := Nat.mod_lt _ (by decide)
  have pj := p6 j hj
  generalize (s + j) % 6 = e at me pj
  obtain ⟨⟨t, lw, ⟨k, k1, k2, k3, k4, k5, k6, k7⟩, nx, re, th, ld⟩, le⟩ := pj
  have h12 := t.1
  have k4' : hc 72 e = nI k := k4
  have kn : k ≤ n := by
    rw [k4', e16] at le
    exact (nI_leI (by omega) (by omega)).mp le
  refine ⟨⟨tb_cg t (fun x _ _ => ?_) (fun x _ => ?_) ?_ (fun x _ => ?_) (fun x _ => ?_) (fun x _ => ?_), ⟨lw.1, lw.2.1, lw.2.2.1, lwc_of lw.2.2.2.1 (fun x x1 x2 => ?_), lwm_of lw.2.2.2.2 (fun x x1 x2 => ?_)⟩, ⟨k, k1, ?_, ?_, ?_, ?_, fun x hx => ?_, Nat.zero_le k, fun x hx => absurd hx (Nat.not_lt_zero x)⟩, fun x hx => ?_, ?_, ?_, ⟨fun i hi => ?_, ?_, q7.2.2⟩⟩, ?_⟩
  · rw [pC_1, pC_1, fc _ (by omega) (by omega) (by omega) (by omega) (by omega)]
  · rw [pC_2, pC_2, fc _ (by omega) (by omega) (by omega) (by omega) (by omega)]
  · rw [pM_o _ gm (by decide), pM_o _ hm (by decide), m104]
  · rw [pM_5, pM_5, fm 106 (by decide) (by decide) (by decide)]
  · rw [pM_o _ gm (by decide), pM_o _ hm (by decide), fm 108 (by decide) (by decide) (by decide)]
  · rw [pM_o _ gm (by decide), pM_o _ hm (by decide), fm 109 (by decide) (by decide) (by decide)]
  · rw [pC_o _ gc (by omega) (by omega) (by omega), pC_o _ hc (by omega) (by omega) (by omega)]
    exact fc x (by omega) (by omega) (by omega) (by omega) (by omega)
  · rw [pM_o _ gm (by omega), pM_o _ hm (by omega)]
    exact fm x (by omega) (by omega) (by omega)
  · rw [pC_6 _ gc (by decide)]; exact n2
  · rw [pC_6 _ gc (by decide)]; exact n3
  · rw [pC_3, c72]; exact k4'
  · rw [pM_5, fm 106 (by decide) (by decide) (by decide)]; exact k5
  · rw [pC_o _ gc (by decide) (by decide) (by decide), pM_o _ gm (by decide)]
    have := n7.1
    exact n6 x (by omega)
  · rw [nx_fr (g := pC e gc) (h := pC e hc) (by rw [pC_o _ gc (by decide) (by decide) (by decide), pC_o _ hc (by decide) (by decide) (by decide)]; exact fc 14 (by decide) (by decide) (by decide) (by decide) (by decide)) (by rw [pC_o _ gc (by decide) (by decide) (by decide), pC_o _ hc (by decide) (by decide) (by decide)]; exact fc 15 (by decide) (by decide) (by decide) (by decide) (by decide)), pM_o _ gm (by decide), fm 123 (by decide) (by decide) (by decide)]
    have := nx x hx
    rw [pM_o _ hm (by decide)] at this
    exact this
  · rw [pC_o _ gc (by decide) (by decide) (by decide), fc 68 (by decide) (by decide) (by decide) (by decide) (by decide)]
    rw [pC_o _ hc (by decide) (by decide) (by decide)] at re
    exact re
  · rw [pM_o _ gm (by decide), m104]
    rw [pM_o _ hm (by decide)] at th
    exact th
  · rw [pC_2, fc _ (by omega) (by omega) (by omega) (by omega) (by omega)]
    exact ld.1 i hi
  · have l := ld.2.1
    rw [lsm_of (h := pC e hc) H (fun i _ => by rw [pC_2, pC_2, fc _ (by omega) (by omega) (by omega) (by omega) (by omega)])]
    omega
  · rw [c72, k4', n4]
    have := n7.1
    exact nI_le (by omega) (by omega)
theorem pk_mono {H b b' u s : Nat} {Ls : LNS} {hc hm : PH} (pk : PK H b Ls u s hc hm) (h1 : b ≤ b') (h2 : b' < 1000000) : PK H b' Ls u s hc hm := by
  obtain ⟨p1, p2, p3, p4, p5, p6, p7⟩ := pk
  exact ⟨p1, p2, p3, p4, p5, fun j hj => ⟨rt_mono (p6 j hj).1 h1 h2, (p6 j hj).2⟩, p7⟩
/-- frames of quarters and acts -/
def DC2 (h g : PH) : Prop := ∀ x, x ≠ 1 → x ≠ 2 → x ≠ 16 → x ≠ 17 → x < 34 ∨ 36 < x → x < 70 ∨ 84 < x → g x = h x
def DM2 (h g : PH) : Prop := (∀ x, x ≠ 104 → x ≠ 105 → x ≠ 106 → x ≠ 110 → x ≠ 124 → x ≠ 125 → g x = h x) ∧ ∀ j, j ≠ 3 → g 104 j = h 104 j
theorem dc2_t {h g f : PH} (a : DC2 h g) (b : DC2 g f) : DC2 h f := fun x x1 x2 x3 x4 x5 x6 => by rw [b x x1 x2 x3 x4 x5 x6, a x x1 x2 x3 x4 x5 x6]
theorem dm2_t {h g f : PH} (a : DM2 h g) (b : DM2 g f) : DM2 h f := ⟨fun x x1 x2 x3 x4 x5 x6 => by rw [b.1 x x1 x2 x3 x4 x5 x6, a.1 x x1 x2 x3 x4 x5 x6], fun j hj => by rw [b.2 j hj, a.2 j hj]⟩
theorem dc2_d {h g : PH} (a : DC h g) : DC2 h g := fun x x1 x2 x3 x4 x5 _ => a x x1 x2 x3 x4 (by omega) (by omega) (by omega)
theorem dm2_d {h g : PH} (a : DM h g) : DM2 h g := ⟨fun x _ x2 _ x4 x5 x6 => a x x2 x4 x5 x6, fun j _ => by rw [a 104 (by decide) (by decide) (by decide) (by decide)]⟩
theorem sk_d {N : Nat} {hc hm gc gm : PH} (s : SK N hc hm) (dc : DC2 hc gc) (dm : DM2 hm gm) : SK N gc gm := sk_of s (dc 10 (by decide) (by decide) (by decide) (by decide) (by decide) (by decide)) (dc 11 (by decide) (by decide) (by decide) (by decide) (by decide) (by decide)) (dm.2 33 (by decide)) (dm.1 121 (by decide) (by decide) (by decide) (by decide) (by decide) (by decide))
theorem of_d {H N : Nat} {hc hm gc gm : PH} (s : OF H N hc hm) (dc : DC2 hc gc) (dm : DM2 hm gm) : OF H N gc gm := of_of s (dc 12 (by decide) (by decide) (by decide) (by decide) (by decide) (by decide)) (dc 13 (by decide) (by decide) (by decide) (by decide) (by decide) (by decide)) (dm.2 35 (by decide)) (dm.1 122 (by decide) (by decide) (by decide) (by decide) (by decide) (by decide))
def QA (h : PH) : Prop := ∀ c, (c = 1 ∨ c = 37 ∨ ∃ e, e < 6 ∧ c = 73 + 2 * e) → R 0 9999 (h c 6)
theorem qa_n {n : Nat} (h : n ≤ 9999) : R 0 9999 (nI n) := ⟨by rw [nI_toInt (by omega)]; omega, by rw [nI_toInt (by omega)]; omega⟩
/-- what is kept has its quarter, too -/
theorem qa_keep {H b u s : Nat} {Ls : LNS} {hc hm gc : PH} (pk : PK H b Ls u s hc hm) {p : Int32} (e : mP_keep 1 p hc = some gc) (q : QA hc) : QA gc := by
  obtain ⟨p1, p2, p3, p4, _⟩ := pk
  obtain ⟨g, a1, a2, a3, _⟩ := kp_c p1 p2 p3 p4 p
  rw [a1] at e
  cases e
  have m6 : (s + u) % 6 < 6 := Nat.mod_lt _ (by decide)
  intro c hc'
  rcases hc' with z | z | ⟨e, z1, z2⟩
  · subst z; rw [a2 1 (by decide) (by decide) (by omega) (by omega)]; exact q 1 (Or.inl rfl)
  · subst z; rw [a2 37 (by decide) (by decide) (by omega) (by omega)]; exact q 37 (Or.inr (Or.inl rfl))
  · subst z2
    by_cases y : e = (s + u) % 6
    · rw [y, a3 6 (by decide) (by decide)]; exact q 1 (Or.inl rfl)
    · rw [a2 _ (by omega) (by omega) (by omega) (by omega)]; exact q _ (Or.inr (Or.inr ⟨e, z1, rfl⟩))
theorem qa_d {hc gc : PH} (d : DC hc gc) (e : R 0 9999 (gc 1 6)) (q : QA hc) : QA gc := fun c hc' => by
  rcases hc' with z | z | ⟨e, z1, z2⟩
  · subst z; exact e
  · subst z; rw [d 37 (by decide) (by decide) (by decide) (by decide) (by decide) (by decide) (by decide)]; exact q 37 (Or.inr (Or.inl rfl))
  · rw [d c (by omega) (by omega) (by omega) (by omega) (by omega) (by omega) (by omega)]; exact q c (Or.inr (Or.inr ⟨e, z1, z2⟩))
theorem qt_loop {H N M P : Nat} {Ls : LNS} {hc hm : PH} (s0 : SK N hc hm) (o0 : OF H M hc hm) {Q : Nat} (hQ : Q + P ≤ 9999) (hP : P ≤ 60) {b : Nat} (hb : b + 16 * P < 1000000) : ∀ (n k : Nat) (v : Int32) (gc gm : PH), P < n + k → k ≤ P → RTT AA H (b + 16 * k) Ls B0 gc gm → (∃ u s, PK H (b + 16 * k) Ls u s gc gm) → QA gc → gc 1 6 = nI (Q + k) → DC2 hc gc → DM2 hm gm → ∃ v' gc' gm', mX_quarters_L31 (nI P) n v (nI k) gc = some (v', gc') ∧ mm_quarters_L36 (nI P) n v (nI k) gm = some (v', gm') ∧ RTT AA H (b + 16 * P) Ls B0 gc' gm' ∧ (∃ u s, PK H (b + 16 * P) Ls u s gc' gm') ∧ QA gc' ∧ DC2 hc gc' ∧ DM2 hm gm' := by
  intro n
  induction n with
  | zero => intro k v gc gm h1 h2; omega
  | succ n ih =>
    intro k v gc gm h1 h2 rr pk qa q6 dc dm
    by_cases c : k = P
    · subst c
      refine ⟨v, gc, gm, ?_, ?_, rr, pk, qa, dc, dm⟩
      · rw [mX_quarters_L31, if_pos (nI_le (Nat.le_refl _) (by omega))]
      · rw [mm_quarters_L36, if_pos (nI_le (Nat.le_refl _) (by omega))]
    · have hk : k < P := by omega
      obtain ⟨u, s, pk⟩ := pk
      obtain ⟨g1, m1, u', s', a1, a2, a3, a4, a5, a6, a7, a8⟩ := kp_sim rr pk
      have dc1 : DC2 gc g1 := fun x _ _ _ _ _ x6 => by
        rcases x6 with y | y
        · exact a5 x y
        · exact a6 x y
      have dm1 : DM2 gm m1 := ⟨fun x x1 _ x3 _ _ _ => a7 x x3 x1, a8⟩
      have s1 := sk_d (sk_d s0 dc dm) dc1 dm1
      have o1 := of_d (of_d o0 dc dm) dc1 dm1
      have oM := o1.1
      obtain ⟨l, l1, l2, l3⟩ := rt_Bn a3
      obtain ⟨x, g2, m2, b1, b2, b3, b4, b5, b6⟩ := ps_sim l3 s1 o1 (Q := Q + k) (by rw [a5 1 (by decide)]; exact q6) (by omega) (by omega)
      have p2 := pk_deed a4 l1 l2 b3 b4 b5 (by omega)
      obtain ⟨v', gc', gm', c1, c2, c3⟩ := ih (k + 1) (v + x) g2 m2 (by omega) (by omega) (rt_mono (rt_B0 b3) (by omega) (by omega)) ⟨u', s', pk_mono p2 (by omega) (by omega)⟩ (qa_d b4 (by rw [b6]; exact qa_n (by omega)) (qa_keep pk a1 qa)) (by rw [b6]; rfl) (dc2_t dc (dc2_t dc1 (dc2_d b4))) (dm2_t dm (dm2_t dm1 (dm2_d b5)))
      refine ⟨v', gc', gm', ?_, ?_, c3⟩
      · rw [mX_quarters_L31, if_neg (nI_ge hk (by omega)), a1, bd_e, b1, bd2_e, lt_e, nI_1, c1]
      · rw [mm_quarters_L36, if_neg (nI_ge hk (by omega)), a2, bd_e, b2, bd2_e, lt_e, nI_1, c2]
