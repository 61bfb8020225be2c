section
/-! THE CALL text -/
theorem lwm_lo {Ls : LNS} {h g : PH} (l1 : Ls.length ≤ 16) (l2 : (xp (cdo Ls)).length ≤ 400) (l : LWm Ls h) (e0 : g 113 0 = h 113 0) (lo : ∀ b j, (114 ≤ b ∧ b ≤ 117 ∧ j < 16) ∨ ((b = 118 ∨ b = 119) ∧ j < 400) → g b j = h b j) : LWm Ls g := by
  obtain ⟨a1, a2, a3⟩ := l
  refine ⟨by rw [e0]; exact a1, fun j k v hj => ?_, fun r x A W hr => ?_⟩
  · obtain ⟨hl, _⟩ := List.getElem?_eq_some_iff.mp hj
    rw [lo 118 _ (by omega), lo 119 _ (by omega)]
    exact a2 j k v hj
  · obtain ⟨hl, _⟩ := List.getElem?_eq_some_iff.mp hr
    rw [lo 114 _ (by omega), lo 115 _ (by omega), lo 116 _ (by omega), lo 117 _ (by omega)]
    exact a3 r x A W hr
theorem sk_lo {N : Nat} {hc hm gc gm : PH} (s : SK N hc hm) (c0 : gc 10 = hc 10) (c1 : gc 11 = hc 11) (m3 : gm 104 33 = hm 104 33) (lo : ∀ j, j < 48 → gm 121 j = hm 121 j) : SK N gc gm := by
  obtain ⟨s1, s2, s3, s4, s5⟩ := s
  refine ⟨s1, by rw [c0]; exact s2, by rw [c0]; exact s3, by rw [m3]; exact s4, fun r hr => ?_⟩
  rw [c1, lo _ (by omega), lo _ (by omega), lo _ (by omega)]
  exact s5 r hr
theorem of_lo {H N : Nat} {hc hm gc gm : PH} (s : OF H N hc hm) (c0 : gc 12 = hc 12) (c1 : gc 13 = hc 13) (m3 : gm 104 35 = hm 104 35) (lo : ∀ j, j < 80 → gm 122 j = hm 122 j) : OF H N gc gm := by
  obtain ⟨s1, s2, s3, s4, s5⟩ := s
  refine ⟨s1, by rw [c0]; exact s2, by rw [c0]; exact s3, by rw [m3]; exact s4, fun r hr => ?_⟩
  rw [c1, lo _ (by omega), lo _ (by omega), lo _ (by omega), lo _ (by omega), lo _ (by omega)]
  exact s5 r hr
/-- what is kept, under another law -/
theorem pk_law {H b u s : Nat} {Ls Ls' : LNS} {hc hm gc gm : PH} (pk : PK H b Ls u s hc hm) (c : ∀ x, x = 16 ∨ x = 17 ∨ x = 68 ∨ x = 70 ∨ (72 ≤ x ∧ x ≤ 84) → gc x = hc x) (m4 : ∀ j, j = 3 ∨ j = 5 ∨ j = 6 → gm 104 j = hm 104 j) (m : ∀ x, x = 106 ∨ x = 108 ∨ x = 109 ∨ x = 110 → gm x = hm x) (lw : LW Ls' gc gm) (nx : ∀ k, k < 12 → mO_nextTo 5 (nI k) gc = some (gm 123 k)) : PK H b Ls' u s gc gm := by
  obtain ⟨p1, p2, p3, p4, p5, p6, p7⟩ := pk
  have c70 := c 70 (by omega)
  have c72 := c 72 (by omega)
  refine ⟨p1, p2, by rw [c70]; exact p3, by rw [c70]; exact p4, by rw [m4 3 (by omega)]; exact p5, fun j hj => ?_, fun i j hij hj => by rw [c72]; exact p7 i j hij hj⟩
  have me : (s + j) % 6 < 6 := Nat.mod_lt _ (by decide)
  obtain ⟨⟨t, _, bk, _, re, th, ld⟩, le⟩ := p6 j hj
  generalize (s + j) % 6 = e at me t bk re ld le
  have h12 := t.1
  refine ⟨⟨tb_cg t (fun x _ _ => by rw [pC_1, pC_1, c _ (by omega)]) (fun x _ => by rw [pC_2, pC_2, c _ (by omega)]) (by rw [pM_o _ gm (by decide), pM_o _ hm (by decide), m4 6 (by omega)]) (fun x _ => by rw [pM_5, pM_5, m 106 (by omega)]) (fun x _ => by rw [pM_o _ gm (by decide), pM_o _ hm (by decide), m 108 (by omega)]) (fun x _ => by rw [pM_o _ gm (by decide), pM_o _ hm (by decide), m 109 (by omega)]), ⟨lw.1, lw.2.1, lw.2.2.1, lwc_of lw.2.2.2.1 (fun x x1 x2 => pC_o _ gc (by omega) (by omega) (by omega)), lwm_of lw.2.2.2.2 (fun x x1 x2 => pM_o _ gm (by omega))⟩, bk_cg bk (by rw [pC_6 _ gc (by decide), pC_6 _ hc (by decide), c 16 (by omega)]) (by rw [pC_6 _ gc (by decide), pC_6 _ hc (by decide), c 16 (by omega)]) (by rw [pC_3, pC_3, c72]) (fun x _ => by rw [pC_o _ gc (by decide) (by decide) (by decide), pC_o _ hc (by decide) (by decide) (by decide), c 17 (by omega)]) (by rw [pM_5, pM_5, m 106 (by omega)]) (fun x _ => by rw [pM_o _ gm (by decide), pM_o _ hm (by decide), m 110 (by omega)]), fun x hx => ?_, ?_, ?_, ld_of ld (fun x hx => by rw [pC_2, pC_2, c _ (by omega)])⟩, by rw [c72, c 16 (by omega)]; exact le⟩
  · rw [nx_fr (g := pC e gc) (h := gc) (pC_o _ gc (by decide) (by decide) (by decide)) (pC_o _ gc (by decide) (by decide) (by decide)), pM_o _ gm (by decide)]
    exact nx x hx
  · rw [pC_o _ gc (by decide) (by decide) (by decide), c 68 (by omega)]
    rw [pC_o _ hc (by decide) (by decide) (by decide)] at re
    exact re
  · rw [pM_o _ gm (by decide), m4 5 (by omega)]
    rw [pM_o _ hm (by decide)] at th
    exact th
theorem twn_tx {k H N M u s N' M' : Nat} {Ls Ls' : LNS} {h h2 : PH} (t : TWN k h) (hk : k < 512) (i : Inv h) (t4 : TNt H N M (1000 * k) Ls h h) (t5 : PK H (1000 * k) Ls u s h h) (fc : ∀ x, x < 85 → ¬ (6 ≤ x ∧ x ≤ 15) → x ≠ 70 → h2 x = h x) (fm : ∀ x, x = 105 ∨ x = 106 ∨ x = 108 ∨ x = 109 ∨ x = 110 ∨ x = 148 → h2 x = h x) (f4 : ∀ j, j = 5 ∨ j = 6 ∨ j = 72 → h2 104 j = h 104 j) (pp : (h2 70 = h 70 ∧ h2 104 3 = h 104 3) ∨ (h2 70 2 = h 70 2 ∧ h2 70 3 = 0 ∧ h2 104 3 = 0)) (lw : LW Ls' h2 h2) (nx : ∀ k, k < 12 → mO_nextTo 5 (nI k) h2 = some (h2 123 k)) (sk : SK N' h2 h2) (off : OF H M' h2 h2) (e37 : h2 14 3 = h2 104 37) : TWN (k + 1) h2 := by
  obtain ⟨⟨q1, q2, q3, q4, q5, q6, q7⟩, _⟩ := t4
  have h12 := q1.1
  have r : RTT AA H (1000 * k) Ls' B0 h2 h2 := ⟨tb_of q1 (fc 1 (by decide) (by decide) (by decide)) (fc 2 (by decide) (by decide) (by decide)) (f4 6 (by omega)) (fm 105 (by omega)) (fm 108 (by omega)) (fm 109 (by omega)), lw, bk_of q3 (fc 16 (by decide) (by decide) (by decide)) (fc 17 (by decide) (by decide) (by decide)) (by rw [fm 105 (by omega)]) (fm 110 (by omega)), nx, by rw [fc 68 (by decide) (by decide) (by decide)]; exact q5, by rw [f4 5 (by omega)]; exact q6, ld_of q7 (fun x hx => by rw [fc 2 (by decide) (by decide) (by decide)])⟩
  have pk : ∃ u' s', PK H (1000 * k) Ls' u' s' h2 h2 := by
    rcases pp with ⟨y1, y2⟩ | ⟨y1, y2, y3⟩
    · refine ⟨u, s, pk_law t5 (fun x hx => ?_) (fun j hj => ?_) (fun x hx => fm x (by omega)) lw nx⟩
      · by_cases z : x = 70
        · rw [z]; exact y1
        · exact fc x (by omega) (by omega) z
      · by_cases z : j = 3
        · rw [z]; exact y2
        · exact f4 j (by omega)
    · exact ⟨0, s, pk_0 t5.2.1 (by rw [y1]; exact t5.2.2.1) y2 y3⟩
  obtain ⟨u', s', pk⟩ := pk
  refine ⟨by omega, fun x hx => ?_, by rw [fc 69 (by decide) (by decide) (by decide)]; exact t.2.2.1, ⟨H, N', M', u', s', Ls', tn_mono ⟨r, sk, off, e37⟩ (by omega) (by omega), pk_mono pk (by omega) (by omega)⟩, fun nz => tni_st t hk i (fun x hx => fc x (by omega) (by omega) (by omega)) (f4 72 (by omega)) (f4 5 (by omega)) (fm 148 (by omega)) nz⟩
  rw [fc x (by rcases hx with y | y | ⟨e, y1, y2⟩ <;> omega) (by rcases hx with y | y | ⟨e, y1, y2⟩ <;> omega) (by rcases hx with y | y | ⟨e, y1, y2⟩ <;> omega)]
  exact t.2.1 x hx
theorem lw_kept {r : Nat} {gc gm g h2 : PH} {Ls : LNS} (hl : Ls.length = r) (hr : r ≤ 16) (lc : LCl Ls gc) (lm : LMl Ls gm) (lq : LQ Ls) (cc : CC (cdo Ls) gc) (mc' : MC (xp (cdo Ls)) gm) (l4 : (xp (cdo Ls)).length ≤ 400) (c61 : h2 6 1 = 5) (c63 : h2 6 3 = nI r) (c81 : h2 8 1 = 2) (c83 : h2 8 3 = nI (cdo Ls).length) (c7 : ∀ j, j < r * 5 → h2 7 j = gc 92 j) (c9 : ∀ j, j < (cdo Ls).length * 2 → h2 9 j = gc 94 j) (m0 : h2 113 0 = nI r) (m1 : ∀ b j, 114 ≤ b → b ≤ 117 → j < r → h2 b j = gm b (32 + j)) (m2 : ∀ j, j < (xp (cdo Ls)).length → h2 118 j = gm 118 (800 + j) ∧ h2 119 j = gm 119 (800 + j)) : LW Ls h2 h2 := by
  refine ⟨by omega, l4, lq, ⟨c61, by rw [hl]; exact c63, c81, c83, fun j k v hj => ?_, fun q w A W hq => ?_⟩, ⟨by rw [hl]; exact m0, fun j k v hj => ?_, fun q w A W hq => ?_⟩⟩
  · obtain ⟨hj', _⟩ := List.getElem?_eq_some_iff.mp hj
    rw [Nat.zero_add, c9 _ (by omega), c9 _ (by omega)]
    exact cc.2.2.2 j k v hj
  · obtain ⟨hq', _⟩ := List.getElem?_eq_some_iff.mp hq
    rw [c7 _ (by omega), c7 _ (by omega), c7 _ (by omega), c7 _ (by omega)]
    exact lc q w A W hq
  · obtain ⟨hj', _⟩ := List.getElem?_eq_some_iff.mp hj
    rw [Nat.zero_add, (m2 j hj').1, (m2 j hj').2]
    exact mc'.2 j k v hj
  · obtain ⟨hq', _⟩ := List.getElem?_eq_some_iff.mp hq
    rw [m1 114 q (by decide) (by decide) (by omega), m1 115 q (by decide) (by decide) (by omega), m1 116 q (by decide) (by decide) (by omega), m1 117 q (by decide) (by decide) (by omega)]
    exact lm q w A W hq
theorem sk_kept {r : Nat} {gc gm h2 : PH} (hr : r ≤ 16) (s : SR r gc gm) (c1 : h2 10 1 = 5) (c3 : h2 10 3 = nI r) (c : ∀ j, j < r * 5 → h2 11 j = gc 92 j) (m3 : h2 104 33 = nI r) (m : ∀ j, j < 3 * r → h2 121 j = gm 121 (48 + j)) : SK r h2 h2 := by
  refine ⟨hr, c1, c3, m3, fun q hq => ?_⟩
  obtain ⟨a, w, n, a1, w1, w2, n1, b1, b2, b3, b4, b5, b6⟩ := s q hq
  rw [c _ (by omega), c _ (by omega), c _ (by omega), m _ (by omega), m _ (by omega), m _ (by omega), show 48 + (3 * q + 1) = 48 + 3 * q + 1 by omega, show 48 + (3 * q + 2) = 48 + 3 * q + 2 by omega, b1, b2, b3, b4, b5, b6]
  refine ⟨rfl, ?_⟩
  have : w = 1 ∨ w = 2 ∨ w = 3 := by omega
  rcases this with e | e | e <;> subst e
  · exact Or.inl ⟨rfl, rfl, rfl⟩
  · exact Or.inr (Or.inl ⟨rfl, rfl⟩)
  · exact Or.inr (Or.inr ⟨rfl, rfl⟩)
theorem of_kept {H r : Nat} {gc gm h2 : PH} (hr : r ≤ 16) (s : ORr H r gc gm) (c1 : h2 12 1 = 5) (c3 : h2 12 3 = nI r) (c : ∀ j, j < r * 5 → h2 13 j = gc 92 j) (m3 : h2 104 35 = nI r) (m : ∀ j, j < 5 * r → h2 122 j = gm 122 (80 + j)) : OF H r h2 h2 := by
  refine ⟨hr, c1, c3, m3, fun q hq => ?_⟩
  obtain ⟨a, w, h, l, n, a1, w1, w2, h1, l1, n1, ⟨b1, b2, b3, b4, b5⟩, d1, d2, d3, d4, d5⟩ := s q hq
  rw [c _ (by omega), c _ (by omega), c _ (by omega), c _ (by omega), c _ (by omega), m _ (by omega), m _ (by omega), m _ (by omega), m _ (by omega), m _ (by omega), show 80 + (5 * q + 1) = 80 + 5 * q + 1 by omega, show 80 + (5 * q + 2) = 80 + 5 * q + 2 by omega, show 80 + (5 * q + 3) = 80 + 5 * q + 3 by omega, show 80 + (5 * q + 4) = 80 + 5 * q + 4 by omega, b1, b2, b3, b4, b5, d1, d2, d3, d4, d5]
  exact ⟨rfl, ⟨w - 1, by omega, by rw [show w - 1 + 1 = w by omega], rfl⟩, ⟨h, h1, rfl, rfl⟩, ⟨l, by omega, rfl, rfl⟩, ⟨n, by omega, rfl, rfl⟩⟩
theorem rt_24 (p : Int32) {h : PH} {x : Int32} {g : PH} (e : mm_readsText p h = some (x, g)) : g 104 24 = 0 := by
  unfold mm_readsText at e
  rw [lt_e] at e
  obtain ⟨h2, he, e⟩ := bd_s e
  have z : h2 104 24 = 0 := by
    rw [fkm_reads _ he 104 24 (show kk 104 24 ∉ FKdm_reads from (by decide : 1024 ∉ FKdm_reads)), up_same]
  rcases ite_or e with ⟨_, e⟩ | ⟨_, e⟩
  · obtain ⟨r3, h4, he, e⟩ := bd2_s e
    cases e
    exact (fkm_readSky _ he 104 24 (show kk 104 24 ∉ FKdm_readSky from (by decide : 1024 ∉ FKdm_readSky))).trans z
  · rcases ite_or e with ⟨_, e⟩ | ⟨_, e⟩
    · obtain ⟨r3, h4, he, e⟩ := bd2_s e
      cases e
      exact (fkm_readOffice _ he 104 24 (show kk 104 24 ∉ FKdm_readOffice from (by decide : 1024 ∉ FKdm_readOffice))).trans z
    · rcases ite_or e with ⟨_, e⟩ | ⟨_, e⟩
      · obtain ⟨r3, h4, he, e⟩ := bd2_s e
        cases e
        exact (fkm_readNexts _ he 104 24 (show kk 104 24 ∉ FKdm_readNexts from (by decide : 1024 ∉ FKdm_readNexts))).trans z
      · obtain ⟨r3, h4, he, e⟩ := bd2_s e
        cases e
        exact (fkm_readLaw _ he 104 24 (show kk 104 24 ∉ FKdm_readLaw from (by decide : 1024 ∉ FKdm_readLaw))).trans z
theorem tw_text (k : Nat) (a1 : Int32) (h : PH) (i : IM h) (rl : RLA h) (rx : RTX h) (t : TWN k h) (hk : k < 512) {rX rm : Int32} {h1 h2 : PH} (e1 : mX_text a1 h = some (rX, h1)) (e2 : mm_text a1 h1 = some (rm, h2)) (cs : CS h h1 h2) : TWN (k + 1) h2 := by
  have x104 := cs.2.2.2.1
  have ss := cs.2.2.2.2
  obtain ⟨t1, t2, t3, ⟨H, N, M, u, s0, Ls, t4, t5⟩, t6⟩ := id t
  have h12 : H ≤ 12 := t4.1.1.1
  have eH1 : h 1 1 = nI H := t4.1.1.2.1
  have eH6 : h 104 6 = nI H := t4.1.1.2.2.1
  have lwO := t4.1.2.1
  have rw0 := rows_t i.1
  have fX := fpX_text a1 h e1
  have fM := fkm_text a1 h1 e2
  have fc : ∀ x, x < 85 → ¬ (6 ≤ x ∧ x ≤ 15) → x ≠ 70 → h2 x = h x := fun x y1 y2 y3 => by
    rw [ss x (by omega)]
    exact fX x (by
      unfold FPdX_text
      simp only [List.mem_cons, List.not_mem_nil, or_false]
      omega)
  have fm : ∀ x, x = 105 ∨ x = 106 ∨ x = 108 ∨ x = 109 ∨ x = 110 ∨ x = 148 → h2 x = h x := fun x hx => by
    rw [← x104 x (by omega)]
    funext j
    exact fM x j (by
      unfold kk FKdm_text
      rw [if_neg (by omega)]
      simp only [List.mem_cons, List.not_mem_nil, or_false]
      omega)
  have f4 : ∀ j, j = 5 ∨ j = 6 ∨ j = 72 → h2 104 j = h 104 j := fun j hj => by
    rw [← x104 104 (by decide)]
    exact fM 104 j (by
      rw [show kk 104 j = 1000 + j from rfl]
      unfold FKdm_text
      simp only [List.mem_cons, List.not_mem_nil, or_false]
      omega)
  have done : ∀ {N' M' : Nat} {Ls' : LNS}, ((h2 70 = h 70 ∧ h2 104 3 = h 104 3) ∨ (h2 70 2 = h 70 2 ∧ h2 70 3 = 0 ∧ h2 104 3 = 0)) → LW Ls' h2 h2 → (∀ k, k < 12 → mO_nextTo 5 (nI k) h2 = some (h2 123 k)) → SK N' h2 h2 → OF H M' h2 h2 → h2 14 3 = h2 104 37 → TWN (k + 1) h2 := fun pp lw nx sk off e37 => twn_tx t hk i.1 t4 t5 fc fm f4 pp lw nx sk off e37
  -- nothing was kept
  have fail : (∀ x, 6 ≤ x → x ≤ 15 → h1 x = h x) → h1 70 = h 70 → (∀ j, j = 3 ∨ j = 33 ∨ j = 35 ∨ j = 37 → h2 104 j = h 104 j) → (∀ b j, LOW b j → 104 ≤ b → h2 b j = h b j) → TWN (k + 1) h2 := fun y1 y2 y3 y4 => by
    have cl : ∀ x, 6 ≤ x → x ≤ 15 → h2 x = h x := fun x x1 x2 => by rw [ss x (by omega)]; exact y1 x x1 x2
    refine done (Or.inl ⟨by rw [ss 70 (by decide)]; exact y2, y3 3 (by omega)⟩) (Ls' := Ls) ⟨lwO.1, lwO.2.1, lwO.2.2.1, lwc_of lwO.2.2.2.1 (fun x x1 x2 => cl x x1 (by omega)), lwm_lo lwO.1 lwO.2.1 lwO.2.2.2.2 (y4 113 0 (by unfold LOW; omega) (by decide)) (fun b j hb => y4 b j (by unfold LOW; omega) (by omega))⟩ (fun q hq => ?_) (sk_lo t4.2.1 (cl 10 (by decide) (by decide)) (cl 11 (by decide) (by decide)) (y3 33 (by omega)) (fun j hj => y4 121 j (by unfold LOW; omega) (by decide))) (of_lo t4.2.2.1 (cl 12 (by decide) (by decide)) (cl 13 (by decide) (by decide)) (y3 35 (by omega)) (fun j hj => y4 122 j (by unfold LOW; omega) (by decide))) (by rw [cl 14 (by decide) (by decide), y3 37 (by omega)]; exact t4.2.2.2)
    rw [nx_fr (cl 14 (by decide) (by decide)) (cl 15 (by decide) (by decide)), y4 123 q (by unfold LOW; omega) (by decide)]
    exact t4.1.2.2.2.1 q hq
  unfold mX_text at e1
  unfold mm_text at e2
  rw [show mD_forgetFault h = some (up (up h 90 2 0) 90 3 (-1)) from rfl, bd_e] at e1
  rw [lt_e, lt_e, lt_e, lt_e, lt_e, lt_e] at e2
  have hF : ∀ b, b ≠ 90 → up (up h 90 2 0) 90 3 (-1) b = h b := fun b hb => by rw [up_cell hb, up_cell hb]
  have F2 : up (up h 90 2 0) 90 3 (-1) 90 2 = 0 := by rw [up_oj (by decide), up_same]
  have F3 : up (up h 90 2 0) 90 3 (-1) 90 3 = -1 := up_same
  have iF : Inv (up (up h 90 2 0) 90 3 (-1)) := inv_put (inv_put i.1 (show sp 90 2 = (-2147483648, 2147483647) from rfl) (r_full _)) (show sp 90 3 = (-2147483648, 2147483647) from rfl) (r_full _)
  generalize up (up h 90 2 0) 90 3 (-1) = hf at e1 hF F2 F3 iF
  have hM : ∀ b, b ≠ 104 → up (up (up (up (up (up h1 104 0 0) 104 31 0) 104 32 (-1)) 104 12 0) 104 25 0) 104 26 0 b = h1 b := fun b hb => by rw [up_cell hb, up_cell hb, up_cell hb, up_cell hb, up_cell hb, up_cell hb]
  have hM4 : ∀ j, j ≠ 0 → j ≠ 31 → j ≠ 32 → j ≠ 12 → j ≠ 25 → j ≠ 26 → up (up (up (up (up (up h1 104 0 0) 104 31 0) 104 32 (-1)) 104 12 0) 104 25 0) 104 26 0 104 j = h 104 j := fun j j0 j1 j2 j3 j4 j5 => by rw [up_oj j5, up_oj j4, up_oj j3, up_oj j2, up_oj j1, up_oj j0, x104 104 (by decide)]
  have M12 : up (up (up (up (up (up h1 104 0 0) 104 31 0) 104 32 (-1)) 104 12 0) 104 25 0) 104 26 0 104 12 = 0 := by rw [up_oj (by decide), up_oj (by decide), up_same]
  have M25 : up (up (up (up (up (up h1 104 0 0) 104 31 0) 104 32 (-1)) 104 12 0) 104 25 0) 104 26 0 104 25 = 0 := by rw [up_oj (by decide), up_same]
  have M26 : up (up (up (up (up (up h1 104 0 0) 104 31 0) 104 32 (-1)) 104 12 0) 104 25 0) 104 26 0 104 26 = 0 := up_same
  generalize up (up (up (up (up (up h1 104 0 0) 104 31 0) 104 32 (-1)) 104 12 0) 104 25 0) 104 26 0 = hm at e2 hM hM4 M12 M25 M26
  by_cases f : 0 ≤ a1 ∧ a1 ≤ 3
  · obtain ⟨s, s1, s2, es⟩ := nat_of (rng_of (x := 0) (y := 3) rfl rfl f) (by decide)
    have hs4 : s < 4 := by omega
    obtain ⟨L, L1, L2, eL⟩ := nat_of (show R 0 400 (h 85 4) from inv_rng i.1 rfl) (by decide)
    have e11 : h 104 11 = nI L := by rw [← rl.2.2.2]; exact eL
    have bt : ∀ j, j < L → (h 86 j &&& 255) = nI ((h 111 j).toInt.toNat) ∧ h 111 j = nI ((h 111 j).toInt.toNat) ∧ (h 111 j).toInt.toNat < 256 := fun j hj => by
      obtain ⟨b1, b2⟩ := rx.1 j (by rw [e11, nI_toInt L2]; omega)
      obtain ⟨w, w1, w2, ew⟩ := nat_of b2 (by decide)
      rw [b1, ew, nI_toInt w2, Int.toNat_natCast]
      exact ⟨rfl, rfl, by omega⟩
    have tc : TC (fun j => (h 111 j).toInt.toNat) L hf := ⟨by omega, by rw [hF 85 (by decide)]; exact eL, fun j hj => by rw [hF 86 (by decide)]; exact ⟨(bt j hj).1, (bt j hj).2.2⟩⟩
    have tm : TM (fun j => (h 111 j).toInt.toNat) L hm := ⟨by omega, by rw [hM4 11 (by decide) (by decide) (by decide) (by decide) (by decide) (by decide)]; exact e11, fun j hj => by rw [hM 111 (by decide), x104 111 (by decide)]; exact ⟨(bt j hj).2.1, (bt j hj).2.2⟩, fun j hj => by rw [hM 112 (by decide), x104 112 (by decide)]; exact wd_ch i j hj⟩
    have e1H : hf 1 1 = nI H := by rw [hF 1 (by decide)]; exact eH1
    have tx := tx_rows (s := s) (H := H) hs4 tc iF F2 F3 tm M12 M25 M26 h12 (by rw [hM4 6 (by decide) (by decide) (by decide) (by decide) (by decide) (by decide)]; exact eH6)
    rw [within_y f, bd_e, jn2_e, if_neg no10, e1H, es] at e1
    rw [isIn_y f, bd_e, jn2_e, if_neg no10, es] at e2
    have rdC : ∀ {x : Int32} {g : PH}, mD_reads (nI s) (nI H) hf = some (x, g) → ∀ b, b < 85 → g b = h b := fun {x g} e b hb => by
      have := fpD_reads (nI s) (nI H) hf e b (by
        unfold FPdD_reads
        simp only [List.mem_cons, List.not_mem_nil, or_false]
        omega)
      have this : g b = hf b := this
      rw [this, hF b (by omega)]
    have rdL : ∀ {x : Int32} {g : PH}, mm_readsText (nI s) hm = some (x, g) → ∀ b j, LOW b j → 104 ≤ b → g b j = h b j := fun {x g} e b j l hb => by
      have := (lo_text (nI s) e (by rw [M25]; decide)).2 b j l
      rw [hM b l.2.1, x104 b hb] at this
      exact this
    have rd4 : ∀ {x : Int32} {g : PH}, mm_readsText (nI s) hm = some (x, g) → ∀ j, j = 3 ∨ j = 33 ∨ j = 35 ∨ j = 37 → g 104 j = h 104 j := fun {x g} e j hj => by
      have := fkm_readsText (nI s) hm e 104 j (by
        rw [show kk 104 j = 1000 + j from rfl]
        unfold FKdm_readsText
        simp only [List.mem_cons, List.not_mem_nil, or_false]
        omega)
      rw [hM4 j (by omega) (by omega) (by omega) (by omega) (by omega) (by omega)] at this
      exact this
    rcases tx with ⟨r, gc, gm, r1, r2, r3, cr, q⟩ | ⟨gc, gm, r2, r3⟩
    · have gC := rdC r2
      have gL := rdL r3
      have g4 := rd4 r3
      rw [r2, bd2_e, if_neg no10] at e1
      rw [r3, bd2_e, if_neg (nI_nm1 (by omega))] at e2
      change (lt (up gc 85 4 0) fun h6 => if (1 : Int32) = 0 then some (-1, h6) else bd2 (mX_keepText (nI s) h6) fun r7 h8 => some (r7, h8)) = some (rX, h1) at e1
      change (lt (up gm 104 11 0) fun h11 => if (nI r : Int32) = -1 then some (-1, h11) else if (nI s) = 0 then bd (mm_takesLaw (nI r) h11) fun h12 => some (nI r, h12) else bd (mm_takesOther (nI s) (nI r) h11) fun h13 => some (nI r, h13)) = some (rm, h2) at e2
      rw [lt_e, if_neg no10] at e1
      rw [lt_e, if_neg (nI_nm1 (by omega))] at e2
      have hC : ∀ b, b ≠ 85 → up gc 85 4 0 b = gc b := fun b hb => up_cell hb
      have c91 : up gc 85 4 0 91 1 = nI 5 ∧ up gc 85 4 0 91 3 = nI r := by rw [hC 91 (by decide)]; exact ⟨cr.2.1, cr.2.2⟩
      have wT : ∀ q, q < 6 → up gc 85 4 0 (6 + 2 * q) 1 = nI (rwT q) := fun q hq => by rw [hC _ (by omega), gC _ (by omega)]; exact (rw0.1 q hq).1
      have oldLW : (∀ x, 6 ≤ x → x ≤ 9 → h2 x = h x) → (∀ b j, LOW b j → b ≤ 119 → 113 ≤ b → h2 b j = h b j) → LW Ls h2 h2 := fun y1 y2 => ⟨lwO.1, lwO.2.1, lwO.2.2.1, lwc_of lwO.2.2.2.1 y1, lwm_lo lwO.1 lwO.2.1 lwO.2.2.2.2 (y2 113 0 (by unfold LOW; omega) (by decide) (by decide)) (fun b j hb => y2 b j (by unfold LOW; omega) (by omega) (by omega))⟩
      rcases s4 hs4 with e | e | e | e
      · -- a law
        subst e
        obtain ⟨Ls', l1, l2, l3, l5, l6, l7, l8⟩ := q.1 rfl
        have lc8 := xp_ge (cdo Ls')
        rw [if_pos (show nI 0 = (0 : Int32) from rfl)] at e2
        obtain ⟨g1, p1, p2⟩ := cp_d 6 91 r 5 (by decide) (by show r * 5 ≤ 80; omega) (by show r * 5 ≤ 80; omega) (by decide) (h := up gc 85 4 0) (by omega) c91.2 c91.1 (show up gc 85 4 0 6 1 = nI 5 from wT 0 (by decide))
        have b93 : g1 93 = gc 93 := by rw [p2.1 93 (by decide) (by decide), hC 93 (by decide)]
        have b94 : g1 94 = gc 94 := by rw [p2.1 94 (by decide) (by decide), hC 94 (by decide)]
        have b8 : g1 8 = up gc 85 4 0 8 := p2.1 8 (by decide) (by decide)
        obtain ⟨g2, p3, p4⟩ := cp_d 8 93 (cdo Ls').length 2 (by decide) (by show (cdo Ls').length * 2 ≤ 800; omega) (by show (cdo Ls').length * 2 ≤ 800; omega) (by decide) (h := g1) (by omega) (by rw [b93]; exact l6.2.2.1) (by rw [b93]; exact l6.2.1) (by rw [b8]; exact wT 1 (by decide))
        unfold mX_keepText at e1
        rw [if_pos (show nI 0 = (0 : Int32) from rfl), p1, bd_e, p3, bd_e, bd2_e] at e1
        have eh := (Prod.mk.inj (Option.some.inj e1)).2
        obtain ⟨g3, v1, v2, v3, v4, v5⟩ := tl_at r1 l8 (hm := up gm 104 11 0) (by rw [up_oj (by decide)]; exact rt_24 _ r3) (by rw [up_oj (by decide)]; exact l7.1)
        rw [v1, bd_e] at e2
        have eh2 := (Prod.mk.inj (Option.some.inj e2)).2
        have cX : ∀ x, x < 85 → x ≠ 6 → x ≠ 7 → x ≠ 8 → x ≠ 9 → h2 x = h x := fun x x0 x1 x2 x3 x4 => by
          rw [ss x (by omega), ← eh, p4.1 x x3 x4, p2.1 x x1 x2, hC x (by omega), gC x x0]
        have mX : ∀ b j, LOW b j → 104 ≤ b → (b < 113 ∨ 119 < b) → h2 b j = h b j := fun b j l hb hb2 => by
          rw [← eh2, v2 b hb2, up_oc l.2.1]
          exact gL b j l hb
        have m4' : ∀ j, j = 3 ∨ j = 33 ∨ j = 35 ∨ j = 37 → h2 104 j = h 104 j := fun j hj => by
          rw [← eh2, v2 104 (by omega), up_oj (by omega)]
          exact g4 j hj
        have c3 : (up gc 85 4 0 91 3).toNatClampNeg = r := by rw [c91.2]; exact clm (by omega)
        have c93 : (g1 93 3).toNatClampNeg = (cdo Ls').length := by rw [b93, l6.2.2.1]; exact clm (by omega)
        have up11 : ∀ b, b ≠ 104 → up gm 104 11 0 b = gm b := fun b hb => up_cell hb
        refine done (Or.inl ⟨cX 70 (by decide) (by decide) (by decide) (by decide) (by decide), m4' 3 (by omega)⟩) (lw_kept (g := g1) l1 r1 l2 l3 l5 l6 l7 l8 ?_ ?_ ?_ ?_ (fun j hj => ?_) (fun j hj => ?_) ?_ (fun b j b1 b2 hj => ?_) (fun j hj => ?_)) (fun q' hq => ?_) (sk_lo t4.2.1 (cX 10 (by decide) (by decide) (by decide) (by decide) (by decide)) (cX 11 (by decide) (by decide) (by decide) (by decide) (by decide)) (m4' 33 (by omega)) (fun j hj => mX 121 j (by unfold LOW; omega) (by decide) (by omega))) (of_lo t4.2.2.1 (cX 12 (by decide) (by decide) (by decide) (by decide) (by decide)) (cX 13 (by decide) (by decide) (by decide) (by decide) (by decide)) (m4' 35 (by omega)) (fun j hj => mX 122 j (by unfold LOW; omega) (by decide) (by omega))) (by rw [cX 14 (by decide) (by decide) (by decide) (by decide) (by decide), m4' 37 (by omega)]; exact t4.2.2.2)
        · rw [ss 6 (by decide), ← eh, p4.1 6 (by decide) (by decide), p2.2.2.1 1 (by decide)]; exact wT 0 (by decide)
        · rw [ss 6 (by decide), ← eh, p4.1 6 (by decide) (by decide), p2.2.1]; exact c91.2
        · rw [ss 8 (by decide), ← eh, p4.2.2.1 1 (by decide), b8]; exact wT 1 (by decide)
        · rw [ss 8 (by decide), ← eh, p4.2.1, b93]; exact l6.2.2.1
        · rw [ss 7 (by decide), ← eh, p4.1 7 (by decide) (by decide)]
          have := p2.2.2.2 j (by rw [c3]; exact hj)
          rw [show (6 : Nat) + 1 = 7 from rfl, show (91 : Nat) + 1 = 92 from rfl, hC 92 (by decide)] at this
          exact this
        · rw [ss 9 (by decide), ← eh]
          have := p4.2.2.2 j (by rw [c93]; exact hj)
          rw [show (8 : Nat) + 1 = 9 from rfl, show (93 : Nat) + 1 = 94 from rfl, b94] at this
          exact this
        · rw [← eh2]; exact v3
        · rw [← eh2, v4 b j b1 b2 hj, up11 b (by omega)]
        · rw [← eh2, (v5 j hj).1, (v5 j hj).2, up11 118 (by decide), up11 119 (by decide)]
          exact ⟨rfl, rfl⟩
        · rw [nx_fr (cX 14 (by decide) (by decide) (by decide) (by decide) (by decide)) (cX 15 (by decide) (by decide) (by decide) (by decide) (by decide)), mX 123 q' (by unfold LOW; omega) (by decide) (by omega)]
          exact t4.1.2.2.2.1 q' hq
      · -- text 1
        subst e
        have sr := q.2.1 rfl
        rw [if_neg (show ¬ nI 1 = (0 : Int32) by decide)] at e2
        obtain ⟨g1, p1, p2⟩ := cp_d 10 91 r 5 (by decide) (by show r * 5 ≤ 80; omega) (by show r * 5 ≤ 80; omega) (by decide) (h := up gc 85 4 0) (by omega) c91.2 c91.1 (show up gc 85 4 0 10 1 = nI 5 from wT 2 (by decide))
        unfold mX_keepText at e1
        rw [if_neg (show ¬ nI 1 = (0 : Int32) by decide), if_pos (show nI 1 = (1 : Int32) from rfl), p1, bd_e, show mP_forget g1 = some (up g1 70 3 0) from rfl, bd_e, bd2_e] at e1
        have eh := (Prod.mk.inj (Option.some.inj e1)).2
        obtain ⟨g3, v1, v2, v3, v4, v5, v6⟩ := to_at1 r1 (up gm 104 11 0)
        rw [show mm_takesOther (nI 1) (nI r) (up gm 104 11 0) = _ from v1, bd_e] at e2
        have eh2 := (Prod.mk.inj (Option.some.inj e2)).2
        have cX : ∀ x, x < 85 → x ≠ 10 → x ≠ 11 → x ≠ 70 → h2 x = h x := fun x x0 x1 x2 x3 => by
          rw [ss x (by omega), ← eh, up_cell x3, p2.1 x x1 x2, hC x (by omega), gC x x0]
        have mX : ∀ b j, LOW b j → 104 ≤ b → b ≠ 121 → h2 b j = h b j := fun b j l hb hb2 => by
          rw [← eh2, v2 b hb2 l.2.1, up_oc l.2.1]
          exact gL b j l hb
        have m4' : ∀ j, j = 33 ∨ j = 35 ∨ j = 37 → j ≠ 33 → h2 104 j = h 104 j := fun j hj hj2 => by
          rw [← eh2, v3 j hj2 (by omega), up_oj (by omega)]
          exact g4 j (by omega)
        have c3 : (up gc 85 4 0 91 3).toNatClampNeg = r := by rw [c91.2]; exact clm (by omega)
        have up11 : ∀ b, b ≠ 104 → up gm 104 11 0 b = gm b := fun b hb => up_cell hb
        have w1 : h2 10 1 = 5 := by rw [ss 10 (by decide), ← eh, up_oc (by decide), p2.2.2.1 1 (by decide)]; exact wT 2 (by decide)
        have w3 : h2 10 3 = nI r := by rw [ss 10 (by decide), ← eh, up_oc (by decide), p2.2.1]; exact c91.2
        have wd : ∀ j, j < r * 5 → h2 11 j = gc 92 j := fun j hj => by
          rw [ss 11 (by decide), ← eh, up_oc (by decide)]
          have := p2.2.2.2 j (by rw [c3]; exact hj)
          rw [show (10 : Nat) + 1 = 11 from rfl, show (91 : Nat) + 1 = 92 from rfl, hC 92 (by decide)] at this
          exact this
        have pp : (h2 70 = h 70 ∧ h2 104 3 = h 104 3) ∨ (h2 70 2 = h 70 2 ∧ h2 70 3 = 0 ∧ h2 104 3 = 0) := Or.inr ⟨by rw [ss 70 (by decide), ← eh, up_oj (by decide), p2.1 70 (by decide) (by decide), hC 70 (by decide), gC 70 (by decide)], by rw [ss 70 (by decide), ← eh, up_same], by rw [← eh2]; exact v5⟩
        have lw := oldLW (fun x x1 x2 => cX x (by omega) (by omega) (by omega) (by omega)) (fun b j l b1 b2 => mX b j l (by omega) (by omega))
        exact done pp lw (fun q' hq => by
          rw [nx_fr (cX 14 (by decide) (by decide) (by decide) (by decide)) (cX 15 (by decide) (by decide) (by decide) (by decide)), mX 123 q' (by unfold LOW; omega) (by decide) (by decide)]
          exact t4.1.2.2.2.1 q' hq) (sk_kept r1 sr w1 w3 wd (by rw [← eh2]; exact v4) (fun j hj => by rw [← eh2, v6 j hj, up11 121 (by decide)])) (of_lo t4.2.2.1 (cX 12 (by decide) (by decide) (by decide) (by decide)) (cX 13 (by decide) (by decide) (by decide) (by decide)) (m4' 35 (by omega) (by decide)) (fun j hj => mX 122 j (by unfold LOW; omega) (by decide) (by decide))) (by rw [cX 14 (by decide) (by decide) (by decide) (by decide), m4' 37 (by omega) (by decide)]; exact t4.2.2.2)
      · -- text 2
        subst e
        have sr := q.2.2.1 rfl
        rw [if_neg (show ¬ nI 2 = (0 : Int32) by decide)] at e2
        obtain ⟨g1, p1, p2⟩ := cp_d 12 91 r 5 (by decide) (by show r * 5 ≤ 80; omega) (by show r * 5 ≤ 80; omega) (by decide) (h := up gc 85 4 0) (by omega) c91.2 c91.1 (show up gc 85 4 0 12 1 = nI 5 from wT 3 (by decide))
        unfold mX_keepText at e1
        rw [if_neg (show ¬ nI 2 = (0 : Int32) by decide), if_neg (show ¬ nI 2 = (1 : Int32) by decide), if_pos (show nI 2 = (2 : Int32) from rfl), p1, bd_e, show mP_forget g1 = some (up g1 70 3 0) from rfl, bd_e, bd2_e] at e1
        have eh := (Prod.mk.inj (Option.some.inj e1)).2
        obtain ⟨g3, v1, v2, v3, v4, v5, v6⟩ := to_at2 r1 (up gm 104 11 0)
        rw [show mm_takesOther (nI 2) (nI r) (up gm 104 11 0) = _ from v1, bd_e] at e2
        have eh2 := (Prod.mk.inj (Option.some.inj e2)).2
        have cX : ∀ x, x < 85 → x ≠ 12 → x ≠ 13 → x ≠ 70 → h2 x = h x := fun x x0 x1 x2 x3 => by
          rw [ss x (by omega), ← eh, up_cell x3, p2.1 x x1 x2, hC x (by omega), gC x x0]
        have mX : ∀ b j, LOW b j → 104 ≤ b → b ≠ 122 → h2 b j = h b j := fun b j l hb hb2 => by
          rw [← eh2, v2 b hb2 l.2.1, up_oc l.2.1]
          exact gL b j l hb
        have m4' : ∀ j, j = 33 ∨ j = 35 ∨ j = 37 → j ≠ 35 → h2 104 j = h 104 j := fun j hj hj2 => by
          rw [← eh2, v3 j hj2 (by omega), up_oj (by omega)]
          exact g4 j (by omega)
        have c3 : (up gc 85 4 0 91 3).toNatClampNeg = r := by rw [c91.2]; exact clm (by omega)
        have up11 : ∀ b, b ≠ 104 → up gm 104 11 0 b = gm b := fun b hb => up_cell hb
        have w1 : h2 12 1 = 5 := by rw [ss 12 (by decide), ← eh, up_oc (by decide), p2.2.2.1 1 (by decide)]; exact wT 3 (by decide)
        have w3 : h2 12 3 = nI r := by rw [ss 12 (by decide), ← eh, up_oc (by decide), p2.2.1]; exact c91.2
        have wd : ∀ j, j < r * 5 → h2 13 j = gc 92 j := fun j hj => by
          rw [ss 13 (by decide), ← eh, up_oc (by decide)]
          have := p2.2.2.2 j (by rw [c3]; exact hj)
          rw [show (12 : Nat) + 1 = 13 from rfl, show (91 : Nat) + 1 = 92 from rfl, hC 92 (by decide)] at this
          exact this
        have pp : (h2 70 = h 70 ∧ h2 104 3 = h 104 3) ∨ (h2 70 2 = h 70 2 ∧ h2 70 3 = 0 ∧ h2 104 3 = 0) := Or.inr ⟨by rw [ss 70 (by decide), ← eh, up_oj (by decide), p2.1 70 (by decide) (by decide), hC 70 (by decide), gC 70 (by decide)], by rw [ss 70 (by decide), ← eh, up_same], by rw [← eh2]; exact v5⟩
        have lw := oldLW (fun x x1 x2 => cX x (by omega) (by omega) (by omega) (by omega)) (fun b j l b1 b2 => mX b j l (by omega) (by omega))
        exact done pp lw (fun q' hq => by
          rw [nx_fr (cX 14 (by decide) (by decide) (by decide) (by decide)) (cX 15 (by decide) (by decide) (by decide) (by decide)), mX 123 q' (by unfold LOW; omega) (by decide) (by decide)]
          exact t4.1.2.2.2.1 q' hq) (sk_lo t4.2.1 (cX 10 (by decide) (by decide) (by decide) (by decide)) (cX 11 (by decide) (by decide) (by decide) (by decide)) (m4' 33 (by omega) (by decide)) (fun j hj => mX 121 j (by unfold LOW; omega) (by decide) (by decide))) (of_kept r1 sr w1 w3 wd (by rw [← eh2]; exact v4) (fun j hj => by rw [← eh2, v6 j hj, up11 122 (by decide)])) (by rw [cX 14 (by decide) (by decide) (by decide) (by decide), m4' 37 (by omega) (by decide)]; exact t4.2.2.2)
      · -- text 3
        subst e
        have sr := q.2.2.2 rfl
        rw [if_neg (show ¬ nI 3 = (0 : Int32) by decide)] at e2
        obtain ⟨g1, p1, p2⟩ := cp_d 14 91 r 5 (by decide) (by show r * 5 ≤ 80; omega) (by show r * 5 ≤ 80; omega) (by decide) (h := up gc 85 4 0) (by omega) c91.2 c91.1 (show up gc 85 4 0 14 1 = nI 5 from wT 4 (by decide))
        unfold mX_keepText at e1
        rw [if_neg (show ¬ nI 3 = (0 : Int32) by decide), if_neg (show ¬ nI 3 = (1 : Int32) by decide), if_neg (show ¬ nI 3 = (2 : Int32) by decide), p1, bd_e, bd2_e] at e1
        have eh := (Prod.mk.inj (Option.some.inj e1)).2
        obtain ⟨g3, v1, v2, v3, v4, v6⟩ := to_at3 r (up gm 104 11 0)
        rw [show mm_takesOther (nI 3) (nI r) (up gm 104 11 0) = _ from v1, bd_e] at e2
        have eh2 := (Prod.mk.inj (Option.some.inj e2)).2
        have cX : ∀ x, x < 85 → x ≠ 14 → x ≠ 15 → h2 x = h x := fun x x0 x1 x2 => by
          rw [ss x (by omega), ← eh, p2.1 x x1 x2, hC x (by omega), gC x x0]
        have mX : ∀ b j, LOW b j → 104 ≤ b → b ≠ 123 → h2 b j = h b j := fun b j l hb hb2 => by
          rw [← eh2, v2 b hb2 l.2.1, up_oc l.2.1]
          exact gL b j l hb
        have m4' : ∀ j, j = 3 ∨ j = 33 ∨ j = 35 ∨ j = 37 → j ≠ 37 → h2 104 j = h 104 j := fun j hj hj2 => by
          rw [← eh2, v3 j hj2, up_oj (by omega)]
          exact g4 j (by omega)
        have c3 : (up gc 85 4 0 91 3).toNatClampNeg = r := by rw [c91.2]; exact clm (by omega)
        have up11 : ∀ b, b ≠ 104 → up gm 104 11 0 b = gm b := fun b hb => up_cell hb
        have w1 : h2 14 1 = 5 := by rw [ss 14 (by decide), ← eh, p2.2.2.1 1 (by decide)]; exact wT 4 (by decide)
        have w3 : h2 14 3 = nI r := by rw [ss 14 (by decide), ← eh, p2.2.1]; exact c91.2
        have wd : ∀ j, j < r * 5 → h2 15 j = gc 92 j := fun j hj => by
          rw [ss 15 (by decide), ← eh]
          have := p2.2.2.2 j (by rw [c3]; exact hj)
          rw [show (14 : Nat) + 1 = 15 from rfl, show (91 : Nat) + 1 = 92 from rfl, hC 92 (by decide)] at this
          exact this
        have pp : (h2 70 = h 70 ∧ h2 104 3 = h 104 3) ∨ (h2 70 2 = h 70 2 ∧ h2 70 3 = 0 ∧ h2 104 3 = 0) := Or.inl ⟨(cX 70 (by decide) (by decide) (by decide)), m4' 3 (by omega) (by decide)⟩
        have lw := oldLW (fun x x1 x2 => cX x (by omega) (by omega) (by omega)) (fun b j l b1 b2 => mX b j l (by omega) (by omega))
        exact done pp lw (fun q' hq => by
          rw [nt_rows r1 w3 w1 q', ← eh2, v6 q' hq, up11 123 (by decide), sr.1 q' hq, eh2, nxF_x r (fun j hj => wd j (by omega))]) (sk_lo t4.2.1 (cX 10 (by decide) (by decide) (by decide)) (cX 11 (by decide) (by decide) (by decide)) (m4' 33 (by omega) (by decide)) (fun j hj => mX 121 j (by unfold LOW; omega) (by decide) (by decide))) (of_lo t4.2.2.1 (cX 12 (by decide) (by decide) (by decide)) (cX 13 (by decide) (by decide) (by decide)) (m4' 35 (by omega) (by decide)) (fun j hj => mX 122 j (by unfold LOW; omega) (by decide) (by decide))) (by rw [w3, ← eh2]; exact v4.symm)
    · have gC := rdC r2
      have gL := rdL r3
      have g4 := rd4 r3
      rw [r2, bd2_e, if_pos rfl] at e1
      rw [r3, bd2_e, if_pos rfl] at e2
      change (lt (up gc 85 4 0) fun h6 => if (0 : Int32) = 0 then some (-1, h6) else bd2 (mX_keepText (nI s) h6) fun r7 h8 => some (r7, h8)) = some (rX, h1) at e1
      rw [lt_e, if_pos rfl] at e1
      rw [lt_e, lt_e] at e2
      change (lt (up _ 104 11 0) fun h11 => if (-1 : Int32) = -1 then some (-1, h11) else if (nI s) = 0 then bd (mm_takesLaw (-1) h11) fun h12 => some (-1, h12) else bd (mm_takesOther (nI s) (-1) h11) fun h13 => some (-1, h13)) = some (rm, h2) at e2
      rw [lt_e, if_pos rfl] at e2
      have eh := (Prod.mk.inj (Option.some.inj e1)).2
      have eh2 := (Prod.mk.inj (Option.some.inj e2)).2
      refine fail (fun x x1 x2 => ?_) ?_ (fun j hj => ?_) (fun b j l hb => ?_)
      · rw [← eh, up_cell (by omega)]; exact gC x (by omega)
      · rw [← eh, up_cell (by decide)]; exact gC 70 (by decide)
      · rw [← eh2, up_oj (by omega), up_oj (by omega), up_oj (by omega)]; exact g4 j hj
      · rw [← eh2, up_oc l.2.1, up_oc l.2.1, up_oc l.2.1]; exact gL b j l hb
  · rw [within_n f, bd_e, jn2_e, if_pos rfl] at e1
    rw [isIn_n f, bd_e, jn2_e, if_pos rfl] at e2
    change (lt (up hf 85 4 0) fun h6 => if (0 : Int32) = 0 then some (-1, h6) else bd2 (mX_keepText a1 h6) fun r7 h8 => some (r7, h8)) = some (rX, h1) at e1
    change (lt (up hm 104 11 0) fun h11 => if (-1 : Int32) = -1 then some (-1, h11) else if a1 = 0 then bd (mm_takesLaw (-1) h11) fun h12 => some (-1, h12) else bd (mm_takesOther a1 (-1) h11) fun h13 => some (-1, h13)) = some (rm, h2) at e2
    rw [lt_e, if_pos rfl] at e1
    rw [lt_e, if_pos rfl] at e2
    have eh := (Prod.mk.inj (Option.some.inj e1)).2
    have eh2 := (Prod.mk.inj (Option.some.inj e2)).2
    refine fail (fun x x1 x2 => ?_) ?_ (fun j hj => ?_) (fun b j l hb => ?_)
    · rw [← eh, up_cell (by omega)]; exact hF x (by omega)
    · rw [← eh, up_cell (by decide)]; exact hF 70 (by decide)
    · rw [← eh2, up_oj (by omega)]; exact hM4 j (by omega) (by omega) (by omega) (by omega) (by omega) (by omega)
    · rw [← eh2, up_oc l.2.1, hM b l.2.1, x104 b hb]
end
section
/-! WHO IS LET ALONE: both sides look through the same sets -/
theorem sub_i (x y : Int32) : (x &&& y = x) ↔ (x &&& (y ^^^ (-1)) = 0) := by
  have m1 : ∀ i, i < 32 → (-1 : Int32).toBitVec.getLsbD i = true := by decide
  have z0 : ∀ i, i < 32 → (0 : Int32).toBitVec.getLsbD i = false := by decide
  constructor
  · intro h
    apply Int32.toBitVec_inj.mp
    apply BitVec.eq_of_getLsbD_eq
    intro i hi
    have hb : (x &&& y).toBitVec.getLsbD i = x.toBitVec.getLsbD i := by rw [h]
    rw [Int32.toBitVec_and, BitVec.getLsbD_and] at hb
    rw [Int32.toBitVec_and, Int32.toBitVec_xor, BitVec.getLsbD_and, BitVec.getLsbD_xor, m1 i hi, z0 i hi]
    revert hb
    cases x.toBitVec.getLsbD i <;> cases y.toBitVec.getLsbD i <;> decide
  · intro h
    apply Int32.toBitVec_inj.mp
    apply BitVec.eq_of_getLsbD_eq
    intro i hi
    have hb : (x &&& (y ^^^ (-1))).toBitVec.getLsbD i = (0 : Int32).toBitVec.getLsbD i := by rw [h]
    rw [Int32.toBitVec_and, Int32.toBitVec_xor, BitVec.getLsbD_and, BitVec.getLsbD_xor, m1 i hi, z0 i hi] at hb
    rw [Int32.toBitVec_and, BitVec.getLsbD_and]
    revert hb
    cases x.toBitVec.getLsbD i <;> cases y.toBitVec.getLsbD i <;> decide
theorem and_n (a b : Nat) : nI a &&& nI b = nI (a &&& b) := by
  apply Int32.toBitVec_inj.mp
  apply BitVec.eq_of_getLsbD_eq
  intro i hi
  have e : ∀ n, (nI n).toBitVec = BitVec.ofNat 32 n := fun n => rfl
  rw [Int32.toBitVec_and, BitVec.getLsbD_and, e, e, e, BitVec.getLsbD_ofNat, BitVec.getLsbD_ofNat, BitVec.getLsbD_ofNat, Nat.testBit_and]
  cases decide (i < 32) <;> cases a.testBit i <;> cases b.testBit i <;> rfl
theorem gt_sub {v P : Nat} (h : P < v) (hv : v < 100000) : ¬ nI v &&& nI P = nI v := fun e => by
  rw [and_n, nI_eq (by have := @Nat.and_le_left v P; omega) (by omega)] at e
  have := @Nat.and_le_right v P
  omega
theorem bit_0 : ∀ k, k < 12 → ∀ v, v < 2 ^ k → ¬ ((nI v >>> (nI k &&& 31)) &&& 1) = 1 := by decide +kernel
theorem al_8 {h hm : PH} (p3 : Int32) (nx : ∀ k, k < 12 → mO_nextTo 5 (nI k) h = some (hm 123 k)) : ∀ (n k : Nat) (hv : PH), 12 < n + k → k ≤ 12 → (∀ x, x ≠ 97 → hv x = h x) → (∀ j, j < k → hv 97 j = hm 123 j) → ∃ g, (∀ k0, mT_mostAlone_L8 5 p3 k0 n (nI k) hv = k0 g) ∧ (∀ x, x ≠ 97 → g x = h x) ∧ ∀ j, j < 12 → g 97 j = hm 123 j := by
  intro n
  induction n with
  | zero => intro k hv h1 h2; omega
  | succ n ih =>
    intro k hv h1 h2 fx fy
    by_cases c : k = 12
    · exact ⟨hv, fun k0 => by rw [mT_mostAlone_L8, if_pos (by rw [c]; decide)], fx, fun j hj => fy j (by omega)⟩
    · have hk : k < 12 := by omega
      obtain ⟨g, a1, a2, a3⟩ := ih (k + 1) (up hv 97 k (hm 123 k)) (by omega) (by omega) (fun x hx => by rw [up_cell hx]; exact fx x hx) (fun j hj => by
        by_cases z : j = k
        · rw [z, up_same]
        · rw [up_oj z]; exact fy j (by omega))
      refine ⟨g, fun k0 => ?_, a2, a3⟩
      rw [mT_mostAlone_L8, if_neg (show ¬ (12 : Int32) ≤ nI k from nI_ge (b := 12) hk (by decide)), nx_fr (fx 14 (by decide)) (fx 15 (by decide)), nx k hk, bd_e, ck_nI hk (by decide), lt_e, show ix (nI k) = k from nI_clamp (by omega), nI_1, a1]
theorem ai_tail {g : PH} {v H : Nat} (hv : v < 2 ^ H) : ∀ (n k : Nat), 12 < n + k → H ≤ k → k ≤ 12 → mT_isAlone_L2 (nI v) g n (nI k) = some 1 := by
  intro n
  induction n with
  | zero => intro k h1 h2 h3; omega
  | succ n ih =>
    intro k h1 h2 h3
    by_cases c : k = 12
    · rw [mT_isAlone_L2, if_pos (by rw [c]; decide)]
    · have hk : k < 12 := by omega
      rw [mT_isAlone_L2, if_neg (show ¬ (12 : Int32) ≤ nI k from nI_ge (b := 12) hk (by decide)), if_neg (bit_0 k hk v (Nat.lt_of_lt_of_le hv (Nat.pow_le_pow_right (by decide) h2))), nI_1]
      exact ih (k + 1) (by omega) (by omega) (by omega)
theorem ai_go {g hm : PH} {v H : Nat} (hH : H ≤ 12) (hv : v < 2 ^ H) (e6 : hm 104 6 = nI H) (e97 : ∀ j, j < 12 → g 97 j = hm 123 j) : ∀ (n m k : Nat), 12 < n + k → H < m + k → k ≤ H → ∃ x, mT_isAlone_L2 (nI v) g n (nI k) = some x ∧ mm_areAlone_L2 (nI v) hm m (nI k) = some x := by
  intro n
  induction n with
  | zero => intro m k h1 h2 h3; omega
  | succ n ih =>
    intro m k h1 h2 h3
    cases m with
    | zero => omega
    | succ m =>
    by_cases c : k = H
    · refine ⟨1, ai_tail hv (n + 1) k (by omega) (by omega) (by omega), ?_⟩
      rw [mm_areAlone_L2, e6, if_pos (by rw [c]; exact nI_le (Nat.le_refl _) (by omega))]
    · have hk : k < H := by omega
      obtain ⟨x, a1, a2⟩ := ih m (k + 1) (by omega) (by omega) (by omega)
      rw [mT_isAlone_L2, if_neg (show ¬ (12 : Int32) ≤ nI k from nI_ge (b := 12) (by omega) (by decide)), mm_areAlone_L2, e6, if_neg (nI_ge hk (by omega))]
      unfold mm_has
      by_cases b : ((nI v >>> (nI k &&& 31)) &&& 1) = 1
      · rw [if_pos b, if_pos b, bd_e, if_neg no10, ck_nI (show k < 12 by omega) (by decide), ck_nI (show k < 24 by omega) (by decide), show ix (nI k) = k from nI_clamp (by omega), e97 k (by omega), nI_1]
        by_cases d : hm 123 k &&& nI v = 0
        · rw [if_pos d, if_pos d]
          exact ⟨x, a1, a2⟩
        · rw [if_neg d, if_neg d]
          exact ⟨0, rfl, rfl⟩
      · rw [if_neg b, if_neg b, bd_e, if_pos rfl, nI_1]
        exact ⟨x, a1, a2⟩
theorem al_tail {g : PH} {P : Nat} (c : Int32) (b : Int32) : ∀ (n v : Nat), 4096 < n + v → P < v → v ≤ 4096 → mT_mostAlone_L43 (nI P) g n b c (nI v) = some (b, g) := by
  intro n
  induction n with
  | zero => intro v h1 h2 h3; omega
  | succ n ih =>
    intro v h1 h2 h3
    by_cases z : v = 4096
    · rw [mT_mostAlone_L43, if_pos (by rw [z]; decide)]
    · rw [mT_mostAlone_L43, if_neg (show ¬ (4096 : Int32) ≤ nI v from nI_ge (b := 4096) (by omega) (by decide)), if_neg (gt_sub h2 (by omega)), nI_1]
      exact ih (v + 1) (by omega) (by omega) (by omega)
theorem on_1 (h : PH) {s : Nat} (hs : s < 4096) : mm_onesOf (nI s) h = some (nI (zpop s)) := by
  unfold mm_onesOf
  have := on_e h s FU 0 hs (by have := zct_le (fun i => s.testBit i) 12; unfold zpop FU; omega)
  rw [nI_0, Nat.zero_add] at this
  exact this
theorem al_go {g hm : PH} {P H : Nat} (hH : H ≤ 12) (hP : P < 2 ^ H) (e6 : hm 104 6 = nI H) (e97 : ∀ j, j < 12 → g 97 j = hm 123 j) (p1 : Int32) : ∀ (n m v b : Nat), 4096 < n + v → 4096 < m + v → v ≤ 4096 → b < 4096 → ∃ b', b' < 4096 ∧ mT_mostAlone_L43 (nI P) g n (nI b) (nI (zpop b)) (nI v) = some (nI b', g) ∧ ∀ k0, mm_alone_L27 p1 (nI P) hm k0 m (nI b) (nI v) = k0 (nI b') := by
  have p12 : 2 ^ H ≤ 2 ^ 12 := Nat.pow_le_pow_right (by decide) hH
  intro n
  induction n with
  | zero => intro m v b h1 h2 h3 h4; omega
  | succ n ih =>
    intro m v b h1 h2 h3 h4
    cases m with
    | zero => omega
    | succ m =>
    by_cases z : P < v
    · refine ⟨b, h4, al_tail _ _ (n + 1) v h1 z h3, fun k0 => ?_⟩
      rw [mm_alone_L27, if_pos (nI_lt z (by omega))]
    · have hv : v < 4096 := by omega
      have n1 : ¬ (4096 : Int32) ≤ nI v := nI_ge (b := 4096) hv (by decide)
      have n2 : ¬ nI P < nI v := Int32.not_lt.mpr (nI_le (by omega) (by omega))
      obtain ⟨b1, q1, q2, q3⟩ := ih m (v + 1) b (by omega) (by omega) (by omega) h4
      by_cases s : nI v &&& nI P = nI v
      · have s' := (sub_i _ _).mp s
        by_cases d : nI (zpop v) ≤ nI (zpop b)
        · refine ⟨b1, q1, ?_, fun k0 => ?_⟩
          · rw [mT_mostAlone_L43, if_neg n1, if_pos s, bc_e g hv, bd_e, if_pos d, nI_1]; exact q2
          · rw [mm_alone_L27, if_neg n2, if_pos s', on_1 hm hv, bd_e, on_1 hm h4, bd_e, if_pos d, nI_1]; exact q3 k0
        · obtain ⟨x, x1, x2⟩ := ai_go hH (show v < 2 ^ H by omega) e6 e97 FU FU 0 (by unfold FU; omega) (by unfold FU; omega) (Nat.zero_le _)
          rw [nI_0] at x1 x2
          have y1 : mT_isAlone (nI v) g = some x := x1
          have y2 : mm_areAlone (nI v) hm = some x := x2
          by_cases w : x = 0
          · refine ⟨b1, q1, ?_, fun k0 => ?_⟩
            · rw [mT_mostAlone_L43, if_neg n1, if_pos s, bc_e g hv, bd_e, if_neg d, y1, bd_e, if_pos w, nI_1]; exact q2
            · rw [mm_alone_L27, if_neg n2, if_pos s', on_1 hm hv, bd_e, on_1 hm h4, bd_e, if_neg d, y2, bd_e, if_pos w, nI_1]; exact q3 k0
          · obtain ⟨b2, r1, r2, r3⟩ := ih m (v + 1) v (by omega) (by omega) (by omega) hv
            refine ⟨b2, r1, ?_, fun k0 => ?_⟩
            · rw [mT_mostAlone_L43, if_neg n1, if_pos s, bc_e g hv, bd_e, if_neg d, y1, bd_e, if_neg w, bd_e, nI_1]; exact r2
            · rw [mm_alone_L27, if_neg n2, if_pos s', on_1 hm hv, bd_e, on_1 hm h4, bd_e, if_neg d, y2, bd_e, if_neg w, nI_1]; exact r3 k0
      · have s' : ¬ nI v &&& (nI P ^^^ (-1)) = 0 := fun y => s ((sub_i _ _).mpr y)
        refine ⟨b1, q1, ?_, fun k0 => ?_⟩
        · rw [mT_mostAlone_L43, if_neg n1, if_neg s, nI_1]; exact q2
        · rw [mm_alone_L27, if_neg n2, if_neg s', nI_1]; exact q3 k0
theorem ag_alone (k : Nat) (a1 : Int32) (h : PH) (t : TWN k h) {rX rm : Int32} {h1 h2 : PH} (e1 : mX_alone a1 h = some (rX, h1)) (e2 : mm_alone a1 h1 = some (rm, h2)) (cs : CS h h1 h2) : rX = rm := by
  have xx := cs.2.2.2.1
  obtain ⟨t1, t2, t3, ⟨H, N, M, u, s, Ls, t4, t5⟩, t6⟩ := id t
  have tt := tn_in xx t4
  have h12 : H ≤ 12 := t4.1.1.1
  have p12 : 2 ^ H ≤ 2 ^ 12 := Nat.pow_le_pow_right (by decide) h12
  unfold mX_alone at e1
  unfold mm_alone at e2
  rw [lt_e] at e2
  by_cases f : 0 ≤ a1 ∧ a1 ≤ 1
  · rw [within_y f, bd_e, if_neg no10] at e1
    rw [isIn_y f, bd_e, if_neg no10, (us_n tt.1.1).2, bd_e] at e2
    obtain ⟨g, g1, g2, g3⟩ := al_8 (nI (zN (upb h) H)) tt.1.2.2.2.1 FU 0 h (by unfold FU; omega) (by decide) (fun _ _ => rfl) (fun j hj => absurd hj (Nat.not_lt_zero j))
    obtain ⟨b, b1, b2, b3⟩ := al_go h12 (zN_lt (upb h) H) tt.1.1.2.2.1 g3 a1 FU FU 1 0 (by unfold FU; omega) (by unfold FU; omega) (by decide) (by decide)
    rw [nI_0] at g1
    have zp0 : nI (zpop 0) = 0 := by decide
    rw [nI_0, zp0, show nI 1 = (1 : Int32) from rfl] at b2
    have ma : mT_mostAlone 1 5 h = some (nI b, g) := by
      unfold mT_mostAlone
      rw [(us_n tt.1.1).1, bd_e, g1, b2]
    rw [ma, bd2_e] at e1
    rw [show mm_alone_L27 a1 (nI (zN (upb h) H)) (up h1 104 0 0) _ FU 0 1 = _ from b3 _] at e2
    try dsimp only at e2
    by_cases z : a1 = 0
    · rw [if_pos z, bc_e g b1, bd_e] at e1
      rw [if_pos z, on_1 _ b1, bd_e] at e2
      cases e1
      cases e2
      rfl
    · rw [if_neg z] at e1 e2
      cases e1
      cases e2
      rfl
  · rw [within_n f, bd_e, if_pos rfl] at e1
    rw [isIn_n f, bd_e, if_pos rfl] at e2
    cases e1
    cases e2
    rfl
end
section
/-! WAYS through a street: walks, their costs, and what relaxing comes to -/
def WKc (E : Nat → Nat → Prop) (w op : Nat → Nat → Nat) (s : Nat) : List Nat → Nat → Prop
  | [], _ => False
  | [a], c => a = s ∧ c = 0
  | b :: a :: l, c => E a b ∧ ∃ c', WKc E w op s (a :: l) c' ∧ c = op c' (w a b)
theorem wk_suf {E : Nat → Nat → Prop} {w op : Nat → Nat → Nat} {s : Nat} (oi : ∀ c x, c ≤ op c x) : ∀ (m : List Nat) (c : Nat), WKc E w op s m c → ∀ b, b ∈ m → ∃ m2 c2, WKc E w op s (b :: m2) c2 ∧ c2 ≤ c ∧ ∃ x, m = x ++ (b :: m2) := by
  intro m
  induction m with
  | nil => intro c h; exact absurd h (fun z => z)
  | cons a l ih =>
    intro c h b hb
    cases l with
    | nil =>
      have : b = a := by simpa using hb
      subst this
      exact ⟨[], c, h, Nat.le_refl _, [], rfl⟩
    | cons a2 l =>
      by_cases z : b = a
      · subst z
        exact ⟨a2 :: l, c, h, Nat.le_refl _, [], rfl⟩
      · have hb2 : b ∈ a2 :: l := by
          rcases List.mem_cons.mp hb with y | y
          · exact absurd y z
          · exact y
        obtain ⟨_, c', h', ec⟩ := h
        obtain ⟨m2, c2, q1, q2, x, q3⟩ := ih c' h' b hb2
        have := oi c' (w a2 a)
        exact ⟨m2, c2, q1, by omega, a :: x, by rw [q3]; rfl⟩
theorem wk_nd {E : Nat → Nat → Prop} {w op : Nat → Nat → Nat} {s : Nat} (oi : ∀ c x, c ≤ op c x) (om : ∀ c c' x, c ≤ c' → op c x ≤ op c' x) : ∀ (l : List Nat) (b c : Nat), WKc E w op s (b :: l) c → ∃ l2 c2, WKc E w op s (b :: l2) c2 ∧ c2 ≤ c ∧ (b :: l2).Nodup := by
  intro l
  induction l with
  | nil => intro b c h; exact ⟨[], c, h, Nat.le_refl _, by simp⟩
  | cons a l ih =>
    intro b c h
    obtain ⟨e, c', h', ec⟩ := h
    obtain ⟨l2, c2, q1, q2, q3⟩ := ih a c' h'
    by_cases z : b ∈ a :: l2
    · obtain ⟨m2, c3, r1, r2, x, r3⟩ := wk_suf oi _ _ q1 b z
      have := oi c' (w a b)
      refine ⟨m2, c3, r1, by omega, ?_⟩
      rw [r3] at q3
      exact (List.nodup_append.mp q3).2.1
    · refine ⟨a :: l2, op c2 (w a b), ⟨e, c2, q1, rfl⟩, ?_, List.nodup_cons.mpr ⟨z, q3⟩⟩
      rw [ec]
      exact om _ _ _ q2
/-- as many different ones as there are -/
theorem nd_fl {H : Nat} : ∀ l : List Nat, l.Nodup → l.length ≤ (l.filter (fun x => x != H)).length + 1 := by
  intro l
  induction l with
  | nil => intro _; exact Nat.zero_le _
  | cons a l ih =>
    intro nd
    obtain ⟨n1, n2⟩ := List.nodup_cons.mp nd
    by_cases z : a = H
    · have : l.filter (fun x => x != H) = l := List.filter_eq_self.mpr (fun x hx => by
        have : x ≠ H := fun y => n1 (by rw [z, ← y]; exact hx)
        simpa using this)
      rw [List.filter_cons_of_neg (by simpa using z), this]
      exact Nat.le_refl _
    · rw [List.filter_cons_of_pos (by simpa using z)]
      have := ih n2
      simp only [List.length_cons]
      omega
theorem nd_len : ∀ (H : Nat) (l : List Nat), l.Nodup → (∀ x, x ∈ l → x < H) → l.length ≤ H := by
  intro H
  induction H with
  | zero =>
    intro l _ h
    cases l with
    | nil => exact Nat.le_refl _
    | cons a l => exact absurd (h a List.mem_cons_self) (Nat.not_lt_zero a)
  | succ H ih =>
    intro l nd h
    have a := nd_fl (H := H) l nd
    have b := ih (l.filter (fun x => x != H)) (List.Pairwise.filter _ nd) (fun x hx => by
      obtain ⟨h1, h2⟩ := List.mem_filter.mp hx
      have h3 := h x h1
      have h4 : x ≠ H := by simpa using h2
      omega)
    omega
/-- what a round of relaxing makes sure of -/
def KL (E : Nat → Nat → Prop) (w op : Nat → Nat → Nat) (s I r : Nat) (A : Nat → Nat) : Prop := ∀ l b c, WKc E w op s (b :: l) c → c < I → l.length ≤ r → A b ≤ c
def SO (E : Nat → Nat → Prop) (w op : Nat → Nat → Nat) (s I : Nat) (A : Nat → Nat) : Prop := A s = 0 ∧ ∀ v, A v ≤ I ∧ (A v = I ∨ ∃ l, WKc E w op s (v :: l) (A v))
theorem kl_0 {E : Nat → Nat → Prop} {w op : Nat → Nat → Nat} {s I : Nat} {A : Nat → Nat} (so : SO E w op s I A) : KL E w op s I 0 A := fun l b c h _ hl => by
  cases l with
  | nil =>
    obtain ⟨h1, h2⟩ := h
    subst h1
    rw [so.1]
    exact Nat.zero_le _
  | cons a l => simp at hl
theorem kl_s {E : Nat → Nat → Prop} {w op : Nat → Nat → Nat} {s I r : Nat} {A A' : Nat → Nat} (oi : ∀ c x, c ≤ op c x) (om : ∀ c c' x, c ≤ c' → op c x ≤ op c' x) (so : SO E w op s I A') (k : KL E w op s I r A) (q : ∀ a b, E a b → A a < I → A' b ≤ op (A a) (w a b)) : KL E w op s I (r + 1) A' := fun l b c h hc hl => by
  cases l with
  | nil =>
    obtain ⟨h1, h2⟩ := h
    subst h1
    rw [so.1]
    exact Nat.zero_le _
  | cons a l =>
    obtain ⟨e, c', h', ec⟩ := h
    have o := oi c' (w a b)
    have ka := k l a c' h' (by omega) (by simpa using hl)
    have := q a b e (by omega)
    have := om _ _ (w a b) ka
    omega
/-- one relaxing -/
def rlx (w op : Nat → Nat → Nat) (A : Nat → Nat) (a b : Nat) : Nat → Nat := fun v => if v = b then min (A b) (op (A a) (w a b)) else A v
theorem rlx_le {w op : Nat → Nat → Nat} {A : Nat → Nat} {a b : Nat} (v : Nat) : rlx w op A a b v ≤ A v := by
  unfold rlx
  by_cases z : v = b
  · rw [if_pos z, z]; exact Nat.min_le_left _ _
  · rw [if_neg z]; exact Nat.le_refl _
theorem rlx_b {w op : Nat → Nat → Nat} {A : Nat → Nat} {a b : Nat} : rlx w op A a b b ≤ op (A a) (w a b) := by
  unfold rlx
  rw [if_pos rfl]
  exact Nat.min_le_right _ _
theorem rlx_so {E : Nat → Nat → Prop} {w op : Nat → Nat → Nat} {s I : Nat} {A : Nat → Nat} (oi : ∀ c x, c ≤ op c x) (so : SO E w op s I A) {a b : Nat} (e : E a b) : SO E w op s I (rlx w op A a b) := by
  refine ⟨?_, fun v => ⟨Nat.le_trans (rlx_le v) (so.2 v).1, ?_⟩⟩
  · have := @rlx_le w op A a b s
    rw [so.1] at this
    omega
  · unfold rlx
    by_cases z : v = b
    · rw [if_pos z]
      subst z
      by_cases y : A v ≤ op (A a) (w a v)
      · rw [Nat.min_eq_left y]
        exact (so.2 v).2
      · rw [Nat.min_eq_right (by omega)]
        rcases (so.2 a).2 with q | ⟨l, q⟩
        · have := oi (A a) (w a v)
          have := (so.2 v).1
          omega
        · exact Or.inr ⟨a :: l, e, A a, q, rfl⟩
    · rw [if_neg z]
      exact (so.2 v).2
theorem rlx_I {w op : Nat → Nat → Nat} {A : Nat → Nat} {a b I : Nat} (oi : ∀ c x, c ≤ op c x) (h : A a = I) (hb : A b ≤ I) : rlx w op A a b = A := by
  funext v
  unfold rlx
  by_cases z : v = b
  · rw [if_pos z, z, Nat.min_eq_left]
    have := oi (A a) (w a b)
    omega
  · rw [if_neg z]
/-- a walk of different houses costs little -/
theorem wk_c {E : Nat → Nat → Prop} {w op : Nat → Nat → Nat} {s W : Nat} (ob : ∀ c x, x ≤ W → op c x ≤ c + W) (hw : ∀ a b, E a b → w a b ≤ W) : ∀ (l : List Nat) (b c : Nat), WKc E w op s (b :: l) c → c ≤ W * l.length := by
  intro l
  induction l with
  | nil => intro b c h; rw [h.2]; exact Nat.zero_le _
  | cons a l ih =>
    intro b c h
    obtain ⟨e, c', h', ec⟩ := h
    have := ih a c' h'
    have := ob c' (w a b) (hw a b e)
    rw [List.length_cons, Nat.mul_succ]
    omega
theorem wk_in {E : Nat → Nat → Prop} {w op : Nat → Nat → Nat} {s H : Nat} (hs : s < H) (he : ∀ a b, E a b → b < H) : ∀ (l : List Nat) (b c : Nat), WKc E w op s (b :: l) c → ∀ x, x ∈ b :: l → x < H := by
  intro l
  induction l with
  | nil =>
    intro b c h x hx
    have : x = b := by simpa using hx
    rw [this, h.1]
    exact hs
  | cons a l ih =>
    intro b c h x hx
    obtain ⟨e, c', h', _⟩ := h
    rcases List.mem_cons.mp hx with y | y
    · rw [y]; exact he a b e
    · exact ih a c' h' x y
/-- two that are sound and sure tell the same -/
theorem so_eq {E : Nat → Nat → Prop} {w op : Nat → Nat → Nat} {s H I J r q : Nat} {A M : Nat → Nat} (oi : ∀ c x, c ≤ op c x) (om : ∀ c c' x, c ≤ c' → op c x ≤ op c' x) (ob : ∀ c x, x ≤ 792 → op c x ≤ c + 792) (hw : ∀ a b, E a b → w a b ≤ 792) (hs : s < H) (hH : H ≤ 12) (he : ∀ a b, E a b → b < H) (hI : 10000 ≤ I) (hJ : 10000 ≤ J) (hr : H ≤ r + 1) (hq : H ≤ q + 1) (sA : SO E w op s I A) (kA : KL E w op s I r A) (sM : SO E w op s J M) (kM : KL E w op s J q M) (v : Nat) : (A v = M v ∧ A v < 10000) ∨ (A v = I ∧ M v = J) := by
  have key : ∀ l c, WKc E w op s (v :: l) c → ∃ c2, c2 ≤ c ∧ A v ≤ c2 ∧ M v ≤ c2 ∧ c2 < 10000 := fun l c h => by
    obtain ⟨l2, c2, q1, q2, q3⟩ := wk_nd oi om l v c h
    have len := nd_len H _ q3 (wk_in hs he l2 v c2 q1)
    rw [List.length_cons] at len
    have cc := wk_c ob hw l2 v c2 q1
    have : 792 * l2.length ≤ 792 * 11 := Nat.mul_le_mul_left _ (by omega)
    exact ⟨c2, q2, kA l2 v c2 q1 (by omega) (by omega), kM l2 v c2 q1 (by omega) (by omega), by omega⟩
  rcases (sA.2 v).2 with a | ⟨l, a⟩
  · rcases (sM.2 v).2 with m | ⟨l, m⟩
    · exact Or.inr ⟨a, m⟩
    · obtain ⟨c2, x1, x2, x3, x4⟩ := key l _ m
      omega
  · obtain ⟨c2, x1, x2, x3, x4⟩ := key l _ a
    rcases (sM.2 v).2 with m | ⟨l', m⟩
    · omega
    · obtain ⟨c3, y1, y2, y3, y4⟩ := key l' _ m
      exact Or.inl ⟨by omega, by omega⟩
end
section
/-! WAYS through the street: class and model relax the same edges -/
def bitb (v : Int32) (b : Nat) : Prop := ((v >>> (nI b &&& 31)) &&& 1) = 1
theorem bit_g (v : Int32) {b : Nat} (hb : b < 12) : bitb v b ↔ v.toBitVec.getLsbD b = true := by
  unfold bitb
  have e : (v >>> (nI b &&& 31)).toBitVec = v.toBitVec.sshiftRight b := by
    have hb' : b = 0 ∨ b = 1 ∨ b = 2 ∨ b = 3 ∨ b = 4 ∨ b = 5 ∨ b = 6 ∨ b = 7 ∨ b = 8 ∨ b = 9 ∨ b = 10 ∨ b = 11 := by omega
    rcases hb' with e | e | e | e | e | e | e | e | e | e | e | e <;> subst e <;> rfl
  have m1 : ∀ i, i < 32 → (1 : Int32).toBitVec.getLsbD i = decide (i = 0) := by decide
  have g : ∀ i k, i + k < 32 → (v.toBitVec.sshiftRight k).getLsbD i = v.toBitVec.getLsbD (i + k) := fun i k hik => by
    rw [BitVec.getLsbD_sshiftRight, Nat.add_comm]
    have : i + k < 32 := hik
    simp [this]
    omega
  constructor
  · intro h
    have h0 : ((v >>> (nI b &&& 31)) &&& 1).toBitVec.getLsbD 0 = true := by rw [h]; rfl
    rw [Int32.toBitVec_and, BitVec.getLsbD_and, e, g 0 b (by omega), Nat.zero_add, m1 0 (by decide)] at h0
    revert h0
    cases v.toBitVec.getLsbD b <;> decide
  · intro h
    apply Int32.toBitVec_inj.mp
    apply BitVec.eq_of_getLsbD_eq
    intro i hi
    rw [Int32.toBitVec_and, BitVec.getLsbD_and, e, m1 i hi]
    by_cases z : i = 0
    · subst z
      rw [g 0 b (by omega), Nat.zero_add, h]
      rfl
    · rw [decide_eq_false z, Bool.and_false]
theorem sh_bit : ∀ y, y < 12 → ∀ b, b < 12 → ((1 : Int32) <<< (nI y &&& 31)).toBitVec.getLsbD b = decide (y = b) := by decide +kernel
theorem or_bit (v : Int32) {y b : Nat} (hy : y < 12) (hb : b < 12) : bitb (v ||| (1 <<< (nI y &&& 31))) b ↔ bitb v b ∨ y = b := by
  rw [bit_g _ hb, bit_g _ hb, Int32.toBitVec_or, BitVec.getLsbD_or, sh_bit y hy b hb, Bool.or_eq_true, decide_eq_true_iff]
theorem bit_z : ∀ b, b < 12 → ¬ ((((0 : Int32) >>> (nI b &&& 31)) &&& 1) = 1) := by decide
/-- rows tell who is next -/
def RNr (c : Nat) (h : PH) : Prop := ∃ m, m ≤ 16 ∧ h c 3 = nI m ∧ ∀ r, r < m → ∃ a b, a < 12 ∧ b < 12 ∧ h (c + 1) (5 * r) = nI a ∧ h (c + 1) (5 * r + 1) = nI b
def RNX (h : PH) : Prop := RNr 14 h ∧ RNr 48 h
theorem nx_edge {X : Nat → Int32} {k b : Nat} (hk : k < 12) (hb : b < 12) : ∀ m, (∀ r, r < m → ∃ x y, x < 12 ∧ y < 12 ∧ X (5 * r) = nI x ∧ X (5 * r + 1) = nI y) → (bitb (nxF X k m) b ↔ ∃ r, r < m ∧ ((X (5 * r) = nI k ∧ X (5 * r + 1) = nI b) ∨ (X (5 * r + 1) = nI k ∧ X (5 * r) = nI b))) := by
  intro m
  induction m with
  | zero =>
    intro _
    exact ⟨fun z => absurd z (bit_z b hb), fun ⟨r, hr, _⟩ => absurd hr (Nat.not_lt_zero r)⟩
  | succ m ih =>
    intro rg
    have i1 := ih (fun r hr => rg r (by omega))
    obtain ⟨x, y, hx, hy, ex, ey⟩ := rg m (by omega)
    have nk : ∀ a, a < 12 → (nI a = nI k ↔ a = k) := fun a ha => nI_eq (by omega) (by omega)
    have nb' : ∀ a, a < 12 → (nI a = nI b ↔ a = b) := fun a ha => nI_eq (by omega) (by omega)
    have st : bitb (nxF X k (m + 1)) b ↔ bitb (nxF X k m) b ∨ ((x = k ∧ y = b) ∨ (y = k ∧ x = b)) := by
      rw [nxF, ex, ey]
      unfold nxS
      by_cases zy : y = k
      · rw [if_pos ((nk y hy).mpr zy), or_bit _ hx hb]
        by_cases zx : x = k
        · rw [if_pos ((nk x hx).mpr zx), or_bit _ hy hb]
          constructor
          · rintro ((q | q) | q)
            · exact Or.inl q
            · exact Or.inr (Or.inl ⟨zx, q⟩)
            · exact Or.inr (Or.inr ⟨zy, q⟩)
          · rintro (q | ⟨_, q⟩ | ⟨_, q⟩)
            · exact Or.inl (Or.inl q)
            · exact Or.inl (Or.inr q)
            · exact Or.inr q
        · rw [if_neg (fun z => zx ((nk x hx).mp z))]
          constructor
          · rintro (q | q)
            · exact Or.inl q
            · exact Or.inr (Or.inr ⟨zy, q⟩)
          · rintro (q | ⟨q, _⟩ | ⟨_, q⟩)
            · exact Or.inl q
            · exact absurd q zx
            · exact Or.inr q
      · rw [if_neg (fun z => zy ((nk y hy).mp z))]
        by_cases zx : x = k
        · rw [if_pos ((nk x hx).mpr zx), or_bit _ hy hb]
          constructor
          · rintro (q | q)
            · exact Or.inl q
            · exact Or.inr (Or.inl ⟨zx, q⟩)
          · rintro (q | ⟨_, q⟩ | ⟨q, _⟩)
            · exact Or.inl q
            · exact Or.inr q
            · exact absurd q zy
        · rw [if_neg (fun z => zx ((nk x hx).mp z))]
          constructor
          · exact fun q => Or.inl q
          · rintro (q | ⟨q, _⟩ | ⟨q, _⟩)
            · exact q
            · exact absurd q zx
            · exact absurd q zy
    rw [st, i1]
    constructor
    · rintro (⟨r, hr, q⟩ | q)
      · exact ⟨r, by omega, q⟩
      · refine ⟨m, by omega, ?_⟩
        rw [ex, ey]
        rcases q with ⟨q1, q2⟩ | ⟨q1, q2⟩
        · exact Or.inl ⟨by rw [q1], by rw [q2]⟩
        · exact Or.inr ⟨by rw [q1], by rw [q2]⟩
    · rintro ⟨r, hr, q⟩
      by_cases z : r = m
      · subst z
        rw [ex, ey] at q
        refine Or.inr ?_
        rcases q with ⟨q1, q2⟩ | ⟨q1, q2⟩
        · exact Or.inl ⟨(nk x hx).mp q1, (nb' y hy).mp q2⟩
        · exact Or.inr ⟨(nk y hy).mp q1, (nb' x hx).mp q2⟩
      · exact Or.inl ⟨r, by omega, q⟩
/-- numbers -/
theorem mn_n {a b : Nat} (ha : a < 2 ^ 31) (hb : b < 2 ^ 31) : imin (nI a) (nI b) = nI (min a b) := by
  unfold imin
  by_cases c : b < a
  · rw [if_pos (nI_lt c ha), Nat.min_eq_right (by omega)]
  · rw [if_neg (Int32.not_lt.mpr (nI_le (by omega) hb)), Nat.min_eq_left (by omega)]
theorem mx_n {a b : Nat} (ha : a < 2 ^ 31) (hb : b < 2 ^ 31) : imax (nI a) (nI b) = nI (max a b) := by
  unfold imax
  by_cases c : a < b
  · rw [if_pos (nI_lt c hb), Nat.max_eq_right (by omega)]
  · rw [if_neg (Int32.not_lt.mpr (nI_le (by omega) ha)), Nat.max_eq_left (by omega)]
theorem gr_n {a b : Nat} (ha : a < 2 ^ 31) (hb : b < 2 ^ 31) (h : PH) : mm_greater (nI a) (nI b) h = some (nI (max a b)) := by
  unfold mm_greater
  by_cases c : a ≤ b
  · rw [if_pos (nI_le c hb), Nat.max_eq_right c]
  · rw [if_neg (nI_ge (by omega) ha), Nat.max_eq_left (by omega)]
def ops (p : Int32) (c x : Nat) : Nat := if p = 0 then c + x else max c x
theorem ops_i (p : Int32) (c x : Nat) : c ≤ ops p c x := by unfold ops; split <;> omega
theorem ops_m (p : Int32) (c c' x : Nat) (h : c ≤ c') : ops p c x ≤ ops p c' x := by unfold ops; split <;> omega
theorem ops_b (p : Int32) (c x : Nat) (h : x ≤ 792) : ops p c x ≤ c + 792 := by unfold ops; split <;> omega
theorem ow_n (p : Int32) {c x : Nat} (hc : c ≤ 1000000) (hx : x ≤ 792) (h : PH) : mT_onwards (nI c) (nI x) p h = some (nI (ops p c x)) := by
  unfold mT_onwards ops
  by_cases z : p = 0
  · rw [if_pos z, if_pos z, nI_add]
  · rw [if_neg z, if_neg z, mx_n (by omega) (by omega)]
/-- walls of a house, as a number -/
def ws (h : PH) (i : Nat) : Nat := (sm4 h i).toInt.toNat
theorem ws_e {A : Nat → Prop} {H : Nat} {hc hm : PH} (t : TW A H hc hm) {i : Nat} (hi : i < H) : sm4 hc i = nI (ws hc i) ∧ ws hc i ≤ 396 := by
  obtain ⟨a, a1, a2, ea⟩ := nat_of (t.2.2.2.2.2 i 0 hi (by decide)) (by decide)
  obtain ⟨b, b1, b2, eb⟩ := nat_of (t.2.2.2.2.2 i 1 hi (by decide)) (by decide)
  obtain ⟨c, c1, c2, ec⟩ := nat_of (t.2.2.2.2.2 i 2 hi (by decide)) (by decide)
  obtain ⟨d, d1, d2, ed⟩ := nat_of (t.2.2.2.2.2 i 3 hi (by decide)) (by decide)
  rw [Nat.add_zero] at ea
  have es : sm4 hc i = nI (a + b + c + d) := by
    unfold sm4
    rw [ea, eb, ec, ed, nI_add, nI_add, nI_add]
  unfold ws
  rw [es, nI_toInt (by omega), Int.toNat_natCast]
  exact ⟨rfl, by omega⟩
def wsp (h : PH) (a b : Nat) : Nat := ws h a + ws h b
def EG (H : Nat) (hm : PH) (a b : Nat) : Prop := a < H ∧ b < H ∧ bitb (hm 123 a) b
def AR (n c : Nat) (A : Nat → Nat) (h : PH) : Prop := ∀ v, v < n → h c v = nI (A v)
theorem ar_up {n c : Nat} {A : Nat → Nat} {h : PH} (r : AR n c A h) {w op : Nat → Nat → Nat} {a b : Nat} : AR n c (rlx w op A a b) (up h c b (nI (min (A b) (op (A a) (w a b))))) := fun v hv => by
  unfold rlx
  by_cases z : v = b
  · subst z
    rw [up_same, if_pos rfl]
  · rw [up_oj z, if_neg z]
    exact r v hv
/-- the class's row -/
theorem rs_48 {H : Nat} {hc hm : PH} (t : TW AA H hc hm) (p s : Int32) (k : Nat) {m : Nat} (hm16 : m ≤ 16) (sN : Nat) (hsN : sN < H) (e3 : hc 14 3 = nI m) (e1 : hc 14 1 = 5) (rg : ∀ r, r < m → ∃ x y, x < 12 ∧ y < 12 ∧ hc 15 (5 * r) = nI x ∧ hc 15 (5 * r + 1) = nI y) (hE : ∀ r, r < m → ∀ x y, x < H → y < H → hc 15 (5 * r) = nI x → hc 15 (5 * r + 1) = nI y → EG H hm x y ∧ EG H hm y x) (A0 : Nat → Nat) : ∀ (n r : Nat) (A : Nat → Nat) (hv : PH), m < n + r → r ≤ m → (∀ x, x ≠ 96 → hv x = hc x) → AR 12 96 A hv → SO (EG H hm) (wsp hc) (ops p) sN 1000000 A → (∀ v, A v ≤ A0 v) → (∀ q, q < r → ∀ x y, x < H → y < H → hc 15 (5 * q) = nI x → hc 15 (5 * q + 1) = nI y → A y ≤ ops p (A0 x) (wsp hc x y) ∧ A x ≤ ops p (A0 y) (wsp hc y x)) → ∃ A' hv', (∀ k0, mT_spread_L48 1 14 p s k0 n (nI r) hv = k0 hv') ∧ (∀ x, x ≠ 96 → hv' x = hc x) ∧ AR 12 96 A' hv' ∧ SO (EG H hm) (wsp hc) (ops p) sN 1000000 A' ∧ (∀ v, A' v ≤ A0 v) ∧ ∀ q, q < m → ∀ x y, x < H → y < H → hc 15 (5 * q) = nI x → hc 15 (5 * q + 1) = nI y → A' y ≤ ops p (A0 x) (wsp hc x y) ∧ A' x ≤ ops p (A0 y) (wsp hc y x) := by
  have h12 := t.1
  have oi := ops_i p
  have om := ops_m p
  intro n
  induction n with
  | zero => intro r A hv h1 h2; omega
  | succ n ih =>
    intro r A hv h1 h2 fx ar so le pr
    have q3 : hv 14 3 = nI m := by rw [fx 14 (by decide)]; exact e3
    have q1 : hv 14 1 = 5 := by rw [fx 14 (by decide)]; exact e1
    by_cases c : r = m
    · exact ⟨A, hv, fun k0 => by rw [mT_spread_L48, q3, if_pos (by rw [c]; exact nI_le (Nat.le_refl _) (by omega))], fx, ar, so, le, fun q hq => pr q (by omega)⟩
    · have hr : r < m := by omega
      obtain ⟨x, y, hx, hy, ex, ey⟩ := rg r hr
      have a0 : mR_at 14 (nI r) 0 hv = some (nI x) := by
        have := at_14 (c := 0) q1 q3 hm16 hr (by decide)
        rw [Nat.add_zero, fx 15 (by decide), ex] at this
        exact this
      have a1 : mR_at 14 (nI r) 1 hv = some (nI y) := by
        have := at_14 (c := 1) q1 q3 hm16 hr (by decide)
        rw [fx 15 (by decide), ey] at this
        exact this
      have tv : TW AA H hv hm := tb_of t (fx 1 (by decide)) (fx 2 (by decide)) rfl rfl rfl rfl
      have has : ∀ z, z < 12 → mB_has 1 (nI z) hv = some (if z < H then 1 else 0) := fun z hz => by
        unfold mB_has
        rw [if_neg (nI_pos (by omega)), tv.2.1]
        by_cases w : z < H
        · rw [if_neg (nI_ge w (by omega)), if_pos w]
        · rw [if_pos (nI_le (by omega) (by omega)), if_neg w]
      by_cases wx : x < H
      · by_cases wy : y < H
        · obtain ⟨g1, g2⟩ := hE r hr x y wx wy ex ey
          have sx := ws_e t wx
          have sy := ws_e t wy
          have s4 : ∀ i, sm4 hv i = sm4 hc i := fun i => by unfold sm4; rw [fx 2 (by decide)]
          have bx := (so.2 x).1
          have by' := (so.2 y).1
          have wxy : wsp hc x y = ws hc x + ws hc y := rfl
          have wyx : wsp hc y x = ws hc x + ws hc y := Nat.add_comm _ _
          -- there
          have so1 := rlx_so oi so g1
          have ar1 := ar_up ar (w := wsp hc) (op := ops p) (a := x) (b := y)
          -- and back
          have so2 := rlx_so oi so1 g2
          have ar2 := ar_up ar1 (w := wsp hc) (op := ops p) (a := y) (b := x)
          have b1x := (so1.2 x).1
          have b1y := (so1.2 y).1
          have ob1 := ops_b p (A x) (wsp hc x y) (by omega)
          have ob2 := ops_b p (rlx (wsp hc) (ops p) A x y y) (wsp hc y x) (by omega)
          have wq : ops p (rlx (wsp hc) (ops p) A x y y) (wsp hc x y) = ops p (rlx (wsp hc) (ops p) A x y y) (wsp hc y x) := by rw [wxy, wyx]
          obtain ⟨A', hv', z1, z2⟩ := ih (r + 1) (rlx (wsp hc) (ops p) (rlx (wsp hc) (ops p) A x y) y x) _ (by omega) (by omega) (fun c' hc' => by rw [up_cell hc', up_cell hc']; exact fx c' hc') ar2 so2 (fun v => Nat.le_trans (rlx_le v) (Nat.le_trans (rlx_le v) (le v))) (fun q hq x' y' hx' hy' ex' ey' => by
            by_cases w : q = r
            · subst w
              rw [ex] at ex'
              rw [ey] at ey'
              have e1 := (nI_eq (by omega) (by omega)).mp ex'
              have e2 := (nI_eq (by omega) (by omega)).mp ey'
              subst e1 e2
              refine ⟨?_, ?_⟩
              · exact Nat.le_trans (rlx_le y) (Nat.le_trans rlx_b (om _ _ _ (le x)))
              · exact Nat.le_trans rlx_b (om _ _ _ (Nat.le_trans (rlx_le y) (le y)))
            · obtain ⟨u1, u2⟩ := pr q (by omega) x' y' hx' hy' ex' ey'
              exact ⟨Nat.le_trans (rlx_le y') (Nat.le_trans (rlx_le y') u1), Nat.le_trans (rlx_le x') (Nat.le_trans (rlx_le x') u2)⟩)
          refine ⟨A', hv', fun k0 => ?_, z2⟩
          rw [mT_spread_L48, q3, if_neg (nI_ge hr (by omega)), a0, bd_e, a1, bd_e, has x hx, bd_e, if_pos wx, if_neg no10, has y hy, bd_e, if_pos wy, if_neg no10, suB tv wx, bd_e, suB tv wy, bd_e, s4, s4, sx.1, sy.1, nI_add, lt_e, ck_nI hy (by decide), ck_nI hx (by decide), show ix (nI x) = x from nI_clamp (by omega), ar x hx, ow_n p (by omega) (by omega), bd_e, ck_nI hy (by decide), lt_e, show ix (nI y) = y from nI_clamp (by omega), ar y hy, ← wxy, mn_n (by omega) (by omega), ck_nI hx (by decide), ck_nI hy (by decide), ar1 y hy, ow_n p (by omega) (by omega), bd_e, ck_nI hx (by decide), lt_e, ar1 x hx, wq, mn_n (by omega) (by omega), nI_1, z1]
        · obtain ⟨A', hv', z1, z2⟩ := ih (r + 1) A hv (by omega) (by omega) fx ar so le (fun q hq x' y' hx' hy' ex' ey' => by
            by_cases w : q = r
            · subst w
              rw [ey] at ey'
              have e2 := (nI_eq (by omega) (by omega)).mp ey'
              omega
            · exact pr q (by omega) x' y' hx' hy' ex' ey')
          refine ⟨A', hv', fun k0 => ?_, z2⟩
          rw [mT_spread_L48, q3, if_neg (nI_ge hr (by omega)), a0, bd_e, a1, bd_e, has x hx, bd_e, if_pos wx, if_neg no10, has y hy, bd_e, if_neg wy, if_pos rfl, nI_1, z1]
      · obtain ⟨A', hv', z1, z2⟩ := ih (r + 1) A hv (by omega) (by omega) fx ar so le (fun q hq x' y' hx' hy' ex' ey' => by
          by_cases w : q = r
          · subst w
            rw [ex] at ex'
            have e2 := (nI_eq (by omega) (by omega)).mp ex'
            omega
          · exact pr q (by omega) x' y' hx' hy' ex' ey')
        refine ⟨A', hv', fun k0 => ?_, z2⟩
        rw [mT_spread_L48, q3, if_neg (nI_ge hr (by omega)), a0, bd_e, a1, bd_e, has x hx, bd_e, if_neg wx, if_pos rfl, nI_1, z1]
end
