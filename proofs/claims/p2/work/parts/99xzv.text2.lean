/-! THE CALL text -/
theorem lwm_lo {Ls : LNS} {h g : PH} (l1 : Ls.length ≤ 16) (l2 : (xp (cdo Ls)).length ≤ 400) (l : LWm Ls h) (e0 : g 113 0 = h 113 0) (lo : ∀ b j, (114 ≤ b ∧ b ≤ 117 ∧ j < 16) ∨ ((b = 118 ∨ b = 119) ∧ j < 400) → g b j = h b j) : LWm Ls g := by
  obtain ⟨a1, a2, a3⟩ := l
  refine ⟨by rw [e0]; exact a1, fun j k v hj => ?_, fun r x A W hr => ?_⟩
  · obtain ⟨hl, _⟩ := List.getElem?_eq_some_iff.mp hj
    rw [lo 118 _ (by omega), lo 119 _ (by omega)]
    exact a2 j k v hj
  · obtain ⟨hl, _⟩ := List.getElem?_eq_some_iff.mp hr
    rw [lo 114 _ (by omega), lo 115 _ (by omega), lo 116 _ (by omega), lo 117 _ (by omega)]
    exact a3 r x A W hr
theorem sk_lo {N : Nat} {hc hm gc gm : PH} (s : SK N hc hm) (c0 : gc 10 = hc 10) (c1 : gc 11 = hc 11) (m3 : gm 104 33 = hm 104 33) (lo : ∀ j, j < 48 → gm 121 j = hm 121 j) : SK N gc gm := by
  obtain ⟨s1, s2, s3, s4, s5⟩ := s
  refine ⟨s1, by rw [c0]; exact s2, by rw [c0]; exact s3, by rw [m3]; exact s4, fun r hr => ?_⟩
  rw [c1, lo _ (by omega), lo _ (by omega), lo _ (by omega)]
  exact s5 r hr
theorem of_lo {H N : Nat} {hc hm gc gm : PH} (s : OF H N hc hm) (c0 : gc 12 = hc 12) (c1 : gc 13 = hc 13) (m3 : gm 104 35 = hm 104 35) (lo : ∀ j, j < 80 → gm 122 j = hm 122 j) : OF H N gc gm := by
  obtain ⟨s1, s2, s3, s4, s5⟩ := s
  refine ⟨s1, by rw [c0]; exact s2, by rw [c0]; exact s3, by rw [m3]; exact s4, fun r hr => ?_⟩
  rw [c1, lo _ (by omega), lo _ (by omega), lo _ (by omega), lo _ (by omega), lo _ (by omega)]
  exact s5 r hr
/-- what is kept, under another law -/
theorem pk_law {H b u s : Nat} {Ls Ls' : LNS} {hc hm gc gm : PH} (pk : PK H b Ls u s hc hm) (c : ∀ x, x = 16 ∨ x = 17 ∨ x = 68 ∨ x = 70 ∨ (72 ≤ x ∧ x ≤ 84) → gc x = hc x) (m4 : ∀ j, j = 3 ∨ j = 5 ∨ j = 6 → gm 104 j = hm 104 j) (m : ∀ x, x = 106 ∨ x = 108 ∨ x = 109 ∨ x = 110 → gm x = hm x) (lw : LW Ls' gc gm) (nx : ∀ k, k < 12 → mO_nextTo 5 (nI k) gc = some (gm 123 k)) : PK H b Ls' u s gc gm := by
  obtain ⟨p1, p2, p3, p4, p5, p6, p7⟩ := pk
  have c70 := c 70 (by omega)
  have c72 := c 72 (by omega)
  refine ⟨p1, p2, by rw [c70]; exact p3, by rw [c70]; exact p4, by rw [m4 3 (by omega)]; exact p5, fun j hj => ?_, fun i j hij hj => by rw [c72]; exact p7 i j hij hj⟩
  have me : (s + j) % 6 < 6 := Nat.mod_lt _ (by decide)
  obtain ⟨⟨t, _, bk, _, re, th, ld⟩, le⟩ := p6 j hj
  generalize (s + j) % 6 = e at me t bk re ld le
  have h12 := t.1
  refine ⟨⟨tb_cg t (fun x _ _ => by rw [pC_1, pC_1, c _ (by omega)]) (fun x _ => by rw [pC_2, pC_2, c _ (by omega)]) (by rw [pM_o _ gm (by decide), pM_o _ hm (by decide), m4 6 (by omega)]) (fun x _ => by rw [pM_5, pM_5, m 106 (by omega)]) (fun x _ => by rw [pM_o _ gm (by decide), pM_o _ hm (by decide), m 108 (by omega)]) (fun x _ => by rw [pM_o _ gm (by decide), pM_o _ hm (by decide), m 109 (by omega)]), ⟨lw.1, lw.2.1, lw.2.2.1, lwc_of lw.2.2.2.1 (fun x x1 x2 => pC_o _ gc (by omega) (by omega) (by omega)), lwm_of lw.2.2.2.2 (fun x x1 x2 => pM_o _ gm (by omega))⟩, bk_cg bk (by rw [pC_6 _ gc (by decide), pC_6 _ hc (by decide), c 16 (by omega)]) (by rw [pC_6 _ gc (by decide), pC_6 _ hc (by decide), c 16 (by omega)]) (by rw [pC_3, pC_3, c72]) (fun x _ => by rw [pC_o _ gc (by decide) (by decide) (by decide), pC_o _ hc (by decide) (by decide) (by decide), c 17 (by omega)]) (by rw [pM_5, pM_5, m 106 (by omega)]) (fun x _ => by rw [pM_o _ gm (by decide), pM_o _ hm (by decide), m 110 (by omega)]), fun x hx => ?_, ?_, ?_, ld_of ld (fun x hx => by rw [pC_2, pC_2, c _ (by omega)])⟩, by rw [c72, c 16 (by omega)]; exact le⟩
  · rw [nx_fr (g := pC e gc) (h := gc) (pC_o _ gc (by decide) (by decide) (by decide)) (pC_o _ gc (by decide) (by decide) (by decide)), pM_o _ gm (by decide)]
    exact nx x hx
  · rw [pC_o _ gc (by decide) (by decide) (by decide), c 68 (by omega)]
    rw [pC_o _ hc (by decide) (by decide) (by decide)] at re
    exact re
  · rw [pM_o _ gm (by decide), m4 5 (by omega)]
    rw [pM_o _ hm (by decide)] at th
    exact th
theorem twn_tx {k H N M u s N' M' : Nat} {Ls Ls' : LNS} {h h2 : PH} (t : TWN k h) (hk : k < 512) (i : Inv h) (t4 : TNt H N M (1000 * k) Ls h h) (t5 : PK H (1000 * k) Ls u s h h) (fc : ∀ x, x < 85 → ¬ (6 ≤ x ∧ x ≤ 15) → x ≠ 70 → h2 x = h x) (fm : ∀ x, x = 105 ∨ x = 106 ∨ x = 108 ∨ x = 109 ∨ x = 110 ∨ x = 148 → h2 x = h x) (f4 : ∀ j, j = 5 ∨ j = 6 ∨ j = 72 → h2 104 j = h 104 j) (pp : (h2 70 = h 70 ∧ h2 104 3 = h 104 3) ∨ (h2 70 2 = h 70 2 ∧ h2 70 3 = 0 ∧ h2 104 3 = 0)) (lw : LW Ls' h2 h2) (nx : ∀ k, k < 12 → mO_nextTo 5 (nI k) h2 = some (h2 123 k)) (sk : SK N' h2 h2) (off : OF H M' h2 h2) (e37 : h2 14 3 = h2 104 37) : TWN (k + 1) h2 := by
  obtain ⟨⟨q1, q2, q3, q4, q5, q6, q7⟩, _⟩ := t4
  have h12 := q1.1
  have r : RTT AA H (1000 * k) Ls' B0 h2 h2 := ⟨tb_of q1 (fc 1 (by decide) (by decide) (by decide)) (fc 2 (by decide) (by decide) (by decide)) (f4 6 (by omega)) (fm 105 (by omega)) (fm 108 (by omega)) (fm 109 (by omega)), lw, bk_of q3 (fc 16 (by decide) (by decide) (by decide)) (fc 17 (by decide) (by decide) (by decide)) (by rw [fm 105 (by omega)]) (fm 110 (by omega)), nx, by rw [fc 68 (by decide) (by decide) (by decide)]; exact q5, by rw [f4 5 (by omega)]; exact q6, ld_of q7 (fun x hx => by rw [fc 2 (by decide) (by decide) (by decide)])⟩
  have pk : ∃ u' s', PK H (1000 * k) Ls' u' s' h2 h2 := by
    rcases pp with ⟨y1, y2⟩ | ⟨y1, y2, y3⟩
    · refine ⟨u, s, pk_law t5 (fun x hx => ?_) (fun j hj => ?_) (fun x hx => fm x (by omega)) lw nx⟩
      · by_cases z : x = 70
        · rw [z]; exact y1
        · exact fc x (by omega) (by omega) z
      · by_cases z : j = 3
        · rw [z]; exact y2
        · exact f4 j (by omega)
    · exact ⟨0, s, pk_0 t5.2.1 (by rw [y1]; exact t5.2.2.1) y2 y3⟩
  obtain ⟨u', s', pk⟩ := pk
  refine ⟨by omega, fun x hx => ?_, by rw [fc 69 (by decide) (by decide) (by decide)]; exact t.2.2.1, ⟨H, N', M', u', s', Ls', tn_mono ⟨r, sk, off, e37⟩ (by omega) (by omega), pk_mono pk (by omega) (by omega)⟩, fun nz => tni_st t hk i (fun x hx => fc x (by omega) (by omega) (by omega)) (f4 72 (by omega)) (f4 5 (by omega)) (fm 148 (by omega)) nz⟩
  rw [fc x (by rcases hx with y | y | ⟨e, y1, y2⟩ <;> omega) (by rcases hx with y | y | ⟨e, y1, y2⟩ <;> omega) (by rcases hx with y | y | ⟨e, y1, y2⟩ <;> omega)]
  exact t.2.1 x hx
theorem lw_kept {r : Nat} {gc gm g h2 : PH} {Ls : LNS} (hl : Ls.length = r) (hr : r ≤ 16) (lc : LCl Ls gc) (lm : LMl Ls gm) (lq : LQ Ls) (cc : CC (cdo Ls) gc) (mc' : MC (xp (cdo Ls)) gm) (l4 : (xp (cdo Ls)).length ≤ 400) (c61 : h2 6 1 = 5) (c63 : h2 6 3 = nI r) (c81 : h2 8 1 = 2) (c83 : h2 8 3 = nI (cdo Ls).length) (c7 : ∀ j, j < r * 5 → h2 7 j = gc 92 j) (c9 : ∀ j, j < (cdo Ls).length * 2 → h2 9 j = gc 94 j) (m0 : h2 113 0 = nI r) (m1 : ∀ b j, 114 ≤ b → b ≤ 117 → j < r → h2 b j = gm b (32 + j)) (m2 : ∀ j, j < (xp (cdo Ls)).length → h2 118 j = gm 118 (800 + j) ∧ h2 119 j = gm 119 (800 + j)) : LW Ls h2 h2 := by
  refine ⟨by omega, l4, lq, ⟨c61, by rw [hl]; exact c63, c81, c83, fun j k v hj => ?_, fun q w A W hq => ?_⟩, ⟨by rw [hl]; exact m0, fun j k v hj => ?_, fun q w A W hq => ?_⟩⟩
  · obtain ⟨hj', _⟩ := List.getElem?_eq_some_iff.mp hj
    rw [Nat.zero_add, c9 _ (by omega), c9 _ (by omega)]
    exact cc.2.2.2 j k v hj
  · obtain ⟨hq', _⟩ := List.getElem?_eq_some_iff.mp hq
    rw [c7 _ (by omega), c7 _ (by omega), c7 _ (by omega), c7 _ (by omega)]
    exact lc q w A W hq
  · obtain ⟨hj', _⟩ := List.getElem?_eq_some_iff.mp hj
    rw [Nat.zero_add, (m2 j hj').1, (m2 j hj').2]
    exact mc'.2 j k v hj
  · obtain ⟨hq', _⟩ := List.getElem?_eq_some_iff.mp hq
    rw [m1 114 q (by decide) (by decide) (by omega), m1 115 q (by decide) (by decide) (by omega), m1 116 q (by decide) (by decide) (by omega), m1 117 q (by decide) (by decide) (by omega)]
    exact lm q w A W hq
theorem sk_kept {r : Nat} {gc gm h2 : PH} (hr : r ≤ 16) (s : SR r gc gm) (c1 : h2 10 1 = 5) (c3 : h2 10 3 = nI r) (c : ∀ j, j < r * 5 → h2 11 j = gc 92 j) (m3 : h2 104 33 = nI r) (m : ∀ j, j < 3 * r → h2 121 j = gm 121 (48 + j)) : SK r h2 h2 := by
  refine ⟨hr, c1, c3, m3, fun q hq => ?_⟩
  obtain ⟨a, w, n, a1, w1, w2, n1, b1, b2, b3, b4, b5, b6⟩ := s q hq
  rw [c _ (by omega), c _ (by omega), c _ (by omega), m _ (by omega), m _ (by omega), m _ (by omega), show 48 + (3 * q + 1) = 48 + 3 * q + 1 by omega, show 48 + (3 * q + 2) = 48 + 3 * q + 2 by omega, b1, b2, b3, b4, b5, b6]
  refine ⟨rfl, ?_⟩
  have : w = 1 ∨ w = 2 ∨ w = 3 := by omega
  rcases this with e | e | e <;> subst e
  · exact Or.inl ⟨rfl, rfl, rfl⟩
  · exact Or.inr (Or.inl ⟨rfl, rfl⟩)
  · exact Or.inr (Or.inr ⟨rfl, rfl⟩)
theorem of_kept {H r : Nat} {gc gm h2 : PH} (hr : r ≤ 16) (s : ORr H r gc gm) (c1 : h2 12 1 = 5) (c3 : h2 12 3 = nI r) (c : ∀ j, j < r * 5 → h2 13 j = gc 92 j) (m3 : h2 104 35 = nI r) (m : ∀ j, j < 5 * r → h2 122 j = gm 122 (80 + j)) : OF H r h2 h2 := by
  refine ⟨hr, c1, c3, m3, fun q hq => ?_⟩
  obtain ⟨a, w, h, l, n, a1, w1, w2, h1, l1, n1, ⟨b1, b2, b3, b4, b5⟩, d1, d2, d3, d4, d5⟩ := s q hq
  rw [c _ (by omega), c _ (by omega), c _ (by omega), c _ (by omega), c _ (by omega), m _ (by omega), m _ (by omega), m _ (by omega), m _ (by omega), m _ (by omega), show 80 + (5 * q + 1) = 80 + 5 * q + 1 by omega, show 80 + (5 * q + 2) = 80 + 5 * q + 2 by omega, show 80 + (5 * q + 3) = 80 + 5 * q + 3 by omega, show 80 + (5 * q + 4) = 80 + 5 * q + 4 by omega, b1, b2, b3, b4, b5, d1, d2, d3, d4, d5]
  exact ⟨rfl, ⟨w - 1, by omega, by rw [show w - 1 + 1 = w by omega], rfl⟩, ⟨h, h1, rfl, rfl⟩, ⟨l, by omega, rfl, rfl⟩, ⟨n, by omega, rfl, rfl⟩⟩
theorem rt_24 (p : Int32) {h : PH} {x : Int32} {g : PH} (e : mm_readsText p h = some (x, g)) : g 104 24 = 0 := by
  unfold mm_readsText at e
  rw [lt_e] at e
  obtain ⟨h2, he, e⟩ := bd_s e
  have z : h2 104 24 = 0 := by
    rw [fkm_reads _ he 104 24 (show kk 104 24 ∉ FKdm_reads from (by decide : 1024 ∉ FKdm_reads)), up_same]
  rcases ite_or e with ⟨_, e⟩ | ⟨_, e⟩
  · obtain ⟨r3, h4, he, e⟩ := bd2_s e
    cases e
    exact (fkm_readSky _ he 104 24 (show kk 104 24 ∉ FKdm_readSky from (by decide : 1024 ∉ FKdm_readSky))).trans z
  · rcases ite_or e with ⟨_, e⟩ | ⟨_, e⟩
    · obtain ⟨r3, h4, he, e⟩ := bd2_s e
      cases e
      exact (fkm_readOffice _ he 104 24 (show kk 104 24 ∉ FKdm_readOffice from (by decide : 1024 ∉ FKdm_readOffice))).trans z
    · rcases ite_or e with ⟨_, e⟩ | ⟨_, e⟩
      · obtain ⟨r3, h4, he, e⟩ := bd2_s e
        cases e
        exact (fkm_readNexts _ he 104 24 (show kk 104 24 ∉ FKdm_readNexts from (by decide : 1024 ∉ FKdm_readNexts))).trans z
      · obtain ⟨r3, h4, he, e⟩ := bd2_s e
        cases e
        exact (fkm_readLaw _ he 104 24 (show kk 104 24 ∉ FKdm_readLaw from (by decide : 1024 ∉ FKdm_readLaw))).trans z
theorem tw_text (k : Nat) (a1 : Int32) (h : PH) (i : IM h) (rl : RLA h) (rx : RTX h) (t : TWN k h) (hk : k < 512) {rX rm : Int32} {h1 h2 : PH} (e1 : mX_text a1 h = some (rX, h1)) (e2 : mm_text a1 h1 = some (rm, h2)) (cs : CS h h1 h2) : TWN (k + 1) h2 := by
  have x104 := cs.2.2.2.1
  have ss := cs.2.2.2.2
  obtain ⟨t1, t2, t3, ⟨H, N, M, u, s0, Ls, t4, t5⟩, t6⟩ := id t
  have h12 : H ≤ 12 := t4.1.1.1
  have eH1 : h 1 1 = nI H := t4.1.1.2.1
  have eH6 : h 104 6 = nI H := t4.1.1.2.2.1
  have lwO := t4.1.2.1
  have rw0 := rows_t i.1
  have fX := fpX_text a1 h e1
  have fM := fkm_text a1 h1 e2
  have fc : ∀ x, x < 85 → ¬ (6 ≤ x ∧ x ≤ 15) → x ≠ 70 → h2 x = h x := fun x y1 y2 y3 => by
    rw [ss x (by omega)]
    exact fX x (by
      unfold FPdX_text
      simp only [List.mem_cons, List.not_mem_nil, or_false]
      omega)
  have fm : ∀ x, x = 105 ∨ x = 106 ∨ x = 108 ∨ x = 109 ∨ x = 110 ∨ x = 148 → h2 x = h x := fun x hx => by
    rw [← x104 x (by omega)]
    funext j
    exact fM x j (by
      unfold kk FKdm_text
      rw [if_neg (by omega)]
      simp only [List.mem_cons, List.not_mem_nil, or_false]
      omega)
  have f4 : ∀ j, j = 5 ∨ j = 6 ∨ j = 72 → h2 104 j = h 104 j := fun j hj => by
    rw [← x104 104 (by decide)]
    exact fM 104 j (by
      rw [show kk 104 j = 1000 + j from rfl]
      unfold FKdm_text
      simp only [List.mem_cons, List.not_mem_nil, or_false]
      omega)
  have done : ∀ {N' M' : Nat} {Ls' : LNS}, ((h2 70 = h 70 ∧ h2 104 3 = h 104 3) ∨ (h2 70 2 = h 70 2 ∧ h2 70 3 = 0 ∧ h2 104 3 = 0)) → LW Ls' h2 h2 → (∀ k, k < 12 → mO_nextTo 5 (nI k) h2 = some (h2 123 k)) → SK N' h2 h2 → OF H M' h2 h2 → h2 14 3 = h2 104 37 → TWN (k + 1) h2 := fun pp lw nx sk off e37 => twn_tx t hk i.1 t4 t5 fc fm f4 pp lw nx sk off e37
  -- nothing was kept
  have fail : (∀ x, 6 ≤ x → x ≤ 15 → h1 x = h x) → h1 70 = h 70 → (∀ j, j = 3 ∨ j = 33 ∨ j = 35 ∨ j = 37 → h2 104 j = h 104 j) → (∀ b j, LOW b j → 104 ≤ b → h2 b j = h b j) → TWN (k + 1) h2 := fun y1 y2 y3 y4 => by
    have cl : ∀ x, 6 ≤ x → x ≤ 15 → h2 x = h x := fun x x1 x2 => by rw [ss x (by omega)]; exact y1 x x1 x2
    refine done (Or.inl ⟨by rw [ss 70 (by decide)]; exact y2, y3 3 (by omega)⟩) (Ls' := Ls) ⟨lwO.1, lwO.2.1, lwO.2.2.1, lwc_of lwO.2.2.2.1 (fun x x1 x2 => cl x x1 (by omega)), lwm_lo lwO.1 lwO.2.1 lwO.2.2.2.2 (y4 113 0 (by unfold LOW; omega) (by decide)) (fun b j hb => y4 b j (by unfold LOW; omega) (by omega))⟩ (fun q hq => ?_) (sk_lo t4.2.1 (cl 10 (by decide) (by decide)) (cl 11 (by decide) (by decide)) (y3 33 (by omega)) (fun j hj => y4 121 j (by unfold LOW; omega) (by decide))) (of_lo t4.2.2.1 (cl 12 (by decide) (by decide)) (cl 13 (by decide) (by decide)) (y3 35 (by omega)) (fun j hj => y4 122 j (by unfold LOW; omega) (by decide))) (by rw [cl 14 (by decide) (by decide), y3 37 (by omega)]; exact t4.2.2.2)
    rw [nx_fr (cl 14 (by decide) (by decide)) (cl 15 (by decide) (by decide)), y4 123 q (by unfold LOW; omega) (by decide)]
    exact t4.1.2.2.2.1 q hq
  unfold mX_text at e1
  unfold mm_text at e2
  rw [show mD_forgetFault h = some (up (up h 90 2 0) 90 3 (-1)) from rfl, bd_e] at e1
  rw [lt_e, lt_e, lt_e, lt_e, lt_e, lt_e] at e2
  have hF : ∀ b, b ≠ 90 → up (up h 90 2 0) 90 3 (-1) b = h b := fun b hb => by rw [up_cell hb, up_cell hb]
  have F2 : up (up h 90 2 0) 90 3 (-1) 90 2 = 0 := by rw [up_oj (by decide), up_same]
  have F3 : up (up h 90 2 0) 90 3 (-1) 90 3 = -1 := up_same
  have iF : Inv (up (up h 90 2 0) 90 3 (-1)) := inv_put (inv_put i.1 (show sp 90 2 = (-2147483648, 2147483647) from rfl) (r_full _)) (show sp 90 3 = (-2147483648, 2147483647) from rfl) (r_full _)
  generalize up (up h 90 2 0) 90 3 (-1) = hf at e1 hF F2 F3 iF
  have hM : ∀ b, b ≠ 104 → up (up (up (up (up (up h1 104 0 0) 104 31 0) 104 32 (-1)) 104 12 0) 104 25 0) 104 26 0 b = h1 b := fun b hb => by rw [up_cell hb, up_cell hb, up_cell hb, up_cell hb, up_cell hb, up_cell hb]
  have hM4 : ∀ j, j ≠ 0 → j ≠ 31 → j ≠ 32 → j ≠ 12 → j ≠ 25 → j ≠ 26 → up (up (up (up (up (up h1 104 0 0) 104 31 0) 104 32 (-1)) 104 12 0) 104 25 0) 104 26 0 104 j = h 104 j := fun j j0 j1 j2 j3 j4 j5 => by rw [up_oj j5, up_oj j4, up_oj j3, up_oj j2, up_oj j1, up_oj j0, x104 104 (by decide)]
  have M12 : up (up (up (up (up (up h1 104 0 0) 104 31 0) 104 32 (-1)) 104 12 0) 104 25 0) 104 26 0 104 12 = 0 := by rw [up_oj (by decide), up_oj (by decide), up_same]
  have M25 : up (up (up (up (up (up h1 104 0 0) 104 31 0) 104 32 (-1)) 104 12 0) 104 25 0) 104 26 0 104 25 = 0 := by rw [up_oj (by decide), up_same]
  have M26 : up (up (up (up (up (up h1 104 0 0) 104 31 0) 104 32 (-1)) 104 12 0) 104 25 0) 104 26 0 104 26 = 0 := up_same
  generalize up (up (up (up (up (up h1 104 0 0) 104 31 0) 104 32 (-1)) 104 12 0) 104 25 0) 104 26 0 = hm at e2 hM hM4 M12 M25 M26
  by_cases f : 0 ≤ a1 ∧ a1 ≤ 3
  · obtain ⟨s, s1, s2, es⟩ := nat_of (rng_of (x := 0) (y := 3) rfl rfl f) (by decide)
    have hs4 : s < 4 := by omega
    obtain ⟨L, L1, L2, eL⟩ := nat_of (show R 0 400 (h 85 4) from inv_rng i.1 rfl) (by decide)
    have e11 : h 104 11 = nI L := by rw [← rl.2.2.2]; exact eL
    have bt : ∀ j, j < L → (h 86 j &&& 255) = nI ((h 111 j).toInt.toNat) ∧ h 111 j = nI ((h 111 j).toInt.toNat) ∧ (h 111 j).toInt.toNat < 256 := fun j hj => by
      obtain ⟨b1, b2⟩ := rx.1 j (by rw [e11, nI_toInt L2]; omega)
      obtain ⟨w, w1, w2, ew⟩ := nat_of b2 (by decide)
      rw [b1, ew, nI_toInt w2, Int.toNat_natCast]
      exact ⟨rfl, rfl, by omega⟩
    have tc : TC (fun j => (h 111 j).toInt.toNat) L hf := ⟨by omega, by rw [hF 85 (by decide)]; exact eL, fun j hj => by rw [hF 86 (by decide)]; exact ⟨(bt j hj).1, (bt j hj).2.2⟩⟩
    have tm : TM (fun j => (h 111 j).toInt.toNat) L hm := ⟨by omega, by rw [hM4 11 (by decide) (by decide) (by decide) (by decide) (by decide) (by decide)]; exact e11, fun j hj => by rw [hM 111 (by decide), x104 111 (by decide)]; exact ⟨(bt j hj).2.1, (bt j hj).2.2⟩, fun j hj => by rw [hM 112 (by decide), x104 112 (by decide)]; exact wd_ch i j hj⟩
    have e1H : hf 1 1 = nI H := by rw [hF 1 (by decide)]; exact eH1
    have tx := tx_rows (s := s) (H := H) hs4 tc iF F2 F3 tm M12 M25 M26 h12 (by rw [hM4 6 (by decide) (by decide) (by decide) (by decide) (by decide) (by decide)]; exact eH6)
    rw [within_y f, bd_e, jn2_e, if_neg no10, e1H, es] at e1
    rw [isIn_y f, bd_e, jn2_e, if_neg no10, es] at e2
    have rdC : ∀ {x : Int32} {g : PH}, mD_reads (nI s) (nI H) hf = some (x, g) → ∀ b, b < 85 → g b = h b := fun {x g} e b hb => by
      have := fpD_reads (nI s) (nI H) hf e b (by
        unfold FPdD_reads
        simp only [List.mem_cons, List.not_mem_nil, or_false]
        omega)
      have this : g b = hf b := this
      rw [this, hF b (by omega)]
    have rdL : ∀ {x : Int32} {g : PH}, mm_readsText (nI s) hm = some (x, g) → ∀ b j, LOW b j → 104 ≤ b → g b j = h b j := fun {x g} e b j l hb => by
      have := (lo_text (nI s) e (by rw [M25]; decide)).2 b j l
      rw [hM b l.2.1, x104 b hb] at this
      exact this
    have rd4 : ∀ {x : Int32} {g : PH}, mm_readsText (nI s) hm = some (x, g) → ∀ j, j = 3 ∨ j = 33 ∨ j = 35 ∨ j = 37 → g 104 j = h 104 j := fun {x g} e j hj => by
      have := fkm_readsText (nI s) hm e 104 j (by
        rw [show kk 104 j = 1000 + j from rfl]
        unfold FKdm_readsText
        simp only [List.mem_cons, List.not_mem_nil, or_false]
        omega)
      rw [hM4 j (by omega) (by omega) (by omega) (by omega) (by omega) (by omega)] at this
      exact this
    rcases tx with ⟨r, gc, gm, r1, r2, r3, cr, q⟩ | ⟨gc, gm, r2, r3⟩
    · have gC := rdC r2
      have gL := rdL r3
      have g4 := rd4 r3
      rw [r2, bd2_e, if_neg no10] at e1
      rw [r3, bd2_e, if_neg (nI_nm1 (by omega))] at e2
      change (lt (up gc 85 4 0) fun h6 => if (1 : Int32) = 0 then some (-1, h6) else bd2 (mX_keepText (nI s) h6) fun r7 h8 => some (r7, h8)) = some (rX, h1) at e1
      change (lt (up gm 104 11 0) fun h11 => if (nI r : Int32) = -1 then some (-1, h11) else if (nI s) = 0 then bd (mm_takesLaw (nI r) h11) fun h12 => some (nI r, h12) else bd (mm_takesOther (nI s) (nI r) h11) fun h13 => some (nI r, h13)) = some (rm, h2) at e2
      rw [lt_e, if_neg no10] at e1
      rw [lt_e, if_neg (nI_nm1 (by omega))] at e2
      have hC : ∀ b, b ≠ 85 → up gc 85 4 0 b = gc b := fun b hb => up_cell hb
      have c91 : up gc 85 4 0 91 1 = nI 5 ∧ up gc 85 4 0 91 3 = nI r := by rw [hC 91 (by decide)]; exact ⟨cr.2.1, cr.2.2⟩
      have wT : ∀ q, q < 6 → up gc 85 4 0 (6 + 2 * q) 1 = nI (rwT q) := fun q hq => by rw [hC _ (by omega), gC _ (by omega)]; exact (rw0.1 q hq).1
      have oldLW : (∀ x, 6 ≤ x → x ≤ 9 → h2 x = h x) → (∀ b j, LOW b j → b ≤ 119 → 113 ≤ b → h2 b j = h b j) → LW Ls h2 h2 := fun y1 y2 => ⟨lwO.1, lwO.2.1, lwO.2.2.1, lwc_of lwO.2.2.2.1 y1, lwm_lo lwO.1 lwO.2.1 lwO.2.2.2.2 (y2 113 0 (by unfold LOW; omega) (by decide) (by decide)) (fun b j hb => y2 b j (by unfold LOW; omega) (by omega) (by omega))⟩
      rcases s4 hs4 with e | e | e | e
      · -- a law
        subst e
        obtain ⟨Ls', l1, l2, l3, l5, l6, l7, l8⟩ := q.1 rfl
        have lc8 := xp_ge (cdo Ls')
        rw [if_pos (show nI 0 = (0 : Int32) from rfl)] at e2
        obtain ⟨g1, p1, p2⟩ := cp_d 6 91 r 5 (by decide) (by show r * 5 ≤ 80; omega) (by show r * 5 ≤ 80; omega) (by decide) (h := up gc 85 4 0) (by omega) c91.2 c91.1 (show up gc 85 4 0 6 1 = nI 5 from wT 0 (by decide))
        have b93 : g1 93 = gc 93 := by rw [p2.1 93 (by decide) (by decide), hC 93 (by decide)]
        have b94 : g1 94 = gc 94 := by rw [p2.1 94 (by decide) (by decide), hC 94 (by decide)]
        have b8 : g1 8 = up gc 85 4 0 8 := p2.1 8 (by decide) (by decide)
        obtain ⟨g2, p3, p4⟩ := cp_d 8 93 (cdo Ls').length 2 (by decide) (by show (cdo Ls').length * 2 ≤ 800; omega) (by show (cdo Ls').length * 2 ≤ 800; omega) (by decide) (h := g1) (by omega) (by rw [b93]; exact l6.2.2.1) (by rw [b93]; exact l6.2.1) (by rw [b8]; exact wT 1 (by decide))
        unfold mX_keepText at e1
        rw [if_pos (show nI 0 = (0 : Int32) from rfl), p1, bd_e, p3, bd_e, bd2_e] at e1
        have eh := (Prod.mk.inj (Option.some.inj e1)).2
        obtain ⟨g3, v1, v2, v3, v4, v5⟩ := tl_at r1 l8 (hm := up gm 104 11 0) (by rw [up_oj (by decide)]; exact rt_24 _ r3) (by rw [up_oj (by decide)]; exact l7.1)
        rw [v1, bd_e] at e2
        have eh2 := (Prod.mk.inj (Option.some.inj e2)).2
        have cX : ∀ x, x < 85 → x ≠ 6 → x ≠ 7 → x ≠ 8 → x ≠ 9 → h2 x = h x := fun x x0 x1 x2 x3 x4 => by
          rw [ss x (by omega), ← eh, p4.1 x x3 x4, p2.1 x x1 x2, hC x (by omega), gC x x0]
        have mX : ∀ b j, LOW b j → 104 ≤ b → (b < 113 ∨ 119 < b) → h2 b j = h b j := fun b j l hb hb2 => by
          rw [← eh2, v2 b hb2, up_oc l.2.1]
          exact gL b j l hb
        have m4' : ∀ j, j = 3 ∨ j = 33 ∨ j = 35 ∨ j = 37 → h2 104 j = h 104 j := fun j hj => by
          rw [← eh2, v2 104 (by omega), up_oj (by omega)]
          exact g4 j hj
        have c3 : (up gc 85 4 0 91 3).toNatClampNeg = r := by rw [c91.2]; exact clm (by omega)
        have c93 : (g1 93 3).toNatClampNeg = (cdo Ls').length := by rw [b93, l6.2.2.1]; exact clm (by omega)
        have up11 : ∀ b, b ≠ 104 → up gm 104 11 0 b = gm b := fun b hb => up_cell hb
        refine done (Or.inl ⟨cX 70 (by decide) (by decide) (by decide) (by decide) (by decide), m4' 3 (by omega)⟩) (lw_kept (g := g1) l1 r1 l2 l3 l5 l6 l7 l8 ?_ ?_ ?_ ?_ (fun j hj => ?_) (fun j hj => ?_) ?_ (fun b j b1 b2 hj => ?_) (fun j hj => ?_)) (fun q' hq => ?_) (sk_lo t4.2.1 (cX 10 (by decide) (by decide) (by decide) (by decide) (by decide)) (cX 11 (by decide) (by decide) (by decide) (by decide) (by decide)) (m4' 33 (by omega)) (fun j hj => mX 121 j (by unfold LOW; omega) (by decide) (by omega))) (of_lo t4.2.2.1 (cX 12 (by decide) (by decide) (by decide) (by decide) (by decide)) (cX 13 (by decide) (by decide) (by decide) (by decide) (by decide)) (m4' 35 (by omega)) (fun j hj => mX 122 j (by unfold LOW; omega) (by decide) (by omega))) (by rw [cX 14 (by decide) (by decide) (by decide) (by decide) (by decide), m4' 37 (by omega)]; exact t4.2.2.2)
        · rw [ss 6 (by decide), ← eh, p4.1 6 (by decide) (by decide), p2.2.2.1 1 (by decide)]; exact wT 0 (by decide)
        · rw [ss 6 (by decide), ← eh, p4.1 6 (by decide) (by decide), p2.2.1]; exact c91.2
        · rw [ss 8 (by decide), ← eh, p4.2.2.1 1 (by decide), b8]; exact wT 1 (by decide)
        · rw [ss 8 (by decide), ← eh, p4.2.1, b93]; exact l6.2.2.1
        · rw [ss 7 (by decide), ← eh, p4.1 7 (by decide) (by decide)]
          have := p2.2.2.2 j (by rw [c3]; exact hj)
          rw [show (6 : Nat) + 1 = 7 from rfl, show (91 : Nat) + 1 = 92 from rfl, hC 92 (by decide)] at this
          exact this
        · rw [ss 9 (by decide), ← eh]
          have := p4.2.2.2 j (by rw [c93]; exact hj)
          rw [show (8 : Nat) + 1 = 9 from rfl, show (93 : Nat) + 1 = 94 from rfl, b94] at this
          exact this
        · rw [← eh2]; exact v3
        · rw [← eh2, v4 b j b1 b2 hj, up11 b (by omega)]
        · rw [← eh2, (v5 j hj).1, (v5 j hj).2, up11 118 (by decide), up11 119 (by decide)]
          exact ⟨rfl, rfl⟩
        · rw [nx_fr (cX 14 (by decide) (by decide) (by decide) (by decide) (by decide)) (cX 15 (by decide) (by decide) (by decide) (by decide) (by decide)), mX 123 q' (by unfold LOW; omega) (by decide) (by omega)]
          exact t4.1.2.2.2.1 q' hq
      · -- text 1
        subst e
        have sr := q.2.1 rfl
        rw [if_neg (show ¬ nI 1 = (0 : Int32) by decide)] at e2
        obtain ⟨g1, p1, p2⟩ := cp_d 10 91 r 5 (by decide) (by show r * 5 ≤ 80; omega) (by show r * 5 ≤ 80; omega) (by decide) (h := up gc 85 4 0) (by omega) c91.2 c91.1 (show up gc 85 4 0 10 1 = nI 5 from wT 2 (by decide))
        unfold mX_keepText at e1
        rw [if_neg (show ¬ nI 1 = (0 : Int32) by decide), if_pos (show nI 1 = (1 : Int32) from rfl), p1, bd_e, show mP_forget g1 = some (up g1 70 3 0) from rfl, bd_e, bd2_e] at e1
        have eh := (Prod.mk.inj (Option.some.inj e1)).2
        obtain ⟨g3, v1, v2, v3, v4, v5, v6⟩ := to_at1 r1 (up gm 104 11 0)
        rw [show mm_takesOther (nI 1) (nI r) (up gm 104 11 0) = _ from v1, bd_e] at e2
        have eh2 := (Prod.mk.inj (Option.some.inj e2)).2
        have cX : ∀ x, x < 85 → x ≠ 10 → x ≠ 11 → x ≠ 70 → h2 x = h x := fun x x0 x1 x2 x3 => by
          rw [ss x (by omega), ← eh, up_cell x3, p2.1 x x1 x2, hC x (by omega), gC x x0]
        have mX : ∀ b j, LOW b j → 104 ≤ b → b ≠ 121 → h2 b j = h b j := fun b j l hb hb2 => by
          rw [← eh2, v2 b hb2 l.2.1, up_oc l.2.1]
          exact gL b j l hb
        have m4' : ∀ j, j = 33 ∨ j = 35 ∨ j = 37 → j ≠ 33 → h2 104 j = h 104 j := fun j hj hj2 => by
          rw [← eh2, v3 j hj2 (by omega), up_oj (by omega)]
          exact g4 j (by omega)
        have c3 : (up gc 85 4 0 91 3).toNatClampNeg = r := by rw [c91.2]; exact clm (by omega)
        have up11 : ∀ b, b ≠ 104 → up gm 104 11 0 b = gm b := fun b hb => up_cell hb
        have w1 : h2 10 1 = 5 := by rw [ss 10 (by decide), ← eh, up_oc (by decide), p2.2.2.1 1 (by decide)]; exact wT 2 (by decide)
        have w3 : h2 10 3 = nI r := by rw [ss 10 (by decide), ← eh, up_oc (by decide), p2.2.1]; exact c91.2
        have wd : ∀ j, j < r * 5 → h2 11 j = gc 92 j := fun j hj => by
          rw [ss 11 (by decide), ← eh, up_oc (by decide)]
          have := p2.2.2.2 j (by rw [c3]; exact hj)
          rw [show (10 : Nat) + 1 = 11 from rfl, show (91 : Nat) + 1 = 92 from rfl, hC 92 (by decide)] at this
          exact this
        have pp : (h2 70 = h 70 ∧ h2 104 3 = h 104 3) ∨ (h2 70 2 = h 70 2 ∧ h2 70 3 = 0 ∧ h2 104 3 = 0) := Or.inr ⟨by rw [ss 70 (by decide), ← eh, up_oj (by decide), p2.1 70 (by decide) (by decide), hC 70 (by decide), gC 70 (by decide)], by rw [ss 70 (by decide), ← eh, up_same], by rw [← eh2]; exact v5⟩
        have lw := oldLW (fun x x1 x2 => cX x (by omega) (by omega) (by omega) (by omega)) (fun b j l b1 b2 => mX b j l (by omega) (by omega))
        exact done pp lw (fun q' hq => by
          rw [nx_fr (cX 14 (by decide) (by decide) (by decide) (by decide)) (cX 15 (by decide) (by decide) (by decide) (by decide)), mX 123 q' (by unfold LOW; omega) (by decide) (by decide)]
          exact t4.1.2.2.2.1 q' hq) (sk_kept r1 sr w1 w3 wd (by rw [← eh2]; exact v4) (fun j hj => by rw [← eh2, v6 j hj, up11 121 (by decide)])) (of_lo t4.2.2.1 (cX 12 (by decide) (by decide) (by decide) (by decide)) (cX 13 (by decide) (by decide) (by decide) (by decide)) (m4' 35 (by omega) (by decide)) (fun j hj => mX 122 j (by unfold LOW; omega) (by decide) (by decide))) (by rw [cX 14 (by decide) (by decide) (by decide) (by decide), m4' 37 (by omega) (by decide)]; exact t4.2.2.2)
      · -- text 2
        subst e
        have sr := q.2.2.1 rfl
        rw [if_neg (show ¬ nI 2 = (0 : Int32) by decide)] at e2
        obtain ⟨g1, p1, p2⟩ := cp_d 12 91 r 5 (by decide) (by show r * 5 ≤ 80; omega) (by show r * 5 ≤ 80; omega) (by decide) (h := up gc 85 4 0) (by omega) c91.2 c91.1 (show up gc 85 4 0 12 1 = nI 5 from wT 3 (by decide))
        unfold mX_keepText at e1
        rw [if_neg (show ¬ nI 2 = (0 : Int32) by decide), if_neg (show ¬ nI 2 = (1 : Int32) by decide), if_pos (show nI 2 = (2 : Int32) from rfl), p1, bd_e, show mP_forget g1 = some (up g1 70 3 0) from rfl, bd_e, bd2_e] at e1
        have eh := (Prod.mk.inj (Option.some.inj e1)).2
        obtain ⟨g3, v1, v2, v3, v4, v5, v6⟩ := to_at2 r1 (up gm 104 11 0)
        rw [show mm_takesOther (nI 2) (nI r) (up gm 104 11 0) = _ from v1, bd_e] at e2
        have eh2 := (Prod.mk.inj (Option.some.inj e2)).2
        have cX : ∀ x, x < 85 → x ≠ 12 → x ≠ 13 → x ≠ 70 → h2 x = h x := fun x x0 x1 x2 x3 => by
          rw [ss x (by omega), ← eh, up_cell x3, p2.1 x x1 x2, hC x (by omega), gC x x0]
        have mX : ∀ b j, LOW b j → 104 ≤ b → b ≠ 122 → h2 b j = h b j := fun b j l hb hb2 => by
          rw [← eh2, v2 b hb2 l.2.1, up_oc l.2.1]
          exact gL b j l hb
        have m4' : ∀ j, j = 33 ∨ j = 35 ∨ j = 37 → j ≠ 35 → h2 104 j = h 104 j := fun j hj hj2 => by
          rw [← eh2, v3 j hj2 (by omega), up_oj (by omega)]
          exact g4 j (by omega)
        have c3 : (up gc 85 4 0 91 3).toNatClampNeg = r := by rw [c91.2]; exact clm (by omega)
        have up11 : ∀ b, b ≠ 104 → up gm 104 11 0 b = gm b := fun b hb => up_cell hb
        have w1 : h2 12 1 = 5 := by rw [ss 12 (by decide), ← eh, up_oc (by decide), p2.2.2.1 1 (by decide)]; exact wT 3 (by decide)
        have w3 : h2 12 3 = nI r := by rw [ss 12 (by decide), ← eh, up_oc (by decide), p2.2.1]; exact c91.2
        have wd : ∀ j, j < r * 5 → h2 13 j = gc 92 j := fun j hj => by
          rw [ss 13 (by decide), ← eh, up_oc (by decide)]
          have := p2.2.2.2 j (by rw [c3]; exact hj)
          rw [show (12 : Nat) + 1 = 13 from rfl, show (91 : Nat) + 1 = 92 from rfl, hC 92 (by decide)] at this
          exact this
        have pp : (h2 70 = h 70 ∧ h2 104 3 = h 104 3) ∨ (h2 70 2 = h 70 2 ∧ h2 70 3 = 0 ∧ h2 104 3 = 0) := Or.inr ⟨by rw [ss 70 (by decide), ← eh, up_oj (by decide), p2.1 70 (by decide) (by decide), hC 70 (by decide), gC 70 (by decide)], by rw [ss 70 (by decide), ← eh, up_same], by rw [← eh2]; exact v5⟩
        have lw := oldLW (fun x x1 x2 => cX x (by omega) (by omega) (by omega) (by omega)) (fun b j l b1 b2 => mX b j l (by omega) (by omega))
        exact done pp lw (fun q' hq => by
          rw [nx_fr (cX 14 (by decide) (by decide) (by decide) (by decide)) (cX 15 (by decide) (by decide) (by decide) (by decide)), mX 123 q' (by unfold LOW; omega) (by decide) (by decide)]
          exact t4.1.2.2.2.1 q' hq) (sk_lo t4.2.1 (cX 10 (by decide) (by decide) (by decide) (by decide)) (cX 11 (by decide) (by decide) (by decide) (by decide)) (m4' 33 (by omega) (by decide)) (fun j hj => mX 121 j (by unfold LOW; omega) (by decide) (by decide))) (of_kept r1 sr w1 w3 wd (by rw [← eh2]; exact v4) (fun j hj => by rw [← eh2, v6 j hj, up11 122 (by decide)])) (by rw [cX 14 (by decide) (by decide) (by decide) (by decide), m4' 37 (by omega) (by decide)]; exact t4.2.2.2)
      · -- text 3
        subst e
        have sr := q.2.2.2 rfl
        rw [if_neg (show ¬ nI 3 = (0 : Int32) by decide)] at e2
        obtain ⟨g1, p1, p2⟩ := cp_d 14 91 r 5 (by decide) (by show r * 5 ≤ 80; omega) (by show r * 5 ≤ 80; omega) (by decide) (h := up gc 85 4 0) (by omega) c91.2 c91.1 (show up gc 85 4 0 14 1 = nI 5 from wT 4 (by decide))
        unfold mX_keepText at e1
        rw [if_neg (show ¬ nI 3 = (0 : Int32) by decide), if_neg (show ¬ nI 3 = (1 : Int32) by decide), if_neg (show ¬ nI 3 = (2 : Int32) by decide), p1, bd_e, bd2_e] at e1
        have eh := (Prod.mk.inj (Option.some.inj e1)).2
        obtain ⟨g3, v1, v2, v3, v4, v6⟩ := to_at3 r (up gm 104 11 0)
        rw [show mm_takesOther (nI 3) (nI r) (up gm 104 11 0) = _ from v1, bd_e] at e2
        have eh2 := (Prod.mk.inj (Option.some.inj e2)).2
        have cX : ∀ x, x < 85 → x ≠ 14 → x ≠ 15 → h2 x = h x := fun x x0 x1 x2 => by
          rw [ss x (by omega), ← eh, p2.1 x x1 x2, hC x (by omega), gC x x0]
        have mX : ∀ b j, LOW b j → 104 ≤ b → b ≠ 123 → h2 b j = h b j := fun b j l hb hb2 => by
          rw [← eh2, v2 b hb2 l.2.1, up_oc l.2.1]
          exact gL b j l hb
        have m4' : ∀ j, j = 3 ∨ j = 33 ∨ j = 35 ∨ j = 37 → j ≠ 37 → h2 104 j = h 104 j := fun j hj hj2 => by
          rw [← eh2, v3 j hj2, up_oj (by omega)]
          exact g4 j (by omega)
        have c3 : (up gc 85 4 0 91 3).toNatClampNeg = r := by rw [c91.2]; exact clm (by omega)
        have up11 : ∀ b, b ≠ 104 → up gm 104 11 0 b = gm b := fun b hb => up_cell hb
        have w1 : h2 14 1 = 5 := by rw [ss 14 (by decide), ← eh, p2.2.2.1 1 (by decide)]; exact wT 4 (by decide)
        have w3 : h2 14 3 = nI r := by rw [ss 14 (by decide), ← eh, p2.2.1]; exact c91.2
        have wd : ∀ j, j < r * 5 → h2 15 j = gc 92 j := fun j hj => by
          rw [ss 15 (by decide), ← eh]
          have := p2.2.2.2 j (by rw [c3]; exact hj)
          rw [show (14 : Nat) + 1 = 15 from rfl, show (91 : Nat) + 1 = 92 from rfl, hC 92 (by decide)] at this
          exact this
        have pp : (h2 70 = h 70 ∧ h2 104 3 = h 104 3) ∨ (h2 70 2 = h 70 2 ∧ h2 70 3 = 0 ∧ h2 104 3 = 0) := Or.inl ⟨(cX 70 (by decide) (by decide) (by decide)), m4' 3 (by omega) (by decide)⟩
        have lw := oldLW (fun x x1 x2 => cX x (by omega) (by omega) (by omega)) (fun b j l b1 b2 => mX b j l (by omega) (by omega))
        exact done pp lw (fun q' hq => by
          rw [nt_rows r1 w3 w1 q', ← eh2, v6 q' hq, up11 123 (by decide), sr.1 q' hq, eh2, nxF_x r (fun j hj => wd j (by omega))]) (sk_lo t4.2.1 (cX 10 (by decide) (by decide) (by decide)) (cX 11 (by decide) (by decide) (by decide)) (m4' 33 (by omega) (by decide)) (fun j hj => mX 121 j (by unfold LOW; omega) (by decide) (by decide))) (of_lo t4.2.2.1 (cX 12 (by decide) (by decide) (by decide)) (cX 13 (by decide) (by decide) (by decide)) (m4' 35 (by omega) (by decide)) (fun j hj => mX 122 j (by unfold LOW; omega) (by decide) (by decide))) (by rw [w3, ← eh2]; exact v4.symm)
    · have gC := rdC r2
      have gL := rdL r3
      have g4 := rd4 r3
      rw [r2, bd2_e, if_pos rfl] at e1
      rw [r3, bd2_e, if_pos rfl] at e2
      change (lt (up gc 85 4 0) fun h6 => if (0 : Int32) = 0 then some (-1, h6) else bd2 (mX_keepText (nI s) h6) fun r7 h8 => some (r7, h8)) = some (rX, h1) at e1
      rw [lt_e, if_pos rfl] at e1
      rw [lt_e, lt_e] at e2
      change (lt (up _ 104 11 0) fun h11 => if (-1 : Int32) = -1 then some (-1, h11) else if (nI s) = 0 then bd (mm_takesLaw (-1) h11) fun h12 => some (-1, h12) else bd (mm_takesOther (nI s) (-1) h11) fun h13 => some (-1, h13)) = some (rm, h2) at e2
      rw [lt_e, if_pos rfl] at e2
      have eh := (Prod.mk.inj (Option.some.inj e1)).2
      have eh2 := (Prod.mk.inj (Option.some.inj e2)).2
      refine fail (fun x x1 x2 => ?_) ?_ (fun j hj => ?_) (fun b j l hb => ?_)
      · rw [← eh, up_cell (by omega)]; exact gC x (by omega)
      · rw [← eh, up_cell (by decide)]; exact gC 70 (by decide)
      · rw [← eh2, up_oj (by omega), up_oj (by omega), up_oj (by omega)]; exact g4 j hj
      · rw [← eh2, up_oc l.2.1, up_oc l.2.1, up_oc l.2.1]; exact gL b j l hb
  · rw [within_n f, bd_e, jn2_e, if_pos rfl] at e1
    rw [isIn_n f, bd_e, jn2_e, if_pos rfl] at e2
    change (lt (up hf 85 4 0) fun h6 => if (0 : Int32) = 0 then some (-1, h6) else bd2 (mX_keepText a1 h6) fun r7 h8 => some (r7, h8)) = some (rX, h1) at e1
    change (lt (up hm 104 11 0) fun h11 => if (-1 : Int32) = -1 then some (-1, h11) else if a1 = 0 then bd (mm_takesLaw (-1) h11) fun h12 => some (-1, h12) else bd (mm_takesOther a1 (-1) h11) fun h13 => some (-1, h13)) = some (rm, h2) at e2
    rw [lt_e, if_pos rfl] at e1
    rw [lt_e, if_pos rfl] at e2
    have eh := (Prod.mk.inj (Option.some.inj e1)).2
    have eh2 := (Prod.mk.inj (Option.some.inj e2)).2
    refine fail (fun x x1 x2 => ?_) ?_ (fun j hj => ?_) (fun b j l hb => ?_)
    · rw [← eh, up_cell (by omega)]; exact hF x (by omega)
    · rw [← eh, up_cell (by decide)]; exact hF 70 (by decide)
    · rw [← eh2, up_oj (by omega)]; exact hM4 j (by omega) (by omega) (by omega) (by omega) (by omega) (by omega)
    · rw [← eh2, up_oc l.2.1, hM b l.2.1, x104 b hb]
