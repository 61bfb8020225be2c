/-! THE TOWN'S RELATION: of the town, of what is kept, of the image -/
def TNt (H N M b : Nat) (Ls : LNS) (hc hm : PH) : Prop := RTT AA H b Ls B0 hc hm ∧ SK N hc hm ∧ OF H M hc hm ∧ hc 14 3 = hm 104 37
/-- where the image stands for what is told -/
def iC (h : PH) : PH := fun b => if b = 1 then h 37 else if b = 2 then h 38 else if 6 ≤ b ∧ b ≤ 17 then h (b + 34) else h b
def iM (h : PH) : PH := fun b j => if pm (pv b j) = (b, j) ∧ pv b j < 1850 then h 148 (pv b j) else h b j
theorem iC_1 (h : PH) : iC h 1 = h 37 := rfl
theorem iC_2 (h : PH) : iC h 2 = h 38 := rfl
theorem iC_r (h : PH) {b : Nat} (h1 : 6 ≤ b) (h2 : b ≤ 17) : iC h b = h (b + 34) := by
  unfold iC
  rw [if_neg (by omega), if_neg (by omega), if_pos ⟨h1, h2⟩]
theorem iC_o (h : PH) {b : Nat} (h1 : 17 < b) : iC h b = h b := by
  unfold iC
  rw [if_neg (by omega), if_neg (by omega), if_neg (by omega)]
theorem iM_at (h : PH) {p b j : Nat} (hp : p < 1850) (e : pm p = (b, j)) : iM h b j = h 148 p := by
  have z := pv_pm p hp
  rw [e] at z
  have z : pv b j = p := z
  unfold iM
  rw [z, if_pos ⟨e, hp⟩]
theorem iM_o (h : PH) {b j : Nat} (n : ∀ p, p < 1850 → pm p ≠ (b, j)) : iM h b j = h b j := by
  unfold iM
  rw [if_neg (fun z => n _ z.2 z.1)]
theorem iM_5 (h : PH) : iM h 104 5 = h 104 5 := by
  unfold iM
  rw [if_neg (by decide)]
def TWN (k : Nat) (h : PH) : Prop := k ≤ 512 ∧ QA h ∧ h 69 3 = 0 ∧ (∃ H N M u s Ls, TNt H N M (1000 * k) Ls h h ∧ PK H (1000 * k) Ls u s h h) ∧ (¬ h 104 72 = 0 → ∃ H N M Ls, TNt H N M (1000 * k) Ls (iC h) (iM h))
/-- RTT over heaps that are the same where it looks -/
theorem rt_tr {B : BKT} {A : Nat → Prop} {H b : Nat} {Ls : LNS} {hc hm gc gm : PH} (r : RTT A H b Ls B hc hm) (c : ∀ x, x = 1 ∨ x = 2 ∨ (6 ≤ x ∧ x ≤ 9) ∨ (14 ≤ x ∧ x ≤ 17) ∨ x = 68 → gc x = hc x) (m4 : ∀ j, j = 5 ∨ j = 6 → gm 104 j = hm 104 j) (m5 : ∀ j, j < 115 → gm 105 j = hm 105 j) (m : ∀ x, x = 108 ∨ x = 109 ∨ x = 110 ∨ (113 ≤ x ∧ x ≤ 119) ∨ x = 123 → gm x = hm x) : RTT A H b Ls B gc gm :=
  rt_cg r (fun _ _ _ => by rw [c 1 (by omega)]) (fun _ _ => by rw [c 2 (by omega)]) (fun x _ _ => c x (by omega)) (c 14 (by omega)) (c 15 (by omega)) (by rw [c 16 (by omega)]) (by rw [c 16 (by omega)]) (by rw [c 16 (by omega)]) (fun _ _ => by rw [c 17 (by omega)]) (by rw [c 68 (by omega)]) (m4 5 (by omega)) (m4 6 (by omega)) m5 (fun _ _ => by rw [m 108 (by omega)]) (fun _ _ => by rw [m 109 (by omega)]) (fun _ _ => by rw [m 110 (by omega)]) (fun x _ _ => m x (by omega)) (m 123 (by omega))
theorem tn_tr {H N M b : Nat} {Ls : LNS} {hc hm gc gm : PH} (t : TNt H N M b Ls hc hm) (c : ∀ x, x = 1 ∨ x = 2 ∨ (6 ≤ x ∧ x ≤ 17) ∨ x = 68 → gc x = hc x) (m4 : ∀ j, j = 5 ∨ j = 6 ∨ j = 33 ∨ j = 35 ∨ j = 37 → gm 104 j = hm 104 j) (m5 : ∀ j, j < 115 → gm 105 j = hm 105 j) (m : ∀ x, x = 108 ∨ x = 109 ∨ x = 110 ∨ (113 ≤ x ∧ x ≤ 119) ∨ (121 ≤ x ∧ x ≤ 123) → gm x = hm x) : TNt H N M b Ls gc gm :=
  ⟨rt_tr t.1 (fun x hx => c x (by omega)) (fun j hj => m4 j (by omega)) m5 (fun x hx => m x (by omega)), sk_of t.2.1 (c 10 (by omega)) (c 11 (by omega)) (m4 33 (by omega)) (m 121 (by omega)), of_of t.2.2.1 (c 12 (by omega)) (c 13 (by omega)) (m4 35 (by omega)) (m 122 (by omega)), by rw [c 14 (by omega), m4 37 (by omega)]; exact t.2.2.2⟩
theorem tn_mono {H N M b b' : Nat} {Ls : LNS} {hc hm : PH} (t : TNt H N M b Ls hc hm) (h1 : b ≤ b') (h2 : b' < 1000000) : TNt H N M b' Ls hc hm := ⟨rt_mono t.1 h1 h2, t.2⟩
theorem pk_tr {H b u s : Nat} {Ls : LNS} {hc hm gc gm : PH} (pk : PK H b Ls u s hc hm) (c : ∀ x, (6 ≤ x ∧ x ≤ 9) ∨ (14 ≤ x ∧ x ≤ 17) ∨ x = 68 ∨ x = 70 ∨ (72 ≤ x ∧ x ≤ 84) → gc x = hc x) (m4 : ∀ j, j = 3 ∨ j = 5 ∨ j = 6 → gm 104 j = hm 104 j) (m : ∀ x, x = 106 ∨ x = 108 ∨ x = 109 ∨ x = 110 ∨ (113 ≤ x ∧ x ≤ 119) ∨ x = 123 → gm x = hm x) : PK H b Ls u s gc gm := by
  obtain ⟨p1, p2, p3, p4, p5, p6, p7⟩ := pk
  have c70 := c 70 (by omega)
  have c72 := c 72 (by omega)
  refine ⟨p1, p2, by rw [c70]; exact p3, by rw [c70]; exact p4, by rw [m4 3 (by omega)]; exact p5, fun j hj => ?_, fun i j hij hj => by rw [c72]; exact p7 i j hij hj⟩
  have me : (s + j) % 6 < 6 := Nat.mod_lt _ (by decide)
  obtain ⟨q1, q2⟩ := p6 j hj
  refine ⟨rt_kept q1 (fun x _ _ => by rw [c _ (by omega)]) (fun x _ => by rw [c _ (by omega)]) (by rw [c72]) (fun x _ _ => c x (by omega)) (c 14 (by omega)) (c 15 (by omega)) (by rw [c 16 (by omega)]) (by rw [c 16 (by omega)]) (fun x _ => by rw [c 17 (by omega)]) (by rw [c 68 (by omega)]) (m4 5 (by omega)) (m4 6 (by omega)) (fun x _ => by rw [m 106 (by omega)]) (fun x _ => by rw [m 108 (by omega)]) (fun x _ => by rw [m 109 (by omega)]) (fun x _ => by rw [m 110 (by omega)]) (fun x _ _ => m x (by omega)) (m 123 (by omega)), ?_⟩
  rw [c72, c 16 (by omega)]
  exact q2
/-- nothing is kept -/
theorem pk_0 {H b s : Nat} {Ls : LNS} {hc hm : PH} (hs : s < 6) (e2 : hc 70 2 = nI s) (e3 : hc 70 3 = 0) (m3 : hm 104 3 = 0) : PK H b Ls 0 s hc hm := ⟨by omega, hs, e2, e3, m3, fun j hj => absurd hj (Nat.not_lt_zero j), fun i j _ hj => absurd hj (Nat.not_lt_zero j)⟩
def CCt (h g : PH) : Prop := ∀ x, x = 1 ∨ x = 2 ∨ (6 ≤ x ∧ x ≤ 17) ∨ x = 37 ∨ x = 38 ∨ (40 ≤ x ∧ x ≤ 51) ∨ (68 ≤ x ∧ x ≤ 70) ∨ (72 ≤ x ∧ x ≤ 84) → g x = h x
def CM (h g : PH) : Prop := (∀ j, j = 3 ∨ j = 5 ∨ j = 6 ∨ j = 33 ∨ j = 35 ∨ j = 37 ∨ j = 72 → g 104 j = h 104 j) ∧ (∀ j, j < 115 → g 105 j = h 105 j) ∧ ∀ x, x = 106 ∨ (108 ≤ x ∧ x ≤ 110) ∨ (113 ≤ x ∧ x ≤ 119) ∨ (121 ≤ x ∧ x ≤ 123) ∨ x = 148 → g x = h x
theorem im_5 (h : PH) {j : Nat} (hj : j < 115) : iM h 105 j = h 148 j := iM_at h (p := j) (by omega) (by have := pb_now_0 j hj; rw [show 0 + 1 * j + 0 = j by omega] at this; exact this)
/-- the image of what stays stays -/
theorem im_cg {h g : PH} (e : g 148 = h 148) {b j : Nat} (e2 : g b j = h b j) : iM g b j = iM h b j := by
  unfold iM
  rw [e, e2]
theorem tni_fr {H N M b : Nat} {Ls : LNS} {h g : PH} (c : ∀ x, x = 37 ∨ x = 38 ∨ (40 ≤ x ∧ x ≤ 51) ∨ x = 68 → g x = h x) (m4 : ∀ j, j = 5 ∨ j = 6 ∨ j = 33 ∨ j = 35 ∨ j = 37 → iM g 104 j = iM h 104 j) (m : ∀ x, x = 108 ∨ x = 109 ∨ x = 110 ∨ (113 ≤ x ∧ x ≤ 119) ∨ (121 ≤ x ∧ x ≤ 123) → iM g x = iM h x) (e : g 148 = h 148) (t : TNt H N M b Ls (iC h) (iM h)) : TNt H N M b Ls (iC g) (iM g) := by
  refine tn_tr t (fun x hx => ?_) m4 (fun j hj => by rw [im_5 g hj, im_5 h hj, e]) m
  rcases hx with z | z | z | z
  · subst z; rw [iC_1, iC_1]; exact c 37 (by omega)
  · subst z; rw [iC_2, iC_2]; exact c 38 (by omega)
  · rw [iC_r g z.1 z.2, iC_r h z.1 z.2]; exact c (x + 34) (by omega)
  · subst z; rw [iC_o g (by decide), iC_o h (by decide)]; exact c 68 (by omega)
theorem twn_fr {k k' : Nat} {h g : PH} (hk : k ≤ k') (hk' : k' ≤ 512) (c : CCt h g) (m : CM h g) (t : TWN k h) : TWN k' g := by
  obtain ⟨t1, t2, t3, ⟨H, N, M, u, s, Ls, t4, t5⟩, t6⟩ := t
  obtain ⟨m4, m5, mx⟩ := m
  refine ⟨hk', fun x hx => ?_, by rw [c 69 (by omega)]; exact t3, ⟨H, N, M, u, s, Ls, tn_mono (tn_tr t4 (fun x hx => c x (by omega)) (fun j hj => m4 j (by omega)) m5 (fun x hx => mx x (by omega))) (by omega) (by omega), pk_mono (pk_tr t5 (fun x hx => c x (by omega)) (fun j hj => m4 j (by omega)) (fun x hx => mx x (by omega))) (by omega) (by omega)⟩, fun nz => ?_⟩
  · rw [c x (by
      rcases hx with z | z | ⟨e, z1, z2⟩
      · omega
      · omega
      · omega)]
    exact t2 x hx
  · obtain ⟨H, N, M, Ls, t7⟩ := t6 (by rw [← m4 72 (by omega)]; exact nz)
    have e8 := mx 148 (by omega)
    exact ⟨H, N, M, Ls, tn_mono (tni_fr (fun x hx => c x (by omega)) (fun j hj => im_cg e8 (m4 j (by omega))) (fun x hx => funext fun j => im_cg e8 (by rw [mx x (by omega)])) e8 t7) (by omega) (by omega)⟩
theorem twn_cs {k : Nat} {S T : List Nat} {h h1 h2 : PH} (f1 : Fr S h1 h) (f2 : Fk T h2 h1) (s1 : ∀ b, b ∈ S → ¬ (b = 1 ∨ b = 2 ∨ (6 ≤ b ∧ b ≤ 17) ∨ b = 37 ∨ b = 38 ∨ (40 ≤ b ∧ b ≤ 51) ∨ (68 ≤ b ∧ b ≤ 70) ∨ (72 ≤ b ∧ b ≤ 84))) (s2 : ∀ b, b ∈ T → ¬ (b = 1003 ∨ b = 1005 ∨ b = 1006 ∨ b = 1033 ∨ b = 1035 ∨ b = 1037 ∨ b = 1072 ∨ b = 105 ∨ b = 106 ∨ (108 ≤ b ∧ b ≤ 110) ∨ (113 ≤ b ∧ b ≤ 119) ∨ (121 ≤ b ∧ b ≤ 123) ∨ b = 148)) (s3 : ∀ b, b ∈ S → b < 104) (s4 : ∀ b, b ∈ T → 104 ≤ b) (hk : k < 512) (t : TWN k h) : TWN (k + 1) h2 := by
  have kn : ∀ b j, b ≠ 104 → kk b j = b := fun b j hb => by unfold kk; rw [if_neg hb]
  have up1 : ∀ b, 104 ≤ b → h1 b = h b := fun b hb => f1 b (fun q => by have := s3 b q; omega)
  have lo : ∀ b, b < 104 → h2 b = h1 b := fun b hb => funext fun j => f2 b j (by rw [kn b j (by omega)]; intro q; have := s4 b q; omega)
  refine twn_fr (Nat.le_succ k) hk (fun x hx => ?_) ⟨fun j hj => ?_, fun j hj => ?_, fun x hx => ?_⟩ t
  · rw [lo x (by omega)]
    exact f1 x (fun q => s1 x q hx)
  · rw [← up1 104 (by decide)]
    exact f2 104 j (by
      rw [show kk 104 j = 1000 + j from rfl]
      intro q
      exact s2 _ q (by omega))
  · rw [← up1 105 (by decide)]
    exact f2 105 j (by
      rw [kn 105 j (by decide)]
      intro q
      exact s2 _ q (by omega))
  · rw [← up1 x (by omega)]
    funext j
    exact f2 x j (by
      rw [kn x j (by omega)]
      intro q
      exact s2 _ q (by omega))
/-- class and model, each in its own heap, back into one -/
theorem tn_one {H N M b : Nat} {Ls : LNS} {hc hm g : PH} (c : ∀ x, x < 104 → g x = hc x) (m : ∀ x, 104 ≤ x → g x = hm x) (t : TNt H N M b Ls hc hm) : TNt H N M b Ls g g := tn_tr t (fun x hx => c x (by omega)) (fun j _ => by rw [m 104 (by omega)]) (fun j _ => by rw [m 105 (by omega)]) (fun x hx => m x (by omega))
theorem pk_one {H b u s : Nat} {Ls : LNS} {hc hm g : PH} (c : ∀ x, x < 104 → g x = hc x) (m : ∀ x, 104 ≤ x → g x = hm x) (t : PK H b Ls u s hc hm) : PK H b Ls u s g g := pk_tr t (fun x hx => c x (by omega)) (fun j _ => by rw [m 104 (by omega)]) (fun x hx => m x (by omega))
theorem nt_0 (p : Int32) {h : PH} (e : h 14 3 = 0) : mO_nextTo 5 p h = some 0 := by
  unfold mO_nextTo
  rw [show FU = 99999 + 1 from rfl, mO_nextTo_L4, show h (5 + 9) 3 = 0 from e, if_pos (by decide)]
theorem cdc_first : CDc (cdo []) 0 hI := fun j k v hj => by
  rw [show cdo ([] : LNS) = [] from rfl, List.getElem?_nil] at hj
  cases hj
theorem cdm_first : CDm (cdo []) 0 hI := fun j k v hj => by
  rw [show xp (cdo ([] : LNS)) = [] from rfl, List.getElem?_nil] at hj
  cases hj
theorem lw_first : LW [] hI hI := ⟨by decide, by decide, fun l hl => absurd hl List.not_mem_nil, ⟨rfl, rfl, rfl, rfl, cdc_first, fun r w A W hr => by rw [List.getElem?_nil] at hr; cases hr⟩, ⟨rfl, cdm_first, fun r w A W hr => by rw [List.getElem?_nil] at hr; cases hr⟩⟩
theorem twn_first : TWN 0 hI := by
  refine ⟨by decide, fun c hc => ?_, rfl, ⟨0, 0, 0, 0, 0, [], ⟨⟨⟨by decide, rfl, rfl, fun f f1 f2 => ?_, fun i c hi => absurd hi (Nat.not_lt_zero i), fun i c hi => absurd hi (Nat.not_lt_zero i)⟩, lw_first, ⟨0, by decide, rfl, rfl, rfl, rfl, fun j hj => absurd hj (Nat.not_lt_zero j), Nat.le_refl 0, fun j hj => absurd hj (Nat.not_lt_zero j)⟩, fun k hk => ?_, rfl, rfl, ⟨fun i hi => absurd hi (Nat.not_lt_zero i), Int.le_refl 0, by decide⟩⟩, ⟨by decide, rfl, rfl, rfl, fun r hr => absurd hr (Nat.not_lt_zero r)⟩, ⟨by decide, rfl, rfl, rfl, fun r hr => absurd hr (Nat.not_lt_zero r)⟩, rfl⟩, pk_0 (by decide) rfl rfl rfl⟩, fun nz => absurd rfl nz⟩
  · have z : ∀ e, e < 6 → hI (73 + 2 * e) 6 = 0 := by decide +kernel
    have r0 : R 0 9999 (0 : Int32) := ⟨by decide, by decide⟩
    rcases hc with q | q | ⟨e, q1, q2⟩
    · subst q; exact r0
    · subst q; exact r0
    · subst q2; rw [z e q1]; exact r0
  · have z : ∀ f, f < 8 → 2 ≤ f → hI 1 f = hI 105 (sf f) := by decide +kernel
    exact z f f2 f1
  · have z : ∀ k, k < 12 → hI 123 k = 0 := by decide +kernel
    rw [nt_0 _ (show hI 14 3 = 0 from rfl), z k hk]
