/-! THE TOWN over heaps that hold the same where rows are filled -/
theorem xp_ge : ∀ C : List (Nat × Nat), C.length ≤ (xp C).length
  | [] => Nat.le_refl _
  | (k, v) :: r => by
    have := xp_ge r
    rw [xp]
    split
    · simp only [List.length_cons]; omega
    · simp only [List.length_cons]; omega
theorem at_14 {h : PH} {m r c : Nat} (c1 : h 14 1 = 5) (c3 : h 14 3 = nI m) (hm : m ≤ 16) (hr : r < m) (hc : c < 5) : mR_at 14 (nI r) (nI c) h = some (h 15 (5 * r + c)) := by
  unfold mR_at
  rw [if_neg (nI_pos (by omega)), c3, if_neg (nI_ge hr (by omega)), if_neg (nI_pos (by omega)), c1, if_pos (show nI c < (5 : Int32) from nI_lt (b := 5) hc (by decide)), show nI r * (5 : Int32) = nI (r * 5) from nI_mul r 5, nI_add, show ln (14 + 1) = 80 from rfl, ck_nI (by omega) (by decide), show ix (nI (r * 5 + c)) = r * 5 + c from nI_clamp (by omega), Nat.mul_comm r 5]
theorem nx_cg {h g : PH} {m : Nat} (h16 : m ≤ 16) (hm : h 14 3 = nI m) (gm : g 14 3 = nI m) (h1 : h 14 1 = 5) (g1 : g 14 1 = 5) (e : ∀ j, j < m * 5 → g 15 j = h 15 j) (p : Int32) : mO_nextTo 5 p g = mO_nextTo 5 p h := by
  have go : ∀ (n k : Nat) (v : Int32), k ≤ m → mO_nextTo_L4 5 p g n v (nI k) = mO_nextTo_L4 5 p h n v (nI k) := by
    intro n
    induction n with
    | zero => intro k v _; rfl
    | succ n ih =>
      intro k v hk
      rw [mO_nextTo_L4, mO_nextTo_L4, show g (5 + 9) 3 = nI m from gm, show h (5 + 9) 3 = nI m from hm]
      by_cases c : k = m
      · rw [if_pos (nI_le (by omega) (by omega)), if_pos (nI_le (by omega) (by omega))]
      · have hk' : k < m := by omega
        have a0 : mR_at (5 + 9) (nI k) 0 g = some (h 15 (5 * k)) := by
          have := at_14 (c := 0) g1 gm h16 hk' (by decide)
          rw [Nat.add_zero, e _ (by omega)] at this
          exact this
        have a1 : mR_at (5 + 9) (nI k) 1 g = some (h 15 (5 * k + 1)) := by
          have := at_14 (c := 1) g1 gm h16 hk' (by decide)
          rw [e _ (by omega)] at this
          exact this
        have b0 : mR_at (5 + 9) (nI k) 0 h = some (h 15 (5 * k)) := at_14 (c := 0) h1 hm h16 hk' (by decide)
        have b1 : mR_at (5 + 9) (nI k) 1 h = some (h 15 (5 * k + 1)) := at_14 (c := 1) h1 hm h16 hk' (by decide)
        have ih' := fun v => ih (k + 1) v (by omega)
        rw [if_neg (nI_ge hk' (by omega)), if_neg (nI_ge hk' (by omega)), a0, bd_e, a1, bd_e, b0, bd_e, b1, bd_e, nI_1]
        simp only [ih']
  have := go FU 0 0 (Nat.zero_le _)
  rw [nI_0] at this
  exact this
theorem clm {n : Nat} (h : n < 2 ^ 31) : (nI n).toNatClampNeg = n := nI_clamp h
def rwT (k : Nat) : Nat := [5, 2, 5, 5, 5, 4].getD k 0
/-- rows filled alike -/
def RW6 (hc gc : PH) : Prop := ∀ k, k < 6 → gc (6 + 2 * k) 3 = hc (6 + 2 * k) 3 ∧ gc (6 + 2 * k) 1 = hc (6 + 2 * k) 1 ∧ ∀ j, j < (hc (6 + 2 * k) 3).toNatClampNeg * rwT k → gc (7 + 2 * k) j = hc (7 + 2 * k) j
def PM6 (hm gm : PH) : Prop := gm 104 5 = hm 104 5 ∧ ∀ p, p < 1850 → gm (pm p).1 (pm p).2 = hm (pm p).1 (pm p).2
theorem pm6_at {hm gm : PH} (m : PM6 hm gm) {p b j : Nat} (hp : p < 1850) (e : pm p = (b, j)) : gm b j = hm b j := by
  have := m.2 p hp
  rw [e] at this
  exact this
theorem lwc_cg {Ls : LNS} {hc gc : PH} (l1 : Ls.length ≤ 16) (l2 : (xp (cdo Ls)).length ≤ 400) (l : LWc Ls hc) (w : RW6 hc gc) : LWc Ls gc := by
  obtain ⟨a1, a2, a3, a4, a5, a6⟩ := l
  obtain ⟨w1, w2, w3⟩ := w 0 (by decide)
  obtain ⟨v1, v2, v3⟩ := w 1 (by decide)
  have cl := xp_ge (cdo Ls)
  have w1 : gc 6 3 = hc 6 3 := w1
  have w2 : gc 6 1 = hc 6 1 := w2
  have w3 : ∀ j, j < (hc 6 3).toNatClampNeg * 5 → gc 7 j = hc 7 j := w3
  have v1 : gc 8 3 = hc 8 3 := v1
  have v2 : gc 8 1 = hc 8 1 := v2
  have v3 : ∀ j, j < (hc 8 3).toNatClampNeg * 2 → gc 9 j = hc 9 j := v3
  rw [a2, clm (by omega)] at w3
  rw [a4, clm (by omega)] at v3
  refine ⟨by rw [w2]; exact a1, by rw [w1]; exact a2, by rw [v2]; exact a3, by rw [v1]; exact a4, fun j k v hj => ?_, fun r x A W hr => ?_⟩
  · obtain ⟨hl, _⟩ := List.getElem?_eq_some_iff.mp hj
    rw [v3 _ (by omega), v3 _ (by omega)]
    exact a5 j k v hj
  · obtain ⟨hl, _⟩ := List.getElem?_eq_some_iff.mp hr
    rw [w3 _ (by omega), w3 _ (by omega), w3 _ (by omega), w3 _ (by omega)]
    exact a6 r x A W hr
theorem lwm_cg {Ls : LNS} {hm gm : PH} (l1 : Ls.length ≤ 16) (l2 : (xp (cdo Ls)).length ≤ 400) (l : LWm Ls hm) (m : PM6 hm gm) : LWm Ls gm := by
  obtain ⟨a1, a2, a3⟩ := l
  refine ⟨by rw [pm6_at m (p := 985) (by decide) rfl]; exact a1, fun j k v hj => ?_, fun r x A W hr => ?_⟩
  · obtain ⟨hl, _⟩ := List.getElem?_eq_some_iff.mp hj
    rw [pm6_at m (by omega) (pb_cod_0 (0 + j) (by omega)), pm6_at m (by omega) (pb_cod_1 (0 + j) (by omega))]
    exact a2 j k v hj
  · obtain ⟨hl, _⟩ := List.getElem?_eq_some_iff.mp hr
    rw [pm6_at m (by omega) (pb_lin_0 r (by omega)), pm6_at m (by omega) (pb_lin_1 r (by omega)), pm6_at m (by omega) (pb_lin_2 r (by omega)), pm6_at m (by omega) (pb_lin_3 r (by omega))]
    exact a3 r x A W hr
theorem tn_cg2 {H N M b : Nat} {Ls : LNS} {hc hm gc gm : PH} (t : TNt H N M b Ls hc hm) (c1 : ∀ j, 1 ≤ j → j ≤ 7 → gc 1 j = hc 1 j) (c2 : ∀ j, j < 132 → gc 2 j = hc 2 j) (w : RW6 hc gc) (c60 : gc 16 0 = hc 16 0) (c68 : gc 68 3 = hc 68 3) (n14 : R 0 16 (hc 14 3)) (w14 : hc 14 1 = 5) (m : PM6 hm gm) : TNt H N M b Ls gc gm := by
  obtain ⟨⟨q1, q2, q3, q4, q5, q6, q7⟩, s, o, e37⟩ := t
  have h12 := q1.1
  have m105 : ∀ j, j < 115 → gm 105 j = hm 105 j := fun j hj => pm6_at m (by omega) (pb_now_0 j hj)
  refine ⟨⟨tb_cg q1 c1 c2 (pm6_at m (p := 115) (by decide) rfl) m105 (fun j hj => pm6_at m (by omega) (pb_hou_0 j hj)) (fun j hj => pm6_at m (by omega) (pb_hou_1 j hj)), ⟨q2.1, q2.2.1, q2.2.2.1, lwc_cg q2.1 q2.2.1 q2.2.2.2.1 w, lwm_cg q2.1 q2.2.1 q2.2.2.2.2 m⟩, ?_, fun k hk => ?_, by rw [c68]; exact q5, by rw [m.1]; exact q6, ld_of q7 (fun i hi => c2 _ (by omega))⟩, ?_, ?_, ?_⟩
  · obtain ⟨n, n1, n2, n3, n4, n5, n6, n7⟩ := q3
    obtain ⟨w1, w2, w3⟩ := w 5 (by decide)
    have w1 : gc 16 3 = hc 16 3 := w1
    have w2 : gc 16 1 = hc 16 1 := w2
    have w3 : ∀ j, j < (hc 16 3).toNatClampNeg * 4 → gc 17 j = hc 17 j := w3
    rw [n4, clm (by omega)] at w3
    exact ⟨n, n1, by rw [c60]; exact n2, by rw [w2]; exact n3, by rw [w1]; exact n4, by rw [m105 2 (by decide)]; exact n5, fun j hj => by rw [w3 j (by omega), pm6_at m (by omega) (pb_boo_0 j (by omega))]; exact n6 j hj, n7.1, fun j hj => by have := n7.1; rw [w3 j (by omega)]; exact n7.2 j hj⟩
  · obtain ⟨x, x1, x2, ex⟩ := nat_of n14 (by decide)
    obtain ⟨w1, w2, w3⟩ := w 4 (by decide)
    have w1 : gc 14 3 = hc 14 3 := w1
    have w2 : gc 14 1 = hc 14 1 := w2
    have w3 : ∀ j, j < (hc 14 3).toNatClampNeg * 5 → gc 15 j = hc 15 j := w3
    rw [ex, clm x2] at w3
    rw [nx_cg (m := x) (by omega) ex (by rw [w1]; exact ex) w14 (by rw [w2]; exact w14) w3, pm6_at m (by omega) (pb_hou_2 k hk)]
    exact q4 k hk
  · obtain ⟨s1, s2, s3, s4, s5⟩ := s
    obtain ⟨w1, w2, w3⟩ := w 2 (by decide)
    have w1 : gc 10 3 = hc 10 3 := w1
    have w2 : gc 10 1 = hc 10 1 := w2
    have w3 : ∀ j, j < (hc 10 3).toNatClampNeg * 5 → gc 11 j = hc 11 j := w3
    rw [s3, clm (by omega)] at w3
    refine ⟨s1, by rw [w2]; exact s2, by rw [w1]; exact s3, by rw [pm6_at m (p := 116) (b := 104) (j := 33) (by decide) rfl]; exact s4, fun r hr => ?_⟩
    rw [w3 _ (by omega), w3 _ (by omega), w3 _ (by omega), pm6_at m (by omega) (pb_sky_0 (3 * r) (by omega)), pm6_at m (by omega) (pb_sky_0 (3 * r + 1) (by omega)), pm6_at m (by omega) (pb_sky_0 (3 * r + 2) (by omega))]
    exact s5 r hr
  · obtain ⟨s1, s2, s3, s4, s5⟩ := o
    obtain ⟨w1, w2, w3⟩ := w 3 (by decide)
    have w1 : gc 12 3 = hc 12 3 := w1
    have w2 : gc 12 1 = hc 12 1 := w2
    have w3 : ∀ j, j < (hc 12 3).toNatClampNeg * 5 → gc 13 j = hc 13 j := w3
    rw [s3, clm (by omega)] at w3
    refine ⟨s1, by rw [w2]; exact s2, by rw [w1]; exact s3, by rw [pm6_at m (p := 117) (b := 104) (j := 35) (by decide) rfl]; exact s4, fun r hr => ?_⟩
    have z := s5 r hr
    have d := fun j (hj : j < 80) => pm6_at m (by omega) (pb_dee_0 j hj)
    rw [w3 _ (by omega), w3 _ (by omega), w3 _ (by omega), w3 _ (by omega), w3 _ (by omega), d _ (by omega), d _ (by omega), d _ (by omega), d _ (by omega), d _ (by omega)]
    exact z
  · rw [show gc 14 3 = hc 14 3 from (w 4 (by decide)).1, pm6_at m (p := 118) (b := 104) (j := 37) (by decide) rfl]
    exact e37
/-- what every state knows of the rows -/
theorem i_eq {x y : Int32} (h : x.toInt = y.toInt) : x = y := Int32.toInt_inj.mp h
theorem rows_t {h : PH} (i : Inv h) : (∀ k, k < 6 → h (6 + 2 * k) 1 = nI (rwT k) ∧ h (40 + 2 * k) 1 = nI (rwT k)) ∧ h 16 0 = 150 ∧ h 50 0 = 150 := by
  have g : ∀ a w : Nat, (∃ m : Nat, sp a = spR (m : Int) (w : Int)) → w < 6 → h a 1 = nI w := fun a w hs hw => by
    obtain ⟨m, hs⟩ := hs
    have := (rows_i hs i).2.1
    exact i_eq (by rw [this, nI_toInt (by omega)])
  refine ⟨fun k hk => ?_, i_eq (by rw [(rows_i (a := 16) (m := 150) (w := 4) rfl i).1]; rfl), i_eq (by rw [(rows_i (a := 50) (m := 150) (w := 4) rfl i).1]; rfl)⟩
  have : k = 0 ∨ k = 1 ∨ k = 2 ∨ k = 3 ∨ k = 4 ∨ k = 5 := by omega
  rcases this with e | e | e | e | e | e <;> subst e
  · exact ⟨g 6 5 ⟨16, rfl⟩ (by decide), g 40 5 ⟨16, rfl⟩ (by decide)⟩
  · exact ⟨g 8 2 ⟨400, rfl⟩ (by decide), g 42 2 ⟨400, rfl⟩ (by decide)⟩
  · exact ⟨g 10 5 ⟨16, rfl⟩ (by decide), g 44 5 ⟨16, rfl⟩ (by decide)⟩
  · exact ⟨g 12 5 ⟨16, rfl⟩ (by decide), g 46 5 ⟨16, rfl⟩ (by decide)⟩
  · exact ⟨g 14 5 ⟨16, rfl⟩ (by decide), g 48 5 ⟨16, rfl⟩ (by decide)⟩
  · exact ⟨g 16 4 ⟨150, rfl⟩ (by decide), g 50 4 ⟨150, rfl⟩ (by decide)⟩
/-- the image stays while its cells stay -/
theorem tni_st {k : Nat} {h g : PH} (t : TWN k h) (hk : k < 512) (i : Inv h) (c : ∀ x, x = 37 ∨ x = 38 ∨ (40 ≤ x ∧ x ≤ 51) ∨ x = 68 → g x = h x) (m72 : g 104 72 = h 104 72) (m5 : g 104 5 = h 104 5) (e : g 148 = h 148) (nz : ¬ g 104 72 = 0) : ∃ H N M Ls, TNt H N M (1000 * (k + 1)) Ls (iC g) (iM g) := by
  obtain ⟨H, N, M, Ls, t7⟩ := t.2.2.2.2 (by rw [← m72]; exact nz)
  refine ⟨H, N, M, Ls, tn_mono (tn_cg2 t7 (fun j _ _ => ?_) (fun j _ => ?_) (fun k hk => ?_) ?_ ?_ ?_ ?_ ⟨?_, fun p hp => ?_⟩) (by omega) (by omega)⟩
  · rw [iC_1, iC_1, c 37 (by omega)]
  · rw [iC_2, iC_2, c 38 (by omega)]
  · rw [iC_r g (show 6 ≤ 6 + 2 * k by omega) (by omega), iC_r h (show 6 ≤ 6 + 2 * k by omega) (by omega), iC_r g (show 6 ≤ 7 + 2 * k by omega) (by omega), iC_r h (show 6 ≤ 7 + 2 * k by omega) (by omega), c (6 + 2 * k + 34) (by omega), c (7 + 2 * k + 34) (by omega)]
    exact ⟨rfl, rfl, fun _ _ => rfl⟩
  · rw [iC_r g (by decide) (by decide), iC_r h (by decide) (by decide), c (16 + 34) (by omega)]
  · rw [iC_o g (by decide), iC_o h (by decide), c 68 (by omega)]
  · rw [iC_r h (by decide) (by decide)]
    exact inv_rng i rfl
  · rw [iC_r h (by decide) (by decide)]
    exact ((rows_t i).1 4 (by decide)).2
  · rw [iM_5, iM_5, m5]
  · rw [iM_at g hp (show pm p = ((pm p).1, (pm p).2) from rfl), iM_at h hp (show pm p = ((pm p).1, (pm p).2) from rfl), e]
theorem tn_in {H N M b : Nat} {Ls : LNS} {h h1 : PH} (x : ∀ b, 104 ≤ b → h1 b = h b) (t : TNt H N M b Ls h h) : TNt H N M b Ls h (up h1 104 0 0) := tn_tr t (fun _ _ => rfl) (fun j hj => by rw [up_oj (by omega), x 104 (by decide)]) (fun j _ => by rw [up_oc (by decide), x 105 (by decide)]) (fun b hb => by rw [up_cell (by omega), x b (by omega)])
theorem pkt_in {H b u s : Nat} {Ls : LNS} {h h1 : PH} (x : ∀ b, 104 ≤ b → h1 b = h b) (t : PK H b Ls u s h h) : PK H b Ls u s h (up h1 104 0 0) := pk_tr t (fun _ _ => rfl) (fun j hj => by rw [up_oj (by omega), x 104 (by decide)]) (fun b hb => by rw [up_cell (by omega), x b (by omega)])
