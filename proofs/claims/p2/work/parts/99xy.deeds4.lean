/-! RATS and RAIN: both sides -/
theorem up_id {h : PH} {b j : Nat} {v : Int32} (e : h b j = v) : up h b j v = h := by
  funext c k
  by_cases z : c = b
  · subst z
    by_cases y : k = j
    · subst y; rw [up_same, e]
    · rw [up_oj y]
  · rw [up_oc z]
theorem dr_sim {B : BKT} {A : Nat → Prop} {H b : Nat} {Ls : LNS} {hc hm : PH} (r : RTT A H b Ls B hc hm) : ∃ x v, mB_draw 1 1000 hc = some (x, up hc 1 7 v) ∧ mm_draw 1000 hm = some (x, up hm 105 1 v) ∧ RTT A H b Ls B (up hc 1 7 v) (up hm 105 1 v) := by
  have e : hc 1 7 = hm 105 1 := r.1.2.2.2.1 7 (by decide) (by decide)
  have c1 : ∀ (q : Option (Int32 × PH)), ck 1 115 q = q := fun q => ck_nI (i := 1) (by decide) (by decide)
  have d1 : ∀ (q : Option (Int32 × PH)), dz 1000 q = q := fun q => by unfold dz; rw [if_neg (by decide)]
  refine ⟨irm (ushr (1664525 * hc 1 7 + 1013904223) 8) 1000, 1664525 * hc 1 7 + 1013904223, ?_, ?_, rt_f r (f := 7) (by decide) (by decide) _⟩
  · unfold mB_draw
    rw [lt_e, if_neg (by decide), up_same, d1]
  · unfold mm_draw
    rw [c1, c1, lt_e, c1, show ix (1 : Int32) = 1 from rfl, ← e, up_same, d1]
theorem rg_sim {B : BKT} {A : Nat → Prop} {H b : Nat} {Ls : LNS} {hc hm : PH} (r : RTT A H b Ls B hc hm) (v : Int32) : ∃ x gc gm, mS_ratsGnaw 68 v hc = some (x, gc) ∧ (∀ j4 : Int32 → PH → Option PH, (if (hm 104 5) = 0 then (if v ≤ 0 then j4 0 hm else bd2 (mm_draw 1000 hm) fun r10 h11 => if v ≤ r10 then j4 0 h11 else j4 1 h11) else (if (2 * v) < 1000 then j4 0 hm else j4 1 hm)) = j4 x gm) ∧ RTT A H b Ls B gc gm ∧ gc 2 = hc 2 ∧ gc 1 6 = hc 1 6 ∧ DC hc gc ∧ DM hm gm := by
  have re : hc 68 3 = 1 := r.2.2.2.2.1
  have th : hm 104 5 = 0 := r.2.2.2.2.2.1
  unfold mS_ratsGnaw
  rw [re, if_neg no10]
  by_cases c : v ≤ 0
  · exact ⟨0, hc, hm, by rw [if_pos c], fun j4 => by rw [if_pos th, if_pos c], r, rfl, rfl, dc_r hc, dm_r hm⟩
  · obtain ⟨x, v', a1, a2, a3⟩ := dr_sim r
    rw [if_neg c, show sT 68 = 1 from rfl, a1, bd2_e]
    by_cases d : v ≤ x
    · exact ⟨0, _, _, by rw [if_pos d], fun j4 => by rw [if_pos th, if_neg c, a2, bd2_e, if_pos d], a3, up_cell (by decide), up_oj (by decide), fun y y1 _ _ _ _ _ _ => up_cell y1, dm_up hm _ _⟩
    · exact ⟨1, _, _, by rw [if_neg d], fun j4 => by rw [if_pos th, if_neg c, a2, bd2_e, if_neg d], a3, up_cell (by decide), up_oj (by decide), fun y y1 _ _ _ _ _ _ => up_cell y1, dm_up hm _ _⟩
theorem w_0 {A : Nat → Prop} {H : Nat} {hc hm : PH} (t : TW A H hc hm) {i w : Nat} (hi : i < H) (hw : w < 4) : (hc 2 (11 * i + w) ≤ 0) = (hc 2 (11 * i + w) = 0) := by
  obtain ⟨k, k1, k2, ek⟩ := nat_of (t.2.2.2.2.2 i w hi hw) (by decide)
  rw [ek]
  apply propext
  by_cases z : k = 0
  · subst z
    exact ⟨fun _ => nI_0, fun _ => by decide⟩
  · exact ⟨fun y => absurd y (nI_nle (by omega) (by omega)), fun y => absurd y (nI_ne0 (by omega) (by omega))⟩
theorem gn_loop {B : BKT} {H b : Nat} {Ls : LNS} {hc hm : PH} {i : Nat} (hi : i < H) : ∀ (n w c : Nat) (gc gm : PH), 4 < n + w → w ≤ 4 → RTT AA H b Ls B gc gm → DC hc gc → DM hm gm → WD H hc gc → ∃ q gc' gm', (∀ k0, mS_gnaw_L4 68 (nI i) k0 n (nI c) (nI w) gc = k0 (nI q) gc') ∧ (∀ k0, mm_isGnawed_L4 (nI i) k0 n (nI c) (nI w) gm = k0 (nI q) gm') ∧ RTT AA H b Ls B gc' gm' ∧ DC hc gc' ∧ DM hm gm' ∧ WD H hc gc' := by
  intro n
  induction n with
  | zero => intro w c gc gm h1 h2; omega
  | succ n ih =>
    intro w c gc gm h1 h2 rr dc dm wd
    have t := rr.1
    have h12 := t.1
    by_cases c4 : w = 4
    · subst c4
      exact ⟨c, gc, gm, fun k0 => by rw [mS_gnaw_L4, if_pos (by decide)], fun k0 => by rw [mm_isGnawed_L4, if_pos (by decide)], rr, dc, dm, wd⟩
    · have hw : w < 4 := by omega
      have hw4 : ¬ (4 : Int32) ≤ nI w := nI_ge (b := 4) hw (by decide)
      by_cases z : gc 2 (11 * i + w) = 0
      · obtain ⟨q, gc', gm', a1, a2, a3⟩ := ih (w + 1) c gc gm (by omega) (by omega) rr dc dm wd
        refine ⟨q, gc', gm', fun k0 => ?_, fun k0 => ?_, a3⟩
        · rw [mS_gnaw_L4, if_neg hw4, show sT 68 = 1 from rfl, rdB t hi (by omega), bd_e, if_pos (by rw [w_0 t hi hw]; exact z), nI_1, a1]
        · rw [mm_isGnawed_L4, if_neg hw4, wlM t hi hw, bd_e, if_pos z, nI_1, a2]
      · obtain ⟨v, g1, g2, v1, v2, v3, v4, v5⟩ := te_gnaw rr.2.1 t hi hw
        have r1 := rt_law rr v4 v5
        obtain ⟨x, g3, g4, x1, x2, x3, x4, x4', x5, x6⟩ := rg_sim r1 v
        have dc3 : DC hc g3 := dc_t dc (dc_t (fun x _ _ _ _ x5 x6 x7 => v4 x x5 x6 x7) x5)
        have dm3 : DM hm g4 := dm_t dm (dm_t (fun x _ _ x3 x4 => v5 x x3 x4) x6)
        have e2 : g3 2 = gc 2 := by rw [x4, v4 2 (by decide) (by decide) (by decide)]
        have wd3 : WD H hc g3 := wd_t wd (wd_of e2 (by rw [x4', v4 1 (by decide) (by decide) (by decide)]))
        have cls : ∀ k0, mS_gnaw_L4 68 (nI i) k0 (n + 1) (nI c) (nI w) gc = if x = 0 then mS_gnaw_L4 68 (nI i) k0 n (nI c) (nI (w + 1)) g3 else bd2 (mB_thin 1 (nI i) (nI w) 1 g3) fun r6 h7 => lt (nI c + r6) fun x8 => mS_gnaw_L4 68 (nI i) k0 n x8 (nI (w + 1)) h7 := fun k0 => by
          rw [mS_gnaw_L4, if_neg hw4, show sT 68 = 1 from rfl, rdB t hi (by omega), bd_e, if_neg (by rw [w_0 t hi hw]; exact z), v2, bd2_e, x1, bd2_e, nI_1]
        have mdl : ∀ k0, mm_isGnawed_L4 (nI i) k0 (n + 1) (nI c) (nI w) gm = if x = 0 then mm_isGnawed_L4 (nI i) k0 n (nI c) (nI (w + 1)) g4 else bd (mm_wallOf (nI i) (nI w) g4) fun r7 => bd (mm_hasWall (nI i) (nI w) (r7 - 1) g4) fun h8 => lt (nI c + 1) fun x9 => mm_isGnawed_L4 (nI i) k0 n x9 (nI (w + 1)) h8 := fun k0 => by
          rw [mm_isGnawed_L4, if_neg hw4, wlM t hi hw, bd_e, if_neg z, v3, bd2_e, jn2_e, nI_1]
          exact x2 (fun (x5 : Int32) (h6 : PH) => if x5 = 0 then mm_isGnawed_L4 (nI i) k0 n (nI c) (nI (w + 1)) h6 else bd (mm_wallOf (nI i) (nI w) h6) fun r7 => bd (mm_hasWall (nI i) (nI w) (r7 - 1) h6) fun h8 => lt (nI c + 1) fun x9 => mm_isGnawed_L4 (nI i) k0 n x9 (nI (w + 1)) h8)
        by_cases x0 : x = 0
        · obtain ⟨q, gc', gm', a1, a2, a3⟩ := ih (w + 1) c g3 g4 (by omega) (by omega) x3 dc3 dm3 wd3
          exact ⟨q, gc', gm', fun k0 => by rw [cls, if_pos x0, a1], fun k0 => by rw [mdl, if_pos x0, a2], a3⟩
        · obtain ⟨k, k1, k2, k3, k4, k5⟩ := tn_sim x3.1 hi hw (n := 1) (by decide)
          have k0' : k ≠ 0 := fun y => z (by rw [← e2, k2, y]; rfl)
          rw [show min k 1 = 1 by omega] at k3
          have r2 := rt_wr x3 hi (c := w) (by omega) (by omega) (nI (k - 1)) (fun _ => ⟨by rw [nI_toInt (by omega)]; omega, by rw [nI_toInt (by omega)]; omega⟩)
          have hwm := k4 (g3 2 (11 * i + w) - 1) (by rw [k2]; rfl)
          obtain ⟨q, gc', gm', a1, a2, a3⟩ := ih (w + 1) (c + 1) _ _ (by omega) (by omega) r2 (dc_t dc3 (fun x _ x2 _ _ _ _ _ => up_cell x2)) (dm_t dm3 (dm_col g4 (mc105 (by omega) (by omega)) _)) (wd_t wd3 (wd_wr hw k2 (by omega)))
          refine ⟨q, gc', gm', fun k0 => ?_, fun k0 => ?_, a3⟩
          · rw [cls, if_neg x0, show mB_thin 1 (nI i) (nI w) 1 g3 = _ from k3, bd2_e, lt_e, show nI c + nI 1 = nI (c + 1) from nI_add c 1, a1]
          · rw [mdl, if_neg x0, wlM x3.1 hi hw, bd_e, hwm, bd_e, lt_e, nI_1, a2]
/-- a house is gnawed -/
theorem gn_sim {B : BKT} {H b : Nat} {Ls : LNS} {hc hm : PH} (r : RTT AA H b Ls B hc hm) {i : Nat} (hi : i < H) : ∃ gc gm, mS_gnaw 68 (nI i) hc = some gc ∧ mm_isGnawed (nI i) hm = some gm ∧ RTT AA H b Ls B gc gm ∧ DC hc gc ∧ DM hm gm ∧ WD H hc gc := by
  obtain ⟨q, g3, g4, q1, q2, q3, q4, q5, q6⟩ := gn_loop (hc := hc) (hm := hm) hi FU 0 0 hc hm (by unfold FU; omega) (by decide) r (dc_r hc) (dm_r hm) (wd_r H hc)
  rw [nI_0] at q1 q2
  have e5 : g3 1 5 = g4 105 6 := q3.1.2.2.2.1 5 (by decide) (by decide)
  have r5 : RTT AA H b Ls B (up g3 1 5 (g3 1 5 + nI q)) (up g4 105 6 (g3 1 5 + nI q)) := rt_f q3 (f := 5) (by decide) (by decide) _
  obtain ⟨g7, g8, n1, n2, n3, n4, n5⟩ := na_sim r5 2 (nI i) (nI q)
  have c6 : ∀ (z : Option PH), ck 6 115 z = z := fun z => ck_nI (i := 6) (by decide) (by decide)
  refine ⟨g7, g8, ?_, ?_, n3, dc_t q4 (dc_t (fun x x1 _ _ _ _ _ _ => up_cell x1) (fun x _ _ x3 x4 _ _ _ => n4 x x3 x4)), dm_t q5 (dm_t (dm_up g4 _ _) n5), fun k w hk hw => ?_, by rw [n4 1 (by decide) (by decide), up_oj (by decide)]; exact q6.2⟩
  · unfold mS_gnaw
    rw [show sT 68 = 1 from rfl, q1, lt_e, n1, bd_e]
  · unfold mm_isGnawed
    rw [q2, c6, c6, lt_e, show ix (6 : Int32) = 6 from rfl, ← e5]
    exact ifn n2 (fun h => some h)
  · rw [n4 2 (by decide) (by decide), up_cell (by decide)]
    exact q6.1 k w hk hw
theorem v_less : ∀ k, k < 100 → ∀ n, n < 100 → (if nI n ≤ nI k then nI n else nI k) = nI (min k n) := by decide +kernel
theorem le_sim {k n : Nat} (hk : k < 100) (hn : n < 100) (h : PH) : mm_lesser (nI k) (nI n) h = some (nI (min k n)) := by
  rw [← v_less k hk n hn]
  unfold mm_lesser
  split <;> rfl
theorem mt_loop {B : BKT} {H b : Nat} {Ls : LNS} {hc hm : PH} {i : Nat} (hi : i < H) : ∀ (n w c : Nat) (gc gm : PH), 4 < n + w → w ≤ 4 → gc 1 3 = 0 → RTT AA H b Ls B gc gm → DC hc gc → DM hm gm → WD H hc gc → ∃ q gc' gm', (∀ k0, mS_melt_L15 68 (nI i) k0 n (nI c) (nI w) gc = k0 (nI q) gc') ∧ (∀ k0, mm_doesMelt_L4 (nI i) k0 n (nI c) (nI w) gm = k0 (nI q) gm') ∧ RTT AA H b Ls B gc' gm' ∧ DC hc gc' ∧ DM hm gm' ∧ WD H hc gc' := by
  intro n
  induction n with
  | zero => intro w c gc gm h1 h2; omega
  | succ n ih =>
    intro w c gc gm h1 h2 fr rr dc dm wd
    have t := rr.1
    have h12 := t.1
    have e4 : gm 105 4 = 0 := by rw [← fr]; exact (t.2.2.2.1 3 (by decide) (by decide)).symm
    have c4' : ∀ (z : Option PH), ck 4 115 z = z := fun z => ck_nI (i := 4) (by decide) (by decide)
    by_cases c4 : w = 4
    · subst c4
      exact ⟨c, gc, gm, fun k0 => by rw [mS_melt_L15, if_pos (by decide)], fun k0 => by rw [mm_doesMelt_L4, if_pos (by decide)], rr, dc, dm, wd⟩
    · have hw : w < 4 := by omega
      have hw4 : ¬ (4 : Int32) ≤ nI w := nI_ge (b := 4) hw (by decide)
      by_cases z : gc 2 (11 * i + w) = 0
      · obtain ⟨q, gc', gm', a1, a2, a3⟩ := ih (w + 1) c gc gm (by omega) (by omega) fr rr dc dm wd
        have hw0 : mm_hasWall (nI i) (nI w) (gc 2 (11 * i + w) - 0) gm = some gm := by
          rw [hwC t hi hw, z, show hl ((0 : Int32) - 0) = 0 by decide, up_id]
          have := t.2.2.2.2.1 i w hi (by omega) (fun y => by omega)
          rw [z] at this
          exact this.symm
        refine ⟨q, gc', gm', fun k0 => ?_, fun k0 => ?_, a3⟩
        · rw [mS_melt_L15, if_neg hw4, show sT 68 = 1 from rfl, rdB t hi (by omega), bd_e, if_pos (by rw [w_0 t hi hw]; exact z), nI_1, a1]
        · rw [mm_doesMelt_L4, if_neg hw4, c4', show ix (4 : Int32) = 4 from rfl, if_pos e4, wlM t hi hw, bd_e, jn2_e, if_pos z]
          change (bd (mm_wallOf (nI i) (nI w) gm) fun r5 => bd (mm_hasWall (nI i) (nI w) (r5 - 0) gm) fun h6 => lt (nI c + 0) fun x7 => mm_doesMelt_L4 (nI i) k0 n x7 (nI w + 1) h6) = _
          rw [wlM t hi hw, bd_e, hw0, bd_e, lt_e, Int32.add_zero, nI_1, a2]
      · obtain ⟨v, g1, g2, v1, v2, v3, v4, v5⟩ := te_melt rr.2.1 t hi hw
        obtain ⟨N, N1, N2, eN⟩ := nat_of v1 (by decide)
        subst eN
        have r1 := rt_law rr v4 v5
        have e2 : g1 2 = gc 2 := v4 2 (by decide) (by decide) (by decide)
        have dc3 : DC hc g1 := dc_t dc (fun x _ _ _ _ x5 x6 x7 => v4 x x5 x6 x7)
        have dm3 : DM hm g2 := dm_t dm (fun x _ _ x3 x4 => v5 x x3 x4)
        have wd3 : WD H hc g1 := wd_t wd (wd_of e2 (by rw [v4 1 (by decide) (by decide) (by decide)]))
        obtain ⟨k, k1, k2, k3, k4, k5⟩ := tn_sim r1.1 hi hw (n := N) (by omega)
        have kc : gc 2 (11 * i + w) = nI k := by rw [← e2]; exact k2
        have r2 := rt_wr r1 hi (c := w) (by omega) (by omega) (nI (k - N)) (fun _ => ⟨by rw [nI_toInt (by omega)]; omega, by rw [nI_toInt (by omega)]; omega⟩)
        have hwm : mm_hasWall (nI i) (nI w) (nI k - nI (min k N)) g2 = some (up g2 (mc w) (mi i w) (nI (k - N))) := by
          rw [hwC r1.1 hi hw, nI_sub (show min k N ≤ k by omega), show k - min k N = k - N by omega]
          have : ∀ x, x < 100 → hl (nI x) = nI x := by decide +kernel
          rw [this _ (by omega)]
        obtain ⟨q, gc', gm', a1, a2, a3⟩ := ih (w + 1) (c + min k N) _ _ (by omega) (by omega) (by rw [up_oc (by decide), v4 1 (by decide) (by decide) (by decide)]; exact fr) r2 (dc_t dc3 (fun x _ x2 _ _ _ _ _ => up_cell x2)) (dm_t dm3 (dm_col g2 (mc105 (by omega) (by omega)) _)) (wd_t wd3 (wd_wr hw k2 (by omega)))
        refine ⟨q, gc', gm', fun k0 => ?_, fun k0 => ?_, a3⟩
        · rw [mS_melt_L15, if_neg hw4, show sT 68 = 1 from rfl, rdB t hi (by omega), bd_e, if_neg (by rw [w_0 t hi hw]; exact z), v2, bd2_e, k3, bd2_e, lt_e, nI_add, nI_1, a1]
        · rw [mm_doesMelt_L4, if_neg hw4, c4', show ix (4 : Int32) = 4 from rfl, if_pos e4, wlM t hi hw, bd_e, jn2_e, if_neg z, bd_e, v3, bd2_e, kc, le_sim (by omega) (by omega), bd_e]
          change (bd (mm_wallOf (nI i) (nI w) g2) fun r5 => bd (mm_hasWall (nI i) (nI w) (r5 - nI (min k N)) g2) fun h6 => lt (nI c + nI (min k N)) fun x7 => mm_doesMelt_L4 (nI i) k0 n x7 (nI w + 1) h6) = _
          rw [wlM r1.1 hi hw, bd_e, k2, hwm, bd_e, lt_e, nI_add, nI_1, a2]
/-- a house melts -/
theorem mt_sim {B : BKT} {H b : Nat} {Ls : LNS} {hc hm : PH} (r : RTT AA H b Ls B hc hm) {i : Nat} (hi : i < H) : ∃ gc gm, mS_melt 68 (nI i) hc = some gc ∧ mm_doesMelt (nI i) hm = some gm ∧ RTT AA H b Ls B gc gm ∧ DC hc gc ∧ DM hm gm ∧ WD H hc gc := by
  have e4 : hc 1 3 = hm 105 4 := r.1.2.2.2.1 3 (by decide) (by decide)
  have c4' : ∀ (z : Option PH), ck 4 115 z = z := fun z => ck_nI (i := 4) (by decide) (by decide)
  unfold mS_melt mm_doesMelt
  rw [show sT 68 = 1 from rfl]
  by_cases f : hc 1 3 = 0
  · obtain ⟨q, g3, g4, q1, q2, q3, q4, q5, q6⟩ := mt_loop (hc := hc) (hm := hm) hi FU 0 0 hc hm (by unfold FU; omega) (by decide) f r (dc_r hc) (dm_r hm) (wd_r H hc)
    rw [nI_0] at q1 q2
    obtain ⟨g7, g8, n1, n2, n3, n4, n5⟩ := na_sim q3 3 (nI i) (nI q)
    rw [if_pos f, q1, q2]
    refine ⟨g7, g8, by rw [n1, bd_e], ifn n2 (fun h => some h), n3, dc_t q4 (fun x _ _ x3 x4 _ _ _ => n4 x x3 x4), dm_t q5 n5, fun k w hk hw => ?_, by rw [n4 1 (by decide) (by decide)]; exact q6.2⟩
    rw [n4 2 (by decide) (by decide)]
    exact q6.1 k w hk hw
  · refine ⟨hc, hm, by rw [if_neg f], ?_, r, dc_r hc, dm_r hm, wd_r H hc⟩
    rw [show FU = 99999 + 1 from rfl, mm_doesMelt_L4, if_neg (by decide), c4', show ix (4 : Int32) = 4 from rfl, if_neg (by rw [← e4]; exact f), if_pos (by decide)]
