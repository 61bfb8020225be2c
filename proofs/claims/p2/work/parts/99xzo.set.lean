/-! THE CALLS house and set -/
theorem tw_house (k : Nat) (a1 a2 a3 : Int32) (h : PH) (i : IM h) (t : TWN k h) (hk : k < 512) {rX rm : Int32} {h1 h2 : PH} (e1 : mX_house a1 a2 a3 h = some (rX, h1)) (e2 : mm_house a1 a2 a3 h1 = some (rm, h2)) (cs : CS h h1 h2) : TWN (k + 1) h2 := by
  have xx := cs.2.2.2.1
  have ss := cs.2.2.2.2
  obtain ⟨t1, t2, t3, ⟨H, N, M, u, s, Ls, t4, t5⟩, t6⟩ := id t
  have h12 : H ≤ 12 := t4.1.1.1
  have eH : h 1 1 = nI H := t4.1.1.2.1
  have eM : up h1 104 0 0 104 6 = nI H := by rw [up_oj (by decide), xx 104 (by decide)]; exact t4.1.1.2.2.1
  unfold mX_house at e1
  unfold mm_house at e2
  rw [lt_e] at e2
  by_cases f1 : 0 ≤ a1 ∧ a1 ≤ 99
  · by_cases f2 : 0 ≤ a2 ∧ a2 ≤ 9
    · by_cases f3 : 0 ≤ a3 ∧ a3 ≤ 9
      · rw [within_y f1, bd_e, jn1_e, if_neg no10, within_y f2, bd_e, if_neg no10, within_y f3, bd_e, if_neg no10] at e1
        rw [isIn_y f1, bd_e, if_neg no10, isIn_y f2, bd_e, if_neg no10, isIn_y f3, bd_e, if_neg no10, eM] at e2
        change (if (1 : Int32) = 0 then some (-1, h) else if (h 1 1) < 12 then bd (mP_forget h) fun h4 => bd2 (mB_build 1 a1 a2 a3 h4) fun r5 h6 => some (r5, h6) else some (-1, h)) = some (rX, h1) at e1
        rw [if_neg no10, eH] at e1
        by_cases c : H = 12
        · rw [if_neg (by rw [c]; decide)] at e1
          rw [if_pos (by rw [c]; rfl)] at e2
          cases e1
          cases e2
          exact twn_id t hk rfl
        · have hH : H < 12 := by omega
          rw [if_pos (show nI H < (12 : Int32) from nI_lt (b := 12) hH (by decide)), show mP_forget h = some (up h 70 3 0) from rfl, bd_e, bu_c hH (show up h 70 3 0 1 1 = nI H by rw [up_oc (by decide)]; exact eH) a1 a2 a3, bd2_e] at e1
          rw [if_neg (show ¬ nI H = (12 : Int32) from fun z => c ((nI_eq (b := 12) (by omega) (by decide)).mp z)), bu_m hH eM a1 a2 a3] at e2
          have e1' := (Prod.mk.inj (Option.some.inj e1)).2
          have e2' := (Prod.mk.inj (Option.some.inj e2)).2
          have t4' : TNt H N M (1000 * k) Ls (up h 70 3 0) (up h1 104 0 0) := tn_tr (tn_in xx t4) (fun x hx => up_cell (by omega)) (fun _ _ => rfl) (fun _ _ => rfl) (fun _ _ => rfl)
          have tn := hs_tn t4' hH (by omega) (rng_of (x := 0) (y := 99) rfl rfl f1) a2 a3
          rw [e1', e2'] at tn
          have co : ∀ x, x ≠ 1 → x ≠ 2 → x < 104 → h2 x = up h 70 3 0 x := fun x x1 x2 x3 => by
            rw [ss x x3, ← e1']
            funext j
            rw [wg_o _ _ _ _ (fun c _ => Or.inl x2), up_oc x1]
          have c1 : ∀ j, j ≠ 1 → h2 1 j = h 1 j := fun j hj => by
            rw [ss 1 (by decide), ← e1', wg_o _ _ _ _ (fun c _ => Or.inl (show 1 ≠ 2 by decide)), up_oj hj, up_oc (by decide)]
          have mr := fun c (hc : c < 11) => mi_r H (by omega) c hc
          have mo : ∀ x, x ≠ 105 → x ≠ 108 → x ≠ 109 → WG (qM H) (vv a1 a2 a3) l11m (up h1 104 0 0) x = up h1 104 0 0 x := fun x x1 x2 x3 => by
            funext j
            exact wg_o _ _ _ _ (fun c hc => Or.inl (show x ≠ mc c by have := (mr c ((l11_lt c).2 hc)).2.2; omega))
          have m4 : ∀ j, j ≠ 0 → j ≠ 3 → j ≠ 6 → h2 104 j = h 104 j := fun j j0 j3 j6 => by
            rw [← e2', up_oj j3, up_oj j6, mo 104 (by decide) (by decide) (by decide), up_oj j0, xx 104 (by decide)]
          refine ⟨by omega, fun x hx => ?_, ?_, ⟨H + 1, N, M, 0, s, Ls, tn_mono (tn_one ss (fun _ _ => rfl) tn) (by omega) (by omega), pk_0 t5.2.1 ?_ ?_ ?_⟩, fun nz => tni_st t hk i.1 (fun x hx => ?_) (m4 72 (by decide) (by decide) (by decide)) (m4 5 (by decide) (by decide) (by decide)) ?_ nz⟩
          · by_cases z : x = 1
            · rw [z, c1 6 (by decide)]; exact t2 1 (Or.inl rfl)
            · have : x ≠ 2 ∧ x < 104 ∧ x ≠ 70 := by
                rcases hx with y | y | ⟨e, y1, y2⟩ <;> omega
              rw [co x z this.1 this.2.1, up_cell this.2.2]
              exact t2 x hx
          · rw [co 69 (by decide) (by decide) (by decide), up_oc (by decide)]; exact t3
          · rw [co 70 (by decide) (by decide) (by decide), up_oj (by decide)]; exact t5.2.2.1
          · rw [co 70 (by decide) (by decide) (by decide), up_same]
          · rw [← e2', up_same]
          · rw [co x (by omega) (by omega) (by omega), up_cell (by omega)]
          · rw [← e2', up_cell (by decide), up_cell (by decide), mo 148 (by decide) (by decide) (by decide), up_cell (by decide), xx 148 (by decide)]
      · rw [within_y f1, bd_e, jn1_e, if_neg no10, within_y f2, bd_e, if_neg no10, within_n f3, bd_e, if_pos rfl] at e1
        rw [isIn_y f1, bd_e, if_neg no10, isIn_y f2, bd_e, if_neg no10, isIn_n f3, bd_e, if_pos rfl] at e2
        cases e1
        cases e2
        exact twn_id t hk rfl
    · rw [within_y f1, bd_e, jn1_e, if_neg no10, within_n f2, bd_e, if_pos rfl] at e1
      rw [isIn_y f1, bd_e, if_neg no10, isIn_n f2, bd_e, if_pos rfl] at e2
      cases e1
      cases e2
      exact twn_id t hk rfl
  · rw [within_n f1, bd_e, jn1_e, if_pos rfl] at e1
    rw [isIn_n f1, bd_e, if_pos rfl] at e2
    cases e1
    cases e2
    exact twn_id t hk rfl
/-- lodgers are set -/
theorem rt_w7 {B : BKT} {A : Nat → Prop} {H b : Nat} {Ls : LNS} {hc hm : PH} (r : RTT A H b Ls B hc hm) {i : Nat} (hi : i < H) {v : Int32} (hv : R 0 99 v) (hb : b + 99 < 1000000) : RTT A H (b + 99) Ls B (up hc 2 (11 * i + 7) v) (up hm 105 (79 + i) v) := by
  have r' := rt_mono r (b' := b + 99) (by omega) hb
  have ld := r.2.2.2.2.2.2
  refine rt_of r' (tb_wr r.1 hi (c := 7) (by decide) v (fun z => by omega)) (bk_of r.2.2.1 (up_cell (by decide)) (up_cell (by decide)) (up_oj (by omega)) (up_cell (by decide))) ⟨fun j hj => ?_, ?_, hb⟩ (fun x _ x2 _ _ _ _ _ => up_cell x2) (fun x x1 _ _ _ => up_cell x1)
  · by_cases z : j = i
    · rw [z, up_same]; exact hv.1
    · rw [up_oj (by omega)]; exact ld.1 j hj
  · rw [lsm_up H hi]
    have a := ld.1 i hi
    have b := ld.2.1
    have c := hv.2
    omega
/-- after what was set: the past is forgotten -/
theorem twn_st {k H N M : Nat} {Ls : LNS} {h h1 h2 gc gm : PH} (t : TWN k h) (hk : k < 512) (i : Inv h) {u s : Nat} (t4 : TNt H N M (1000 * k) Ls h h) (t5 : PK H (1000 * k) Ls u s h h) (xx : ∀ b, 104 ≤ b → h1 b = h b) (ss : ∀ b, b < 104 → h2 b = h1 b) (r : RTT AA H (1000 * (k + 1)) Ls B0 gc gm) (eg : h1 = up gc 70 3 0) (em : h2 = up gm 104 3 0) (c : ∀ x, x ≠ 1 → x ≠ 2 → gc x = h x) (c6 : gc 1 6 = h 1 6) (m : ∀ x, x ≠ 105 → x ≠ 108 → x ≠ 109 → gm x = up h1 104 0 0 x) : TWN (k + 1) h2 := by
  have co : ∀ x, x ≠ 70 → x < 104 → h2 x = gc x := fun x x1 x2 => by rw [ss x x2, eg, up_cell x1]
  have m4 : ∀ j, j ≠ 3 → h2 104 j = gm 104 j := fun j hj => by rw [em, up_oj hj]
  have mo : ∀ x, 105 ≤ x → h2 x = gm x := fun x hx => by rw [em, up_cell (by omega)]
  have tt := tn_in xx t4
  have g4 := m 104 (by decide) (by decide) (by decide)
  have r2 : RTT AA H (1000 * (k + 1)) Ls B0 h2 h2 := rt_tr r (fun x hx => co x (by omega) (by omega)) (fun j hj => m4 j (by omega)) (fun j hj => by rw [mo 105 (by decide)]) (fun x hx => mo x (by omega))
  refine ⟨by omega, fun x hx => ?_, ?_, ⟨H, N, M, 0, s, Ls, ⟨r2, ?_, ?_, ?_⟩, pk_0 t5.2.1 ?_ ?_ ?_⟩, fun nz => tni_st t hk i (fun x hx => ?_) ?_ ?_ ?_ nz⟩
  · have y : x ≠ 70 ∧ x < 104 ∧ x ≠ 2 := by
      rcases hx with y | y | ⟨e, y1, y2⟩ <;> omega
    rw [co x y.1 y.2.1]
    by_cases z : x = 1
    · rw [z, c6]; exact t.2.1 1 (Or.inl rfl)
    · rw [c x z y.2.2]; exact t.2.1 x hx
  · rw [co 69 (by decide) (by decide), c 69 (by decide) (by decide)]; exact t.2.2.1
  · exact sk_of tt.2.1 (by rw [co 10 (by decide) (by decide), c 10 (by decide) (by decide)]) (by rw [co 11 (by decide) (by decide), c 11 (by decide) (by decide)]) (by rw [m4 33 (by decide), g4]) (by rw [mo 121 (by decide), m 121 (by decide) (by decide) (by decide)])
  · exact of_of tt.2.2.1 (by rw [co 12 (by decide) (by decide), c 12 (by decide) (by decide)]) (by rw [co 13 (by decide) (by decide), c 13 (by decide) (by decide)]) (by rw [m4 35 (by decide), g4]) (by rw [mo 122 (by decide), m 122 (by decide) (by decide) (by decide)])
  · rw [co 14 (by decide) (by decide), c 14 (by decide) (by decide), m4 37 (by decide), g4]; exact tt.2.2.2
  · rw [ss 70 (by decide), eg, up_oj (by decide), c 70 (by decide) (by decide)]; exact t5.2.2.1
  · rw [ss 70 (by decide), eg, up_same]
  · rw [em, up_same]
  · rw [co x (by omega) (by omega), c x (by omega) (by omega)]
  · rw [m4 72 (by decide), g4, up_oj (by decide), xx 104 (by decide)]
  · rw [m4 5 (by decide), g4, up_oj (by decide), xx 104 (by decide)]
  · rw [mo 148 (by decide), m 148 (by decide) (by decide) (by decide), up_cell (by decide), xx 148 (by decide)]
theorem tw_set (k : Nat) (a1 a2 a3 : Int32) (h : PH) (i : IM h) (t : TWN k h) (hk : k < 512) {rX rm : Int32} {h1 h2 : PH} (e1 : mX_set a1 a2 a3 h = some (rX, h1)) (e2 : mm_set a1 a2 a3 h1 = some (rm, h2)) (cs : CS h h1 h2) : TWN (k + 1) h2 := by
  have xx := cs.2.2.2.1
  have ss := cs.2.2.2.2
  obtain ⟨t1, t2, t3, ⟨H, N, M, u, s, Ls, t4, t5⟩, t6⟩ := id t
  have h12 : H ≤ 12 := t4.1.1.1
  have tt := tn_in xx t4
  unfold mX_set at e1
  unfold mm_set mm_canSet at e2
  rw [lt_e] at e2
  rw [jn1_e] at e1
  by_cases c8 : a1 = 8
  · subst c8
    rw [if_pos rfl] at e1
    rw [if_pos rfl] at e2
    by_cases f : 0 ≤ a3 ∧ a3 ≤ 9
    · rw [within_y f, bd_e, if_neg no10, lt_e] at e1
      rw [isIn_y f, bd_e, bd_e, show nb (1 : Int32) = 1 from rfl, if_neg no10] at e2
      simp only [jn1_e] at e2
      have c3 : ∀ (z : Option (Int32 × PH)), ck 3 115 z = z := fun z => ck_nI (i := 3) (by decide) (by decide)
      rw [if_pos (show (4 : Int32) ≤ 8 by decide), if_neg (show ¬ (8 : Int32) = 4 by decide), if_neg (show ¬ (8 : Int32) = 5 by decide), if_neg (show ¬ (8 : Int32) = 6 by decide), if_neg (show ¬ (8 : Int32) = 7 by decide)] at e2
      have e2b : (ck 3 115 <| lt (up (up h1 104 0 0) 105 (ix 3) a3) fun h16 => lt (up h16 104 3 0) fun h15 => some ((1 : Int32), h15)) = some (rm, h2) := by
        rcases ite_or e2 with ⟨_, q⟩ | ⟨q, _⟩
        · exact q
        · exact absurd (by first | rfl | trivial) q
      rw [c3, lt_e, lt_e, show ix (3 : Int32) = 3 from rfl] at e2b
      change (bd (mP_forget (up h 1 2 a3)) fun h3 => some ((1 : Int32), h3)) = some (rX, h1) at e1
      rw [show mP_forget (up h 1 2 a3) = some (up (up h 1 2 a3) 70 3 0) from rfl, bd_e] at e1
      have e1' := (Prod.mk.inj (Option.some.inj e1)).2
      have e2' := (Prod.mk.inj (Option.some.inj e2b)).2
      exact twn_st t hk i.1 t4 t5 xx ss (rt_mono (rt_f tt.1 (f := 2) (by decide) (by decide) a3) (by omega) (by omega)) e1'.symm e2'.symm (fun x x1 _ => up_cell x1) (up_oj (by decide)) (fun x x1 _ _ => up_cell x1)
    · rw [within_n f, bd_e, if_pos rfl] at e1
      rw [isIn_n f, bd_e, bd_e, show nb (0 : Int32) = 0 from rfl, if_pos rfl] at e2
      cases e1
      cases e2
      exact twn_id t hk rfl
  · rw [if_neg c8] at e1
    rw [if_neg c8] at e2
    by_cases f : 0 ≤ a1 ∧ a1 ≤ 7
    · rw [within_y f, bd_e, if_neg no10] at e1
      rw [isIn_y f, bd_e, if_neg no10, hs_m h (up h1 104 0 0) H t4.1.1.2.1 tt.1.1.2.2.1 a2] at e2
      rcases hs_c h H t4.1.1.2.1 h12 a2 with ⟨j, hj, ej, hh⟩ | ⟨_, hh⟩
      · rw [hh, bd_e, if_neg no10] at e1
        rw [hh, bd_e, if_neg no10] at e2
        obtain ⟨c, cx, c2, ec⟩ := nat_of (rng_of (x := 0) (y := 7) rfl rfl f) (by decide)
        have hc : c < 8 := by omega
        subst ec ej
        have most : ∃ m, m ≤ 99 ∧ mX_mostToSet (nI c) h = some (nI m) ∧ ∀ (K : Int32 → Option Int32), (bd (mm_isIn (nI c) 4 6 (up h1 104 0 0)) fun r4 => jn1 K fun j5 => if r4 = 0 then j5 99 else j5 9) = K (nI m) := by
          by_cases z : c < 4 ∨ c = 7
          · refine ⟨99, by decide, ?_, fun K => ?_⟩
            · unfold mX_mostToSet
              rcases z with z | z
              · rw [if_pos (show nI c < (4 : Int32) from nI_lt (b := 4) z (by decide))]; rfl
              · rw [z]; rfl
            · rw [isIn_n (fun y => ?_), bd_e, jn1_e, if_pos rfl]
              · rfl
              · have y1 : 4 ≤ c := (nI_leI (a := 4) (by decide) (by omega)).mp y.1
                have y2 : c ≤ 6 := (nI_leI (b := 6) (by omega) (by decide)).mp y.2
                omega
          · refine ⟨9, by decide, ?_, fun K => ?_⟩
            · unfold mX_mostToSet
              rw [if_neg (show ¬ nI c < (4 : Int32) from fun y => absurd (nI_le (a := 4) (b := c) (by omega) (by omega)) (Int32.not_le.mpr y)), if_neg (show ¬ nI c = (7 : Int32) from fun y => z (Or.inr ((nI_eq (b := 7) (by omega) (by decide)).mp y)))]
              rfl
            · rw [isIn_y (show (4 : Int32) ≤ nI c ∧ nI c ≤ 6 from ⟨nI_le (a := 4) (by omega) (by omega), nI_le (b := 6) (by omega) (by decide)⟩), bd_e, jn1_e, if_neg no10]
              rfl
        obtain ⟨m, m1, m2, m3⟩ := most
        rw [m2, bd_e] at e1
        rw [m3] at e2
        have m99 : (nI m).toInt = m := nI_toInt (by omega)
        by_cases g : 0 ≤ a3 ∧ a3 ≤ nI m
        · have rv : R 0 99 a3 := by
            have := rng_of (x := 0) (y := (m : Int)) rfl m99 g
            exact ⟨this.1, by have := this.2; omega⟩
          rw [within_y g, bd_e, if_neg no10, wrB t4.1.1 hj (show c < 11 by omega) a3, bd_e] at e1
          rw [isIn_y g, bd_e, if_neg no10, bd_e, if_neg no10] at e2
          change (bd (mP_forget (up h 2 (11 * j + c) a3)) fun h3 => some ((1 : Int32), h3)) = some (rX, h1) at e1
          rw [show mP_forget (up h 2 (11 * j + c) a3) = some (up (up h 2 (11 * j + c) a3) 70 3 0) from rfl, bd_e] at e1
          have e1' := (Prod.mk.inj (Option.some.inj e1)).2
          simp only [jn1_e] at e2
          have e2' : up (up (up h1 104 0 0) (mc c) (mi j c) a3) 104 3 0 = h2 := by
            have n8 : ∀ d, d ≠ c → d < 100 → ¬ nI c = nI d := fun d hd hd2 y => hd ((nI_eq (by omega) (by omega)).mp y).symm
            have n4 := fun (z : c ≠ 4) => (show ¬ nI c = (4 : Int32) from n8 4 (Ne.symm z) (by decide))
            have n5 := fun (z : c ≠ 5) => (show ¬ nI c = (5 : Int32) from n8 5 (Ne.symm z) (by decide))
            have n6 := fun (z : c ≠ 6) => (show ¬ nI c = (6 : Int32) from n8 6 (Ne.symm z) (by decide))
            have n7 := fun (z : c ≠ 7) => (show ¬ nI c = (7 : Int32) from n8 7 (Ne.symm z) (by decide))
            have n8' := (show ¬ nI c = (8 : Int32) from n8 8 (by omega) (by decide))
            by_cases w4 : c < 4
            · rw [if_neg (show ¬ (4 : Int32) ≤ nI c from nI_ge (b := 4) w4 (by decide)), hwM tt.1.1 hj w4 a3 rv, bd_e, if_neg (n4 (by omega)), if_neg (n5 (by omega)), if_neg (n6 (by omega)), if_neg (n7 (by omega)), if_neg n8', lt_e] at e2
              exact (Prod.mk.inj (Option.some.inj e2)).2
            · rw [if_pos (show (4 : Int32) ≤ nI c from nI_le (a := 4) (by omega) (by omega))] at e2
              have cc : c = 4 ∨ c = 5 ∨ c = 6 ∨ c = 7 := by omega
              rcases cc with z | z | z | z
              · rw [if_pos (show nI c = (4 : Int32) by rw [z]; rfl), ck_nI (show j < 12 by omega) (by decide), lt_e, show ix (nI j) = j from nI_clamp (by omega), if_neg (n5 (by omega)), if_neg (n6 (by omega)), if_neg (n7 (by omega)), if_neg n8', lt_e] at e2
                rw [z]
                exact (Prod.mk.inj (Option.some.inj e2)).2
              · rw [if_neg (n4 (by omega)), if_pos (show nI c = (5 : Int32) by rw [z]; rfl), ck_nI (show j < 12 by omega) (by decide), lt_e, show ix (nI j) = j from nI_clamp (by omega), if_neg (n6 (by omega)), if_neg (n7 (by omega)), if_neg n8', lt_e] at e2
                rw [z]
                exact (Prod.mk.inj (Option.some.inj e2)).2
              · rw [if_neg (n4 (by omega)), if_neg (n5 (by omega)), if_pos (show nI c = (6 : Int32) by rw [z]; rfl), show (55 : Int32) + nI j = nI (55 + j) from nI_add 55 j, ck_nI (show 55 + j < 115 by omega) (by decide), lt_e, show ix (nI (55 + j)) = 55 + j from nI_clamp (by omega), if_neg (n7 (by omega)), if_neg n8', lt_e] at e2
                rw [z]
                exact (Prod.mk.inj (Option.some.inj e2)).2
              · rw [if_neg (n4 (by omega)), if_neg (n5 (by omega)), if_neg (n6 (by omega)), if_pos (show nI c = (7 : Int32) by rw [z]; rfl), show (79 : Int32) + nI j = nI (79 + j) from nI_add 79 j, ck_nI (show 79 + j < 115 by omega) (by decide), lt_e, show ix (nI (79 + j)) = 79 + j from nI_clamp (by omega), if_neg n8', lt_e] at e2
                rw [z]
                exact (Prod.mk.inj (Option.some.inj e2)).2
          have mcr := (mi_r j (by omega) c (by omega)).2.2
          have r2 : RTT AA H (1000 * (k + 1)) Ls B0 (up h 2 (11 * j + c) a3) (up (up h1 104 0 0) (mc c) (mi j c) a3) := by
            by_cases z : c = 7
            · subst z
              exact rt_mono (rt_w7 tt.1 hj rv (by omega)) (by omega) (by omega)
            · exact rt_mono (rt_wr tt.1 hj (c := c) (by omega) z a3 (fun _ => rv)) (by omega) (by omega)
          exact twn_st t hk i.1 t4 t5 xx ss r2 e1'.symm e2'.symm (fun x _ x2 => up_cell x2) (up_oc (by decide)) (fun x x1 x2 x3 => up_cell (by omega))
        · rw [within_n g, bd_e, if_pos rfl] at e1
          rw [isIn_n g, bd_e, if_pos rfl, bd_e, if_pos rfl] at e2
          cases e1
          cases e2
          exact twn_id t hk rfl
      · rw [hh, bd_e, if_pos rfl] at e1
        rw [hh, bd_e, if_pos rfl, bd_e, if_pos rfl] at e2
        cases e1
        cases e2
        exact twn_id t hk rfl
    · rw [within_n f, bd_e, if_pos rfl] at e1
      rw [isIn_n f, bd_e, if_pos rfl, bd_e, if_pos rfl] at e2
      cases e1
      cases e2
      exact twn_id t hk rfl
