/-! ACTS by hand: both sides -/
theorem hs_c (h : PH) (H : Nat) (e : h 1 1 = nI H) (hH : H ≤ 12) (p : Int32) : (∃ i, i < H ∧ p = nI i ∧ mB_has 1 p h = some 1) ∨ ((∀ i, i < H → p ≠ nI i) ∧ mB_has 1 p h = some 0) := by
  unfold mB_has
  rw [e]
  by_cases c : p < 0
  · rw [if_pos c]
    exact Or.inr ⟨fun i hi z => absurd (by rw [← z]; exact c) (nI_pos (n := i) (by omega)), rfl⟩
  · rw [if_neg c]
    by_cases d : nI H ≤ p
    · rw [if_pos d]
      exact Or.inr ⟨fun i hi z => absurd (by rw [z] at d; exact d) (nI_ge (a := i) (b := H) hi (by omega)), rfl⟩
    · rw [if_neg d]
      rw [Int32.lt_iff_toInt_lt] at c
      rw [Int32.le_iff_toInt_le, nI_toInt (show H < 2 ^ 31 by omega)] at d
      have z0 : (0 : Int32).toInt = 0 := rfl
      obtain ⟨k, k1, k2, ek⟩ := nat_of (a := 0) (b := 12) (x := p) ⟨by omega, by omega⟩ (by decide)
      rw [ek, nI_toInt k2] at d
      exact Or.inl ⟨k, by omega, ek, rfl⟩
theorem hs_m (h g : PH) (H : Nat) (e : h 1 1 = nI H) (e6 : g 104 6 = nI H) (p : Int32) : mm_isHouse p g = mB_has 1 p h := by
  unfold mm_isHouse mB_has
  rw [e, e6]
theorem nb_01 {x : Int32} (h : x = 0 ∨ x = 1) : nb x = x := by
  rcases h with e | e <;> rw [e] <;> rfl
theorem nb_up (h : PH) (i : Nat) : nb (upI h i) = upI h i := nb_01 (by unfold upI; split <;> simp)
/-- what may be done -/
def AK (H : Nat) (hc : PH) (p1 p2 p3 : Int32) : Prop := ∃ i, i < H ∧ p2 = nI i ∧ ((∃ w n, w < 4 ∧ p1 = nI w ∧ 1 ≤ n ∧ n < 100 ∧ p3 = nI n ∧ nI n ≤ hc 2 (11 * i + w)) ∨ (∃ w n, w < 4 ∧ p1 = nI (10 + w) ∧ n < 100 ∧ p3 = nI n) ∨ p1 = 20 ∨ (p1 = 21 ∧ ∃ k, k < H ∧ k ≠ i ∧ p3 = nI k) ∨ p1 = 22)
theorem ca_sim {A : Nat → Prop} {H : Nat} {hc hm : PH} (t : TW A H hc hm) (p1 p2 p3 : Int32) : ∃ x, mS_mayAct 68 p1 p2 p3 hc = some x ∧ mm_canAct p1 p2 p3 hm = some x ∧ (x = 0 ∨ (x = 1 ∧ AK H hc p1 p2 p3)) := by
  have h12 := t.1
  unfold mS_mayAct mm_canAct
  rw [show sT 68 = 1 from rfl, hs_m hc hm H t.2.1 t.2.2.1 p2]
  rcases hs_c hc H t.2.1 h12 p2 with ⟨i, hi, ei, hh⟩ | ⟨_, hh⟩
  · rw [hh, bd_e, bd_e, if_neg no10, if_neg no10]
    subst ei
    by_cases f : 0 ≤ p1 ∧ p1 ≤ 3
    · obtain ⟨w, w1, w2, ew⟩ := nat_of (rng_of (x := 0) (y := 3) rfl rfl f) (by decide)
      subst ew
      rw [within_y f, bd_e, if_neg no10, isIn_y f, bd_e, if_neg no10, rdB t hi (show w < 11 by omega), bd_e, wlM t hi (show w < 4 by omega), bd_e]
      obtain ⟨k, k1, k2, ek⟩ := nat_of (t.2.2.2.2.2 i w hi (by omega)) (by decide)
      by_cases g : 1 ≤ p3 ∧ p3 ≤ hc 2 (11 * i + w)
      · rw [within_y g, bd_e, isIn_y g, bd_e]
        obtain ⟨n, n1, n2, en⟩ := nat_of (rng_of (x := 1) (y := 99) rfl rfl (v := p3) (b := 99) ⟨g.1, Int32.le_trans g.2 (by rw [ek]; exact nI_le (b := 99) (by omega) (by decide))⟩) (by decide)
        subst en
        have n0 : 1 ≤ n := (nI_leI (a := 1) (by decide) (by omega)).mp g.1
        exact ⟨1, rfl, rfl, Or.inr ⟨rfl, i, hi, rfl, Or.inl ⟨w, n, by omega, rfl, n0, by omega, rfl, g.2⟩⟩⟩
      · rw [within_n g, bd_e, isIn_n g, bd_e]
        exact ⟨0, rfl, rfl, Or.inl rfl⟩
    · rw [within_n f, bd_e, if_pos rfl, isIn_n f, bd_e, if_pos rfl]
      by_cases f2 : 10 ≤ p1 ∧ p1 ≤ 13
      · rw [within_y f2, bd_e, if_neg no10, isIn_y f2, bd_e, if_neg no10]
        obtain ⟨v, v1, v2, ev⟩ := nat_of (rng_of (x := 10) (y := 13) rfl rfl f2) (by decide)
        subst ev
        have v10 : 10 ≤ v := (nI_leI (a := 10) (by decide) (by omega)).mp f2.1
        by_cases g : 1 ≤ p3 ∧ p3 ≤ 99
        · rw [within_y g, bd_e, isIn_y g, bd_e]
          obtain ⟨n, n1, n2, en⟩ := nat_of (rng_of (x := 1) (y := 99) rfl rfl g) (by decide)
          exact ⟨1, rfl, rfl, Or.inr ⟨rfl, i, hi, rfl, Or.inr (Or.inl ⟨v - 10, n, by omega, by rw [show 10 + (v - 10) = v by omega], by omega, en⟩)⟩⟩
        · rw [within_n g, bd_e, isIn_n g, bd_e]
          exact ⟨0, rfl, rfl, Or.inl rfl⟩
      · rw [within_n f2, bd_e, if_pos rfl, isIn_n f2, bd_e, if_pos rfl]
        by_cases c20 : p1 = 20
        · rw [if_pos c20, if_pos c20]
          obtain ⟨x, x1, x2, x3⟩ := cw_sim t hi
          rw [x2, bd_e, x3, bd_e, nb_01 x1]
          refine ⟨x, rfl, rfl, ?_⟩
          rcases x1 with e | e
          · exact Or.inl e
          · exact Or.inr ⟨e, i, hi, rfl, Or.inr (Or.inr (Or.inl c20))⟩
        · rw [if_neg c20, if_neg c20]
          by_cases c21 : p1 = 21
          · rw [if_pos c21, if_pos c21, show mB_read 1 (nI i) 7 hc = _ from rdB t hi (c := 7) (by decide), bd_e, show (79 : Int32) + nI i = nI (79 + i) from nI_add 79 i, ck_nI (show 79 + i < 115 by omega) (by decide), show ix (nI (79 + i)) = 79 + i from nI_clamp (by omega), (colM t hi).2.2.2.1, hs_m hc hm H t.2.1 t.2.2.1 p3]
            by_cases l : hc 2 (11 * i + 7) ≤ 0
            · rw [if_pos l, if_pos l]
              exact ⟨0, rfl, rfl, Or.inl rfl⟩
            · rw [if_neg l, if_neg l]
              rcases hs_c hc H t.2.1 h12 p3 with ⟨k, hk, ek, hh3⟩ | ⟨_, hh3⟩
              · rw [hh3, bd_e, bd_e, if_neg no10, if_neg no10]
                by_cases d : p3 = nI i
                · rw [if_pos d, if_pos d]
                  exact ⟨0, rfl, rfl, Or.inl rfl⟩
                · rw [if_neg d, if_neg d, ek, isBB t hk, bd_e, isM t hk, bd_e]
                  by_cases u : upI hc k = 0
                  · rw [if_pos u]
                    exact ⟨0, rfl, rfl, Or.inl rfl⟩
                  · rw [if_neg u]
                    exact ⟨1, rfl, rfl, Or.inr ⟨rfl, i, hi, rfl, Or.inr (Or.inr (Or.inr (Or.inl ⟨c21, k, hk, fun z => d (by rw [ek, z]), rfl⟩)))⟩⟩
              · rw [hh3, bd_e, bd_e, if_pos rfl, if_pos rfl]
                by_cases d : p3 = nI i
                · rw [if_pos d]
                  exact ⟨0, rfl, rfl, Or.inl rfl⟩
                · rw [if_neg d]
                  exact ⟨0, rfl, rfl, Or.inl rfl⟩
          · rw [if_neg c21, if_neg c21]
            by_cases c22 : p1 = 22
            · rw [if_pos c22, if_pos c22, isBB t hi, bd_e, isM t hi, bd_e, nb_up]
              by_cases u : upI hc i = 0
              · rw [if_pos u, u]
                exact ⟨0, rfl, rfl, Or.inl rfl⟩
              · rw [if_neg u, show upI hc i = 1 by unfold upI at u ⊢; split at u <;> simp_all]
                exact ⟨1, rfl, rfl, Or.inr ⟨rfl, i, hi, rfl, Or.inr (Or.inr (Or.inr (Or.inr c22)))⟩⟩
            · rw [if_neg c22, if_neg c22]
              exact ⟨0, rfl, rfl, Or.inl rfl⟩
  · rw [hh, bd_e, bd_e, if_pos rfl, if_pos rfl]
    exact ⟨0, rfl, rfl, Or.inl rfl⟩
/-- it is done -/
theorem ac_sim {B : BKT} {H b : Nat} {Ls : LNS} {hc hm : PH} (r : RTT AA H b Ls B hc hm) (hb : b + 1 < 1000000) {p1 p2 p3 : Int32} (k : AK H hc p1 p2 p3) : ∃ gc gm, mS_actByHand 68 p1 p2 p3 hc = some gc ∧ RTT AA H (b + 1) Ls B gc gm ∧ DC hc gc ∧ DM hm gm ∧ gc 1 6 = hc 1 6 ∧ (∀ J4 : Option (Int32 × PH), J4 = (jn1 (fun (h5 : PH) => bd (mm_isIn p1 10 13 h5) fun r6 => jn1 (fun (h8 : PH) => jn1 (fun (h10 : PH) => jn1 (fun (h12 : PH) => if p1 = 22 then bd (mm_isRazed p2 h12) fun h13 => some (1, h13) else some (1, h12)) fun j11 => if p1 = 21 then bd (mm_lodgersGo p2 p3 h10) fun h14 => j11 h14 else j11 h10) fun j9 => if p1 = 20 then bd (mm_isWed p2 h8) fun h15 => j9 h15 else j9 h8) fun j7 => if r6 = 0 then j7 h5 else bd (mm_wallOf p2 (p1 - 10) h5) fun r16 => bd (mm_hasWall p2 (p1 - 10) (r16 + p3) h5) fun h17 => j7 h17) fun j4 => if 4 ≤ p1 then j4 hm else bd (mm_wallOf p2 p1 hm) fun r18 => bd (mm_hasWall p2 p1 (r18 - p3) hm) fun h19 => ck 5 115 <| ck 5 115 <| lt (up h19 105 (ix 5) ((h19 105 (ix 5)) + p3)) fun h20 => bd (mm_notes 0 p2 p3 h20) fun h21 => bd (mm_areOut p2 h21) fun h22 => j4 h22) → J4 = some (1, gm)) := by
  obtain ⟨i, hi, ei, kk⟩ := k
  subst ei
  have t := r.1
  have h12 := t.1
  unfold mS_actByHand
  rcases kk with ⟨w, n, hw, e1, n1, n2, e3, le⟩ | ⟨w, n, hw, e1, n2, e3⟩ | e1 | ⟨e1, q, hq, nq, e3⟩ | e1
  · -- a nibble
    subst e1 e3
    have f : (0 : Int32) ≤ nI w ∧ nI w ≤ 3 := ⟨nI_pos' (by omega), nI_le (b := 3) (by omega) (by decide)⟩
    have f2 : ¬ ((10 : Int32) ≤ nI w ∧ nI w ≤ 13) := fun z => nI_ge (b := 10) (show w < 10 by omega) (by decide) z.1
    obtain ⟨k, k1, k2, k3, k4, k5⟩ := tn_sim t hi hw n2
    have nk : n ≤ k := by rw [k2] at le; exact (nI_leI (by omega) (by omega)).mp le
    rw [show min k n = n by omega] at k3
    have r1 := rt_wr r hi (c := w) (by omega) (by omega) (nI (k - n)) (fun _ => ⟨by rw [nI_toInt (by omega)]; omega, by rw [nI_toInt (by omega)]; omega⟩)
    have e4 : hc 1 4 = up hm (mc w) (mi i w) (nI (k - n)) 105 5 := by
      have := r1.1.2.2.2.1 4 (by decide) (by decide)
      rw [up_oc (by decide)] at this
      exact this
    have r2 : RTT AA H b Ls B (up (up hc 2 (11 * i + w) (nI (k - n))) 1 4 (hc 1 4 + nI n)) (up (up hm (mc w) (mi i w) (nI (k - n))) 105 5 (hc 1 4 + nI n)) := rt_f r1 (f := 4) (by decide) (by decide) _
    obtain ⟨g1, m1, a1, a2, a3, a4, a5⟩ := rt_note r2 0 (nI i) (nI n)
    obtain ⟨g2, m2, b1, b2, b3, b4, b5, b6, _⟩ := lv_sim a3 hi
    have c5 : ∀ (z : Option (Int32 × PH)), ck 5 115 z = z := fun z => ck_nI (i := 5) (by decide) (by decide)
    refine ⟨g2, m2, ?_, rt_mono b3 (Nat.le_succ b) hb, dc_t (fun x x1 x2 _ _ _ _ _ => by rw [up_cell x1, up_cell x2]) (dc_t (fun x _ _ x3 x4 _ _ _ => a4 x x3 x4) b4), dm_t (dm_col hm (mc105 (by omega) (by omega)) _) (dm_t (dm_up _ _ _) (dm_t a5 b5)), by rw [b6, a4 1 (by decide) (by decide), up_oj (by decide), up_oc (by decide)], fun J4 ej => ?_⟩
    · rw [within_y f, bd_e, if_neg no10]
      unfold mS_nibble
      rw [show sT 68 = 1 from rfl, k3, bd2_e, lt_e, a1, bd_e, b1, bd_e, bd_e]
    · rw [ej, jn1_e, if_neg (show ¬ (4 : Int32) ≤ nI w from nI_ge (b := 4) hw (by decide)), wlM t hi hw, bd_e, k4 _ (by rw [k2]), bd_e, c5, c5, lt_e, show ix (5 : Int32) = 5 from rfl, ← e4, a2, bd_e, b2, bd_e]
      simp only [jn1_e]
      rw [isIn_n f2, bd_e, if_pos rfl, if_neg (show ¬ nI w = (20 : Int32) from fun z => absurd ((nI_eq (b := 20) (by omega) (by decide)).mp z) (by omega)), if_neg (show ¬ nI w = (21 : Int32) from fun z => absurd ((nI_eq (b := 21) (by omega) (by decide)).mp z) (by omega)), if_neg (show ¬ nI w = (22 : Int32) from fun z => absurd ((nI_eq (b := 22) (by omega) (by decide)).mp z) (by omega))]
  · -- a wall is iced
    subst e1 e3
    have f : ¬ ((0 : Int32) ≤ nI (10 + w) ∧ nI (10 + w) ≤ 3) := fun z => nI_ge (a := 3) (show 3 < 10 + w by omega) (by omega) z.2
    have f2 : (10 : Int32) ≤ nI (10 + w) ∧ nI (10 + w) ≤ 13 := ⟨nI_le (a := 10) (by omega) (by omega), nI_le (b := 13) (by omega) (by decide)⟩
    have sb : nI (10 + w) - (10 : Int32) = nI w := by
      have := nI_sub (show 10 ≤ 10 + w by omega)
      rw [show 10 + w - 10 = w by omega] at this
      exact this
    obtain ⟨v, v1, v2, v3⟩ := tk_sim t hi hw n2
    have hv : R 0 99 v := by
      have := v3.2.2.2.2.2 i w hi hw
      rw [up_same] at this
      exact this
    refine ⟨_, _, ?_, rt_mono (rt_wr r hi (c := w) (by omega) (by omega) v (fun _ => hv)) (Nat.le_succ b) hb, fun x _ x2 _ _ _ _ _ => up_cell x2, dm_col hm (mc105 (by omega) (by omega)) v, up_oc (by decide), fun J4 ej => ?_⟩
    · rw [within_n f, bd_e, if_pos rfl, within_y f2, bd_e, if_neg no10, sb, show sT 68 = 1 from rfl, v1, bd_e]
    · rw [ej, jn1_e, if_pos (show (4 : Int32) ≤ nI (10 + w) from nI_le (a := 4) (by omega) (by omega))]
      simp only [jn1_e]
      rw [isIn_y f2, bd_e, if_neg no10, sb, wlM t hi hw, bd_e, v2 _ rfl, bd_e, if_neg (show ¬ nI (10 + w) = (20 : Int32) from fun z => absurd ((nI_eq (b := 20) (by omega) (by decide)).mp z) (by omega)), if_neg (show ¬ nI (10 + w) = (21 : Int32) from fun z => absurd ((nI_eq (b := 21) (by omega) (by decide)).mp z) (by omega)), if_neg (show ¬ nI (10 + w) = (22 : Int32) from fun z => absurd ((nI_eq (b := 22) (by omega) (by decide)).mp z) (by omega))]
  · subst e1
    obtain ⟨gc, gm, g1, g2, g3, g4, g5, g6⟩ := we_sim r hb hi
    refine ⟨gc, gm, ?_, g3, g4, g5, by rw [g6], fun J4 ej => ?_⟩
    · rw [within_n (by decide), bd_e, if_pos rfl, within_n (by decide), bd_e, if_pos rfl, if_pos rfl, g1, bd_e]
    · rw [ej, jn1_e, if_pos (by decide)]
      simp only [jn1_e]
      rw [isIn_n (show ¬ ((10 : Int32) ≤ 20 ∧ (20 : Int32) ≤ 13) by decide), bd_e, if_pos rfl]
      first | rw [if_pos (show (20 : Int32) = 20 from rfl), g2, bd_e] | rw [if_pos trivial, g2, bd_e]
      rw [if_neg (show ¬ (20 : Int32) = 21 by decide)]
      rw [if_neg (show ¬ (20 : Int32) = 22 by decide)]
  · subst e1 e3
    obtain ⟨gc, gm, g1, g2, g3, g4, g5, g6, _⟩ := mv_sim r hi (some q) (fun k ek => by cases ek; exact ⟨hq, nq⟩)
    refine ⟨gc, gm, ?_, rt_mono g3 (Nat.le_succ b) hb, g4, g5, by rw [g6], fun J4 ej => ?_⟩
    · rw [within_n (by decide), bd_e, if_pos rfl, within_n (by decide), bd_e, if_pos rfl, if_neg (by decide), if_pos rfl, show mS_moveLodgers 68 (nI i) (nI q) hc = _ from g1, bd_e]
    · rw [ej, jn1_e, if_pos (by decide)]
      simp only [jn1_e]
      rw [isIn_n (show ¬ ((10 : Int32) ≤ 21 ∧ (21 : Int32) ≤ 13) by decide), bd_e, if_pos rfl]
      rw [if_neg (show ¬ (21 : Int32) = 20 by decide)]
      first | rw [if_pos (show (21 : Int32) = 21 from rfl), show mm_lodgersGo (nI i) (nI q) hm = _ from g2, bd_e] | rw [if_pos trivial, show mm_lodgersGo (nI i) (nI q) hm = _ from g2, bd_e]
      rw [if_neg (show ¬ (21 : Int32) = 22 by decide)]
  · subst e1
    obtain ⟨gc, gm, g1, g2, g3, g4, g5, g6⟩ := rz_sim r hi
    refine ⟨gc, gm, ?_, rt_mono g3 (Nat.le_succ b) hb, g4, g5, by rw [g6], fun J4 ej => ?_⟩
    · rw [within_n (by decide), bd_e, if_pos rfl, within_n (by decide), bd_e, if_pos rfl, if_neg (by decide), if_neg (by decide), if_pos rfl, g1, bd_e]
    · rw [ej, jn1_e, if_pos (by decide)]
      simp only [jn1_e]
      rw [isIn_n (show ¬ ((10 : Int32) ≤ 22 ∧ (22 : Int32) ≤ 13) by decide), bd_e, if_pos rfl]
      rw [if_neg (show ¬ (22 : Int32) = 20 by decide)]
      rw [if_neg (show ¬ (22 : Int32) = 21 by decide)]
      first | rw [if_pos (show (22 : Int32) = 22 from rfl), g2, bd_e] | rw [if_pos trivial, g2, bd_e]
