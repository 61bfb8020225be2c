section
/-! WALLS get thinner and thicker; weddings, razing; rent, rats, rain -/
def hl (y : Int32) : Int32 := if 0 ≤ y then (if y ≤ 99 then y else 99) else 0
theorem hl_e (y : Int32) (h : PH) : mm_held y 0 99 h = some (hl y) := by
  unfold mm_held hl
  split
  · split <;> rfl
  · rfl
theorem hl_r : ∀ y : Int32, R 0 99 (hl y) := fun y => by
  unfold hl
  split
  · rename_i c
    split
    · rename_i d
      exact le_rng rfl rfl c d
    · exact ⟨by decide, by decide⟩
  · exact ⟨by decide, by decide⟩
theorem hwC {A : Nat → Prop} {H : Nat} {hc hm : PH} (t : TW A H hc hm) {i w : Nat} (hi : i < H) (hw : w < 4) (y : Int32) : mm_hasWall (nI i) (nI w) y hm = some (up hm (mc w) (mi i w) (hl y)) := by
  have h12 := t.1
  unfold mm_hasWall
  rw [hl_e, bd_e, show (4 : Int32) * nI i = nI (4 * i) from nI_mul 4 i, show (7 : Int32) + nI (4 * i) = nI (7 + 4 * i) from nI_add 7 _, nI_add, ck_nI (by omega) (by decide), lt_e, show ix (nI (7 + 4 * i + w)) = 7 + 4 * i + w from nI_clamp (by omega)]
  have e1 : mc w = 105 := by unfold mc; rw [if_neg (by omega), if_neg (by omega)]
  have e2 : mi i w = 7 + 4 * i + w := by unfold mi; rw [if_pos hw]
  rw [e1, e2]
theorem zv_mn {a b : Nat} (ha : a < 100) (hb : b < 100) : imin (nI a) (nI b) = nI (min a b) := by
  unfold imin
  by_cases c : b < a
  · rw [if_pos (nI_lt c (by omega)), Nat.min_eq_right (by omega)]
  · rw [if_neg (Int32.not_lt.mpr (nI_le (by omega) (by omega))), Nat.min_eq_left (by omega)]
theorem zv_hp : ∀ x, x < 100 → hl (nI x) = nI x := by decide +kernel
theorem zv_hn : ∀ x, x < 100 → hl (-(nI x)) = nI 0 := by decide +kernel
theorem zv_tk : ∀ x, x < 200 → imin 99 (nI x) = hl (nI x) := by decide +kernel
theorem v_thin : ∀ k, k < 100 → ∀ n, n < 100 → nI k - imin (nI k) (nI n) = hl (nI k - nI n) ∧ nI k - imin (nI k) (nI n) = nI (k - n) ∧ imin (nI k) (nI n) = nI (min k n) := by
  intro k hk n hn
  rw [zv_mn hk hn]
  by_cases c : n ≤ k
  · rw [Nat.min_eq_right c, nI_sub c, zv_hp _ (by omega)]
    exact ⟨rfl, rfl, rfl⟩
  · rw [Nat.min_eq_left (show k ≤ n by omega), nI_sub (Nat.le_refl k), ← Int32.neg_sub (a := nI n) (b := nI k), nI_sub (show k ≤ n by omega), zv_hn _ (by omega), Nat.sub_self, show k - n = 0 by omega]
    exact ⟨rfl, rfl, rfl⟩
theorem v_thick : ∀ k, k < 100 → ∀ n, n < 100 → imin 99 (nI k + nI n) = hl (nI k + nI n) := by
  intro k hk n hn
  rw [nI_add]
  exact zv_tk _ (by omega)
/-- a wall loses n: both sides -/
theorem tn_sim {A : Nat → Prop} {H : Nat} {hc hm : PH} (t : TW A H hc hm) {i w n : Nat} (hi : i < H) (hw : w < 4) (hn : n < 100) : ∃ k, k < 100 ∧ hc 2 (11 * i + w) = nI k ∧ mB_thin 1 (nI i) (nI w) (nI n) hc = some (nI (min k n), up hc 2 (11 * i + w) (nI (k - n))) ∧ (∀ y, y = nI k - nI n → mm_hasWall (nI i) (nI w) y hm = some (up hm (mc w) (mi i w) (nI (k - n)))) ∧ TW A H (up hc 2 (11 * i + w) (nI (k - n))) (up hm (mc w) (mi i w) (nI (k - n))) := by
  obtain ⟨k, k1, k2, ek⟩ := nat_of (t.2.2.2.2.2 i w hi hw) (by decide)
  obtain ⟨v1, v2, v3⟩ := v_thin k (by omega) n hn
  refine ⟨k, by omega, ek, ?_, fun y ey => ?_, tb_wr t hi (by omega) _ (fun _ => ?_)⟩
  · unfold mB_thin
    rw [rdB t hi (by omega), bd_e, lt_e, ek, wrB t hi (by omega), bd_e, v2, v3]
  · rw [hwC t hi hw, ey, ← v1, v2]
  · exact ⟨by rw [nI_toInt (by omega)]; omega, by rw [nI_toInt (by omega)]; omega⟩
theorem tk_sim {A : Nat → Prop} {H : Nat} {hc hm : PH} (t : TW A H hc hm) {i w n : Nat} (hi : i < H) (hw : w < 4) (hn : n < 100) : ∃ v, mB_thicken 1 (nI i) (nI w) (nI n) hc = some (up hc 2 (11 * i + w) v) ∧ (∀ x, x = hc 2 (11 * i + w) → mm_hasWall (nI i) (nI w) (x + nI n) hm = some (up hm (mc w) (mi i w) v)) ∧ TW A H (up hc 2 (11 * i + w) v) (up hm (mc w) (mi i w) v) := by
  obtain ⟨k, k1, k2, ek⟩ := nat_of (t.2.2.2.2.2 i w hi hw) (by decide)
  have v1 := v_thick k (by omega) n hn
  refine ⟨hl (nI k + nI n), ?_, fun x ex => ?_, tb_wr t hi (by omega) _ (fun _ => hl_r _)⟩
  · unfold mB_thicken
    rw [rdB t hi (by omega), bd_e, ek, v1, wrB t hi (by omega), bd_e]
  · rw [ex, ek, hwC t hi hw]
/-- writes that don't touch lodgers keep all of RTT -/
theorem rt_wr {B : BKT} {A : Nat → Prop} {H b : Nat} {Ls : LNS} {hc hm : PH} (r : RTT A H b Ls B hc hm) {i c : Nat} (hi : i < H) (hcc : c < 11) (c7 : c ≠ 7) (v : Int32) (hv : c < 4 → R 0 99 v) : RTT A H b Ls B (up hc 2 (11 * i + c) v) (up hm (mc c) (mi i c) v) := by
  have t := r.1
  have h12 := t.1
  obtain ⟨r1, r2, r3⟩ := mi_r i (by omega) c hcc
  have nb : mc c ≠ 110 ∧ mc c ≠ 104 ∧ mc c ≠ 123 ∧ (mc c < 113 ∨ 119 < mc c) ∧ mc c ≠ 124 := by omega
  obtain ⟨q1, q2, q3, q4, q5, q6, q7⟩ := r
  refine ⟨tb_wr t hi hcc v hv, ⟨q2.1, q2.2.1, q2.2.2.1, lwc_of q2.2.2.2.1 (fun b _ _ => up_cell (by omega)), lwm_of q2.2.2.2.2 (fun b _ _ => up_cell (by omega))⟩, bk_of q3 (up_cell (by decide)) (up_cell (by decide)) ?_ (up_cell (fun z => nb.1 z.symm)), fun k hk => ?_, by rw [up_oc (by decide)]; exact q5, by rw [up_oc (fun z => nb.2.1 z.symm)]; exact q6, ld_of q7 (fun k hk => up_oj (by omega))⟩
  · by_cases e : mc c = 105
    · rw [e, up_oj (by have := r2 e; omega)]
    · rw [up_oc (fun z => e z.symm)]
  · rw [nx_fr (up_cell (by decide)) (up_cell (by decide)), up_oc (fun z => nb.2.2.1 z.symm)]
    exact q4 k hk
theorem rt_f {B : BKT} {A : Nat → Prop} {H b : Nat} {Ls : LNS} {hc hm : PH} (r : RTT A H b Ls B hc hm) {f : Nat} (f1 : 2 ≤ f) (f2 : f < 8) (v : Int32) : RTT A H b Ls B (up hc 1 f v) (up hm 105 (sf f) v) := by
  obtain ⟨q1, q2, q3, q4, q5, q6, q7⟩ := r
  refine ⟨tb_f q1 f1 f2 v, ⟨q2.1, q2.2.1, q2.2.2.1, lwc_of q2.2.2.2.1 (fun b _ _ => up_cell (by omega)), lwm_of q2.2.2.2.2 (fun b _ _ => up_cell (by omega))⟩, bk_of q3 (up_cell (by decide)) (up_cell (by decide)) (up_oj (fun z => (sf_r f f2 f1).2.1 z.symm)) (up_cell (by decide)), fun k hk => ?_, by rw [up_oc (by decide)]; exact q5, by rw [up_oc (by decide)]; exact q6, ld_of q7 (fun k hk => up_oc (by decide))⟩
  rw [nx_fr (up_cell (by decide)) (up_cell (by decide)), up_oc (by decide)]
  exact q4 k hk
theorem rt_law {B : BKT} {A : Nat → Prop} {H b : Nat} {Ls : LNS} {hc hm gc gm : PH} (r : RTT A H b Ls B hc hm) (fc : F3c hc gc) (fm : F2m hm gm) : RTT A H b Ls B gc gm := by
  have dc : DC hc gc := fun x _ _ _ _ x5 x6 x7 => fc x x5 x6 x7
  have dm : DM hm gm := fun x _ _ x3 x4 => fm x x3 x4
  exact rt_of r (tb_of r.1 (fc 1 (by decide) (by decide) (by decide)) (fc 2 (by decide) (by decide) (by decide)) (by rw [fm 104 (by decide) (by decide)]) (fm 105 (by decide) (by decide)) (fm 108 (by decide) (by decide)) (fm 109 (by decide) (by decide))) (bk_of r.2.2.1 (fc 16 (by decide) (by decide) (by decide)) (fc 17 (by decide) (by decide) (by decide)) (by rw [fm 105 (by decide) (by decide)]) (fm 110 (by decide) (by decide))) (ld_of r.2.2.2.2.2.2 (fun k _ => by rw [fc 2 (by decide) (by decide) (by decide)])) dc dm
theorem rt_note {B : BKT} {A : Nat → Prop} {H b : Nat} {Ls : LNS} {hc hm : PH} (r : RTT A H b Ls B hc hm) (p1 p2 p3 : Int32) : ∃ gc gm, mS_note 68 p1 p2 p3 hc = some gc ∧ mm_notes p1 p2 p3 hm = some gm ∧ RTT A H b Ls B gc gm ∧ (∀ x, x ≠ 16 → x ≠ 17 → gc x = hc x) ∧ DM hm gm := by
  have q6 : hc 1 6 = hm 105 0 := r.1.2.2.2.1 6 (by decide) (by decide)
  obtain ⟨gc, gm, a1, a2, a3, a4, a5, a6⟩ := nt_sim q6 r.2.2.1 r.2.2.2.2.1 r.2.2.2.2.2.1 p1 p2 p3
  have dm : DM hm gm := fun x x1 x2 _ _ => a5 x x1 x2
  refine ⟨gc, gm, a1, a2, rt_of r (tb_of (tb_m2 r.1 a5 a6) (a4 1 (by decide) (by decide)) (a4 2 (by decide) (by decide)) rfl rfl rfl rfl) a3 (ld_of r.2.2.2.2.2.2 (fun k _ => by rw [a4 2 (by decide) (by decide)])) (fun x _ _ x3 x4 _ _ _ => a4 x x3 x4) dm, a4, dm⟩
theorem dm_up (h : PH) (j : Nat) (v : Int32) : DM h (up h 105 j v) := fun x x1 _ _ _ => up_cell x1
theorem dm_col (h : PH) {i c : Nat} (hm : mc c = 105) (v : Int32) : DM h (up h (mc c) (mi i c) v) := by rw [hm]; exact dm_up h _ v
theorem mc105 {c : Nat} (h4 : c ≠ 4) (h5 : c ≠ 5) : mc c = 105 := by unfold mc; rw [if_neg h4, if_neg h5]
/-- a house is razed -/
theorem rz_sim {B : BKT} {A : Nat → Prop} {H b : Nat} {Ls : LNS} {hc hm : PH} (r : RTT A H b Ls B hc hm) {i : Nat} (hi : i < H) : ∃ gc gm, mS_raze 68 (nI i) hc = some gc ∧ mm_isRazed (nI i) hm = some gm ∧ RTT A H b Ls B gc gm ∧ DC hc gc ∧ DM hm gm ∧ gc 1 = hc 1 := by
  have h12 := r.1.1
  have go : ∀ (n w : Nat) (gc gm : PH), 4 < n + w → w ≤ 4 → RTT A H b Ls B gc gm → DC hc gc → DM hm gm → gc 1 = hc 1 → ∃ gc' gm', (∀ k0, mS_raze_L2 68 (nI i) k0 n (nI w) gc = k0 gc') ∧ (∀ k0, mm_isRazed_L2 (nI i) k0 n (nI w) gm = k0 gm') ∧ RTT A H b Ls B gc' gm' ∧ DC hc gc' ∧ DM hm gm' ∧ gc' 1 = hc 1 := by
    intro n
    induction n with
    | zero => intro w gc gm h1 h2; omega
    | succ n ih =>
      intro w gc gm h1 h2 rr dc dm f1
      by_cases c : w = 4
      · subst c
        exact ⟨gc, gm, fun k0 => by rw [mS_raze_L2, if_pos (by decide)], fun k0 => by rw [mm_isRazed_L2, if_pos (by decide)], rr, dc, dm, f1⟩
      · have hw : ¬ (4 : Int32) ≤ nI w := nI_ge (b := 4) (by omega) (by decide)
        have hl0 : hl 0 = 0 := by decide
        obtain ⟨gc', gm', a1, a2, a3, a4, a5, a6⟩ := ih (w + 1) (up gc 2 (11 * i + w) 0) (up gm (mc w) (mi i w) 0) (by omega) (by omega) (rt_wr rr hi (by omega) (by omega) 0 (fun _ => ⟨by decide, by decide⟩)) (dc_t dc (fun x _ x2 _ _ _ _ _ => up_cell x2)) (dm_t dm (dm_col gm (mc105 (by omega) (by omega)) 0)) (by rw [up_cell (by decide)]; exact f1)
        refine ⟨gc', gm', fun k0 => ?_, fun k0 => ?_, a3, a4, a5, a6⟩
        · rw [mS_raze_L2, if_neg hw, show sT 68 = 1 from rfl, wrB rr.1 hi (by omega), bd_e, nI_1, a1]
        · rw [mm_isRazed_L2, if_neg hw, hwC rr.1 hi (by omega), hl0, bd_e, nI_1, a2]
  obtain ⟨gc, gm, a1, a2, a3, a4, a5, a6⟩ := go FU 0 hc hm (by unfold FU; omega) (by decide) r (dc_r hc) (dm_r hm) rfl
  rw [nI_0] at a1 a2
  obtain ⟨gc2, gm2, b1, b2, b3, b4, b5, b6, _⟩ := lv_sim a3 hi
  refine ⟨gc2, gm2, ?_, ?_, b3, dc_t a4 b4, dm_t a5 b5, by rw [b6]; exact a6⟩
  · unfold mS_raze
    rw [a1, b1, bd_e]
  · unfold mm_isRazed
    rw [a2, b2, bd_e]
/-- may a wedding be -/
theorem cw_sim {A : Nat → Prop} {H : Nat} {hc hm : PH} (t : TW A H hc hm) {i : Nat} (hi : i < H) : ∃ x, (x = 0 ∨ x = 1) ∧ mS_mayWed 68 (nI i) hc = some x ∧ mm_canWed (nI i) hm = some x := by
  have h12 := t.1
  obtain ⟨m4, m5, m6, m7, m8, m9, m10⟩ := colM t hi
  unfold mS_mayWed mm_canWed
  rw [show sT 68 = 1 from rfl, isBB t hi, bd_e, isM t hi, bd_e]
  by_cases u : upI hc i = 0
  · rw [if_pos u, if_pos u]
    exact ⟨0, Or.inl rfl, rfl, rfl⟩
  · rw [if_neg u, if_neg u, show mB_read 1 (nI i) 9 hc = _ from rdB t hi (c := 9) (by decide), bd_e, show (91 : Int32) + nI i = nI (91 + i) from nI_add 91 i, ck_nI (show 91 + i < 115 by omega) (by decide), show ix (nI (91 + i)) = 91 + i from nI_clamp (by omega), m9]
    by_cases d : hc 2 (11 * i + 9) = 0
    · rw [if_pos d, if_pos d, show mB_read 1 (nI i) 7 hc = _ from rdB t hi (c := 7) (by decide), bd_e, show (79 : Int32) + nI i = nI (79 + i) from nI_add 79 i, ck_nI (show 79 + i < 115 by omega) (by decide), show ix (nI (79 + i)) = 79 + i from nI_clamp (by omega), m7]
      by_cases l : hc 2 (11 * i + 7) ≤ 0
      · rw [if_pos l]
        exact ⟨0, Or.inl rfl, rfl, rfl⟩
      · rw [if_neg l]
        exact ⟨1, Or.inr rfl, rfl, rfl⟩
    · rw [if_neg d, if_neg d]
      exact ⟨0, Or.inl rfl, rfl, rfl⟩
/-- a wedding: one lodger more -/
theorem we_sim {B : BKT} {A : Nat → Prop} {H b : Nat} {Ls : LNS} {hc hm : PH} (r : RTT A H b Ls B hc hm) (hb : b + 1 < 1000000) {i : Nat} (hi : i < H) : ∃ gc gm, mS_wed 68 (nI i) hc = some gc ∧ mm_isWed (nI i) hm = some gm ∧ RTT A H (b + 1) Ls B gc gm ∧ DC hc gc ∧ DM hm gm ∧ gc 1 = hc 1 := by
  have t := r.1
  have h12 := t.1
  have r1 := rt_wr r hi (c := 9) (by decide) (by decide) 1 (fun z => by omega)
  have e1 : mc 9 = 105 ∧ mi i 9 = 91 + i := ⟨rfl, rfl⟩
  have tk : tkv (up hc 2 (11 * i + 9) 1) i = tkv hc i := tk_fr (fun w hw => up_oj (by omega))
  obtain ⟨a1, a2, a3⟩ := th_at t hi
  obtain ⟨b1, b2, b3⟩ := th_at r1.1 hi
  rw [tk] at b1 b3
  obtain ⟨k, k1, k2, k3, k4, k5⟩ := tn_sim r1.1 hi b3 (n := 10) (by decide)
  have r2 := rt_wr r1 hi (c := tkv hc i) (by omega) (by omega) (nI (k - 10)) (fun _ => ⟨by rw [nI_toInt (by omega)]; omega, by rw [nI_toInt (by omega)]; omega⟩)
  have wlm := wlM r1.1 hi b3
  have m105 : mc (tkv hc i) = 105 := mc105 (by omega) (by omega)
  have l7 : up (up hc 2 (11 * i + 9) 1) 2 (11 * i + tkv hc i) (nI (k - 10)) 2 (11 * i + 7) = hc 2 (11 * i + 7) := by rw [up_oj (by omega), up_oj (by omega)]
  have ml7 : (up (up hm 105 (91 + i) 1) (mc (tkv hc i)) (mi i (tkv hc i)) (nI (k - 10))) 105 (79 + i) = hc 2 (11 * i + 7) := by
    have := (colM r2.1 hi).2.2.2.1
    rw [l7] at this
    exact this
  have f12 : up (up hc 2 (11 * i + 9) 1) 2 (11 * i + tkv hc i) (nI (k - 10)) 1 = hc 1 := by rw [up_cell (by decide), up_cell (by decide)]
  have dc2 : DC hc (up (up hc 2 (11 * i + 9) 1) 2 (11 * i + tkv hc i) (nI (k - 10))) := fun x _ x2 _ _ _ _ _ => by rw [up_cell x2, up_cell x2]
  have dm2 : DM hm (up (up hm 105 (91 + i) 1) (mc (tkv hc i)) (mi i (tkv hc i)) (nI (k - 10))) := dm_t (dm_up hm _ 1) (dm_col _ m105 _)
  have r2' : RTT A H b Ls B (up (up hc 2 (11 * i + 9) 1) 2 (11 * i + tkv hc i) (nI (k - 10))) (up (up hm 105 (91 + i) 1) (mc (tkv hc i)) (mi i (tkv hc i)) (nI (k - 10))) := r2
  have c1 : mB_write 1 (nI i) 9 1 hc = some (up hc 2 (11 * i + 9) 1) := wrB t hi (c := 9) (by decide) 1
  have c2 : mB_thin 1 (nI i) (nI (tkv hc i)) 10 (up hc 2 (11 * i + 9) 1) = some (nI (min k 10), up (up hc 2 (11 * i + 9) 1) 2 (11 * i + tkv hc i) (nI (k - 10))) := k3
  have c3 : mm_hasWall (nI i) (nI (tkv hc i)) (up hc 2 (11 * i + 9) 1 2 (11 * i + tkv hc i) - 10) (up hm 105 (91 + i) 1) = some (up (up hm 105 (91 + i) 1) (mc (tkv hc i)) (mi i (tkv hc i)) (nI (k - 10))) := k4 _ (by rw [k2]; rfl)
  have c4 : mm_wallOf (nI i) (nI (tkv hc i)) (up hm 105 (91 + i) 1) = some (up hc 2 (11 * i + 9) 1 2 (11 * i + tkv hc i)) := wlm
  generalize up (up hc 2 (11 * i + 9) 1) 2 (11 * i + tkv hc i) (nI (k - 10)) = gc2 at l7 f12 dc2 r2' c2
  generalize up (up hm 105 (91 + i) 1) (mc (tkv hc i)) (mi i (tkv hc i)) (nI (k - 10)) = gm2 at ml7 dm2 r2' c3
  -- one lodger more
  obtain ⟨q1, q2, q3, q4, q5, q6, q7⟩ := r2'
  have l0 := q7.1 i hi
  obtain ⟨lg1, lg2⟩ := lsm_ge H q7.1
  have up1 : (gc2 2 (11 * i + 7) + 1).toInt = (gc2 2 (11 * i + 7)).toInt + 1 := by
    have a := lg2 i hi
    have c := q7.2.1
    exact i_add (a := 0) (b := 1000000) (c := 1) (d := 1) ⟨l0, by omega⟩ ⟨by decide, by decide⟩ (by decide)
  have r3 : RTT A H (b + 1) Ls B (up gc2 2 (11 * i + 7) (gc2 2 (11 * i + 7) + 1)) (up gm2 105 (79 + i) (gc2 2 (11 * i + 7) + 1)) := by
    refine ⟨tb_wr q1 hi (c := 7) (by decide) _ (fun z => by omega), ⟨q2.1, q2.2.1, q2.2.2.1, lwc_of q2.2.2.2.1 (fun b _ _ => up_cell (by omega)), lwm_of q2.2.2.2.2 (fun b _ _ => up_cell (by omega))⟩, bk_of q3 (up_cell (by decide)) (up_cell (by decide)) (up_oj (by omega)) (up_cell (by decide)), fun k hk => ?_, by rw [up_oc (by decide)]; exact q5, by rw [up_oc (by decide)]; exact q6, ⟨fun k hk => ?_, ?_, hb⟩⟩
    · rw [nx_fr (up_cell (by decide)) (up_cell (by decide)), up_oc (by decide)]
      exact q4 k hk
    · by_cases z : k = i
      · rw [z, up_same, up1]; omega
      · rw [up_oj (by omega)]; exact q7.1 k hk
    · rw [lsm_up H hi, up1]
      have := q7.2.1
      omega
  have c5 : mB_read 1 (nI i) 7 gc2 = some (gc2 2 (11 * i + 7)) := rdB q1 hi (c := 7) (by decide)
  have c6 : mB_write 1 (nI i) 7 (gc2 2 (11 * i + 7) + 1) gc2 = some (up gc2 2 (11 * i + 7) (gc2 2 (11 * i + 7) + 1)) := wrB q1 hi (c := 7) (by decide) _
  have e79 : gm2 105 (79 + i) = gc2 2 (11 * i + 7) := by rw [ml7, l7]
  obtain ⟨gc4, gm4, n1, n2, n3, n4, n5⟩ := rt_note r3 5 (nI i) (gc2 2 (11 * i + 7) + 1)
  obtain ⟨gc5, gm5, o1, o2, o3, o4, o5, o6, _⟩ := lv_sim n3 hi
  refine ⟨gc5, gm5, ?_, ?_, o3, dc_t (dc_t dc2 (dc_t (fun x _ x2 _ _ _ _ _ => up_cell x2) (fun x _ _ x3 x4 _ _ _ => n4 x x3 x4))) o4, dm_t (dm_t dm2 (dm_t (dm_up gm2 _ _) n5)) o5, by rw [o6, n4 1 (by decide) (by decide), up_cell (by decide)]; exact f12⟩
  · unfold mS_wed
    rw [show sT 68 = 1 from rfl, c1, bd_e, b1, bd_e, c2, bd2_e, c5, bd_e, lt_e, c6, bd_e, n1, bd_e, o1, bd_e]
  · unfold mm_isWed
    rw [a2, bd_e, show (91 : Int32) + nI i = nI (91 + i) from nI_add 91 i, ck_nI (show 91 + i < 115 by omega) (by decide), lt_e, show ix (nI (91 + i)) = 91 + i from nI_clamp (by omega), c4, bd_e, c3, bd_e, show (79 : Int32) + nI i = nI (79 + i) from nI_add 79 i, ck_nI (show 79 + i < 115 by omega) (by decide), ck_nI (show 79 + i < 115 by omega) (by decide), lt_e, show ix (nI (79 + i)) = 79 + i from nI_clamp (by omega), ck_nI (show 79 + i < 115 by omega) (by decide), up_same, e79, n2, bd_e, o2, bd_e]
end
section
/-! THE RENT is nibbled: both sides -/
theorem na_sim {B : BKT} {A : Nat → Prop} {H b : Nat} {Ls : LNS} {hc hm : PH} (r : RTT A H b Ls B hc hm) (p1 p2 p3 : Int32) : ∃ gc gm, mS_noteIfAny 68 p1 p2 p3 hc = some gc ∧ (if p3 ≤ 0 then some hm else mm_notes p1 p2 p3 hm) = some gm ∧ RTT A H b Ls B gc gm ∧ (∀ x, x ≠ 16 → x ≠ 17 → gc x = hc x) ∧ DM hm gm := by
  unfold mS_noteIfAny
  by_cases c : p3 ≤ 0
  · rw [if_pos c, if_pos c]
    exact ⟨hc, hm, rfl, rfl, r, fun _ _ _ => rfl, dm_r hm⟩
  · rw [if_neg c, if_neg c]
    obtain ⟨gc, gm, a1, a2, a3, a4, a5⟩ := rt_note r p1 p2 p3
    exact ⟨gc, gm, by rw [a1, bd_e], a2, a3, a4, a5⟩
theorem ifn {α : Type} {p : Prop} [Decidable p] {X : Option PH} {h g : PH} (e : (if p then some h else X) = some g) (K : PH → Option α) : (if p then K h else bd X fun h' => K h') = K g := by
  by_cases c : p
  · rw [if_pos c] at e ⊢
    cases e
    rfl
  · rw [if_neg c] at e ⊢
    rw [e, bd_e]
theorem i32_as (a b c : Int32) : a + (b - c) = (a + b) - c := by
  rw [Int32.sub_eq_add_neg, Int32.sub_eq_add_neg, Int32.add_assoc]
/-- what stands has a wall -/
theorem st_1 {A : Nat → Prop} {H : Nat} {hc hm : PH} (t : TW A H hc hm) {i k : Nat} (hi : i < H) (u : ¬ upI hc i = 0) (ek : hc 2 (11 * i + tkv hc i) = nI k) : k ≠ 0 := fun z => by
  subst z
  apply u
  have z0 : (0 : Int32).toInt = 0 := rfl
  have w0 : ∀ w, w < 4 → hc 2 (11 * i + w) = 0 := fun w hw => by
    have a := tk_max (h := hc) (i := i) w hw
    rw [ek, nI_0, Int32.le_iff_toInt_le] at a
    have b := (t.2.2.2.2.2 i w hi hw).1
    exact Int32.toInt_inj.mp (by omega)
  have a0 := w0 0 (by decide)
  rw [Nat.add_zero] at a0
  unfold upI sm4
  rw [a0, w0 1 (by decide), w0 2 (by decide), w0 3 (by decide)]
  rfl
/-- no wall gets thicker -/
def WD (H : Nat) (h g : PH) : Prop := (∀ k w, k < H → w < 4 → g 2 (11 * k + w) ≤ h 2 (11 * k + w)) ∧ g 1 6 = h 1 6
theorem wd_r (H : Nat) (h : PH) : WD H h h := ⟨fun _ _ _ _ => Int32.le_refl _, rfl⟩
theorem wd_t {H : Nat} {h g f : PH} (a : WD H h g) (b : WD H g f) : WD H h f := ⟨fun k w hk hw => Int32.le_trans (b.1 k w hk hw) (a.1 k w hk hw), by rw [b.2]; exact a.2⟩
theorem wd_of {H : Nat} {h g : PH} (e : g 2 = h 2) (e1 : g 1 6 = h 1 6) : WD H h g := ⟨fun k w _ _ => by rw [e]; exact Int32.le_refl _, e1⟩
theorem wd_wr {H i w k n : Nat} {h : PH} (hw : w < 4) (ek : h 2 (11 * i + w) = nI k) (hk : k < 100) : WD H h (up h 2 (11 * i + w) (nI (k - n))) := by
  refine ⟨fun k' w' hk' hw' => ?_, up_oc (by decide)⟩
  by_cases e : k' = i ∧ w' = w
  · rw [e.1, e.2, up_same, ek]
    exact nI_le (by omega) (by omega)
  · rw [up_oj (by omega)]
    exact Int32.le_refl _
theorem pr_loop {B : BKT} {H b : Nat} {Ls : LNS} {hc hm : PH} {i N : Nat} (hi : i < H) (hN : N < 100) : ∀ (n p : Nat) (gc gm : PH), N < n + p → p ≤ N → RTT AA H b Ls B gc gm → DC hc gc → DM hm gm → WD H hc gc → ∃ q gc' gm', q ≤ N ∧ (∀ k0, mS_payRent_L27 68 (nI i) (nI N) k0 n (nI p) (nI p) gc = k0 (nI q) gc') ∧ (∀ k0, mm_paysRent_L8 (nI i) (nI N) k0 n (nI p) gm = k0 (nI q) gm') ∧ RTT AA H b Ls B gc' gm' ∧ DC hc gc' ∧ DM hm gm' ∧ WD H hc gc' := by
  intro n
  induction n with
  | zero => intro p gc gm h1 h2; omega
  | succ n ih =>
    intro p gc gm h1 h2 rr dc dm wd
    have t := rr.1
    have h12 := t.1
    by_cases c : p = N
    · refine ⟨p, gc, gm, h2, fun k0 => ?_, fun k0 => ?_, rr, dc, dm, wd⟩
      · rw [mS_payRent_L27, if_pos (nI_le (by omega) (by omega))]
      · rw [mm_paysRent_L8, if_pos (nI_le (by omega) (by omega))]
    · have hp : ¬ nI N ≤ nI p := nI_ge (by omega) (by omega)
      by_cases u : upI gc i = 0
      · refine ⟨p, gc, gm, h2, fun k0 => ?_, fun k0 => ?_, rr, dc, dm, wd⟩
        · rw [mS_payRent_L27, if_neg hp, show sT 68 = 1 from rfl, isBB t hi, bd_e, if_pos u]
        · rw [mm_paysRent_L8, if_neg hp, isM t hi, bd_e, if_pos u]
      · obtain ⟨b1, b2, b3⟩ := th_at t hi
        obtain ⟨k, k1, k2, k3, k4, k5⟩ := tn_sim t hi b3 (n := 1) (by decide)
        have k0' := st_1 t hi u k2
        rw [show min k 1 = 1 by omega] at k3
        have r2 := rt_wr rr hi (c := tkv gc i) (by omega) (by omega) (nI (k - 1)) (fun _ => ⟨by rw [nI_toInt (by omega)]; omega, by rw [nI_toInt (by omega)]; omega⟩)
        have wlm := wlM t hi b3
        have hw := k4 (gc 2 (11 * i + tkv gc i) - 1) (by rw [k2]; rfl)
        obtain ⟨q, gc', gm', a0, a1, a2, a3, a4, a5, a6⟩ := ih (p + 1) _ _ (by omega) (by omega) r2 (dc_t dc (fun x _ x2 _ _ _ _ _ => up_cell x2)) (dm_t dm (dm_col gm (mc105 (by omega) (by omega)) _)) (wd_t wd (wd_wr b3 k2 (by omega)))
        refine ⟨q, gc', gm', a0, fun k0 => ?_, fun k0 => ?_, a3, a4, a5, a6⟩
        · rw [mS_payRent_L27, if_neg hp, show sT 68 = 1 from rfl, isBB t hi, bd_e, if_neg u, b1, bd_e, show mB_thin 1 (nI i) (nI (tkv gc i)) 1 gc = _ from k3, bd2_e, lt_e, show nI p + nI 1 = nI (p + 1) from nI_add p 1, nI_1, a1]
        · rw [mm_paysRent_L8, if_neg hp, isM t hi, bd_e, if_neg u, b2, bd_e, wlm, bd_e, hw, bd_e, lt_e, nI_1, a2]
/-- a house pays its rent -/
theorem pr_sim {B : BKT} {H b : Nat} {Ls : LNS} {hc hm : PH} (r : RTT AA H b Ls B hc hm) {i : Nat} (hi : i < H) : ∃ gc gm, mS_payRent 68 (nI i) hc = some gc ∧ mm_paysRent (nI i) hm = some gm ∧ RTT AA H b Ls B gc gm ∧ DC hc gc ∧ DM hm gm ∧ WD H hc gc := by
  have h12 := r.1.1
  obtain ⟨b1, b2, b3⟩ := th_at r.1 hi
  obtain ⟨v, g1, g2, v1, v2, v3, v4, v5⟩ := te_rent r.2.1 r.1 hi b3 b2
  obtain ⟨N, N1, N2, eN⟩ := nat_of v1 (by decide)
  subst eN
  have dc1 : DC hc g1 := fun x _ _ _ _ x5 x6 x7 => v4 x x5 x6 x7
  have dm1 : DM hm g2 := fun x _ _ x3 x4 => v5 x x3 x4
  obtain ⟨q, g3, g4, q0, q1, q2, q3, q4, q5, q6⟩ := pr_loop (hc := hc) (hm := hm) hi (N := N) (by omega) FU 0 g1 g2 (by unfold FU; omega) (Nat.zero_le _) (rt_law r v4 v5) dc1 dm1 (wd_of (v4 2 (by decide) (by decide) (by decide)) (by rw [v4 1 (by decide) (by decide) (by decide)]))
  rw [nI_0] at q1 q2
  -- what is eaten
  have e4 : g3 1 4 = g4 105 5 := q3.1.2.2.2.1 4 (by decide) (by decide)
  have r5 : RTT AA H b Ls B (up g3 1 4 (g3 1 4 + nI q)) (up g4 105 5 (g3 1 4 + nI q)) := rt_f q3 (f := 4) (by decide) (by decide) _
  obtain ⟨g7, g8, n1, n2, n3, n4, n5⟩ := na_sim r5 0 (nI i) (nI q)
  -- what is owed
  have c8 : g8 105 (67 + i) = g7 2 (11 * i + 8) := (colM n3.1 hi).2.2.2.2.1
  have r9 : RTT AA H b Ls B (up g7 2 (11 * i + 8) (g7 2 (11 * i + 8) + nI (N - q))) (up g8 105 (67 + i) (g7 2 (11 * i + 8) + nI (N - q))) := rt_wr n3 hi (c := 8) (by decide) (by decide) _ (fun z => by omega)
  obtain ⟨g11, g12, o1, o2, o3, o4, o5⟩ := na_sim r9 1 (nI i) (nI (N - q))
  obtain ⟨g13, g14, l1, l2, l3, l4, l5, l6, l7, _⟩ := lv_sim o3 hi
  have rd : mB_read 1 (nI i) 8 g7 = some (g7 2 (11 * i + 8)) := rdB n3.1 hi (c := 8) (by decide)
  have wr : mB_write 1 (nI i) 8 (g7 2 (11 * i + 8) + nI (N - q)) g7 = some _ := wrB n3.1 hi (c := 8) (by decide) _
  have sb : nI N - nI q = nI (N - q) := nI_sub q0
  have le : (nI N ≤ nI q) = (nI (N - q) ≤ 0) := by
    apply propext
    by_cases z : N ≤ q
    · exact ⟨fun _ => by rw [show N - q = 0 by omega]; decide, fun _ => nI_le z (by omega)⟩
    · exact ⟨fun y => absurd y (nI_ge (by omega) (by omega)), fun y => absurd y (nI_nle (by omega) (by omega))⟩
  refine ⟨g13, g14, ?_, ?_, l3, ?_, ?_, fun k w hk hw => ?_, ?_⟩
  · unfold mS_payRent
    rw [show sT 68 = 1 from rfl, b1, bd_e, show mW_tells 1 (nI i) (nI (tkv hc i)) 0 hc = _ from v2, bd2_e, q1, lt_e, n1, bd_e, lt_e, sb, rd, bd_e, wr, bd_e, o1, bd_e, l1, bd_e]
  · unfold mm_paysRent
    have c5 : ∀ (z : Option PH), ck 5 115 z = z := fun z => ck_nI (i := 5) (by decide) (by decide)
    have c67 : ∀ (z : Option PH), ck (nI (67 + i)) 115 z = z := fun z => ck_nI (by omega) (by decide)
    rw [v3, bd2_e, q2, c5, c5, lt_e, show ix (5 : Int32) = 5 from rfl, ← e4]
    refine (ifn n2 (fun (h12 : PH) => ck (67 + nI i) 115 <| ck (67 + nI i) 115 <| lt (up h12 105 (ix (67 + nI i)) (((h12 105 (ix (67 + nI i))) + nI N) - nI q)) fun h13 => jn1 (fun (h15 : PH) => bd (mm_areOut (nI i) h15) fun h16 => some h16) fun j14 => if nI N ≤ nI q then j14 h13 else bd (mm_notes 1 (nI i) (nI N - nI q) h13) fun h17 => j14 h17)).trans ?_
    try dsimp only
    rw [show (67 : Int32) + nI i = nI (67 + i) from nI_add 67 i, c67, c67, lt_e, show ix (nI (67 + i)) = 67 + i from nI_clamp (by omega), c8, ← i32_as, sb, jn1_e]
    try dsimp only
    by_cases z : nI N ≤ nI q
    · have z' := z
      rw [le] at z'
      rw [if_pos z'] at o2
      rw [if_pos z, Option.some.inj o2, l2, bd_e]
    · have z' := z
      rw [le] at z'
      rw [if_neg z'] at o2
      rw [if_neg z, o2, bd_e, l2, bd_e]
  · exact dc_t q4 (dc_t (fun x x1 _ _ _ _ _ _ => up_cell x1) (dc_t (fun x _ _ x3 x4 _ _ _ => n4 x x3 x4) (dc_t (fun x _ x2 _ _ _ _ _ => up_cell x2) (dc_t (fun x _ _ x3 x4 _ _ _ => o4 x x3 x4) l4))))
  · exact dm_t q5 (dm_t (dm_up g4 _ _) (dm_t n5 (dm_t (dm_up g8 _ _) (dm_t o5 l5))))
  · rw [l7 w (by omega) k hk (by omega), o4 2 (by decide) (by decide), up_oj (by omega), n4 2 (by decide) (by decide), up_cell (by decide)]
    exact q6.1 k w hk hw
  · rw [l6, o4 1 (by decide) (by decide), up_oc (by decide), n4 1 (by decide) (by decide), up_oj (by decide)]
    exact q6.2
end
section
/-! RATS and RAIN: both sides -/
theorem up_id {h : PH} {b j : Nat} {v : Int32} (e : h b j = v) : up h b j v = h := by
  funext c k
  by_cases z : c = b
  · subst z
    by_cases y : k = j
    · subst y; rw [up_same, e]
    · rw [up_oj y]
  · rw [up_oc z]
theorem dr_sim {B : BKT} {A : Nat → Prop} {H b : Nat} {Ls : LNS} {hc hm : PH} (r : RTT A H b Ls B hc hm) : ∃ x v, mB_draw 1 1000 hc = some (x, up hc 1 7 v) ∧ mm_draw 1000 hm = some (x, up hm 105 1 v) ∧ RTT A H b Ls B (up hc 1 7 v) (up hm 105 1 v) := by
  have e : hc 1 7 = hm 105 1 := r.1.2.2.2.1 7 (by decide) (by decide)
  have c1 : ∀ (q : Option (Int32 × PH)), ck 1 115 q = q := fun q => ck_nI (i := 1) (by decide) (by decide)
  have d1 : ∀ (q : Option (Int32 × PH)), dz 1000 q = q := fun q => by unfold dz; rw [if_neg (by decide)]
  refine ⟨irm (ushr (1664525 * hc 1 7 + 1013904223) 8) 1000, 1664525 * hc 1 7 + 1013904223, ?_, ?_, rt_f r (f := 7) (by decide) (by decide) _⟩
  · unfold mB_draw
    rw [lt_e, if_neg (by decide), up_same, d1]
  · unfold mm_draw
    rw [c1, c1, lt_e, c1, show ix (1 : Int32) = 1 from rfl, ← e, up_same, d1]
theorem rg_sim {B : BKT} {A : Nat → Prop} {H b : Nat} {Ls : LNS} {hc hm : PH} (r : RTT A H b Ls B hc hm) (v : Int32) : ∃ x gc gm, mS_ratsGnaw 68 v hc = some (x, gc) ∧ (∀ j4 : Int32 → PH → Option PH, (if (hm 104 5) = 0 then (if v ≤ 0 then j4 0 hm else bd2 (mm_draw 1000 hm) fun r10 h11 => if v ≤ r10 then j4 0 h11 else j4 1 h11) else (if (2 * v) < 1000 then j4 0 hm else j4 1 hm)) = j4 x gm) ∧ RTT A H b Ls B gc gm ∧ gc 2 = hc 2 ∧ gc 1 6 = hc 1 6 ∧ DC hc gc ∧ DM hm gm := by
  have re : hc 68 3 = 1 := r.2.2.2.2.1
  have th : hm 104 5 = 0 := r.2.2.2.2.2.1
  unfold mS_ratsGnaw
  rw [re, if_neg no10]
  by_cases c : v ≤ 0
  · exact ⟨0, hc, hm, by rw [if_pos c], fun j4 => by rw [if_pos th, if_pos c], r, rfl, rfl, dc_r hc, dm_r hm⟩
  · obtain ⟨x, v', a1, a2, a3⟩ := dr_sim r
    rw [if_neg c, show sT 68 = 1 from rfl, a1, bd2_e]
    by_cases d : v ≤ x
    · exact ⟨0, _, _, by rw [if_pos d], fun j4 => by rw [if_pos th, if_neg c, a2, bd2_e, if_pos d], a3, up_cell (by decide), up_oj (by decide), fun y y1 _ _ _ _ _ _ => up_cell y1, dm_up hm _ _⟩
    · exact ⟨1, _, _, by rw [if_neg d], fun j4 => by rw [if_pos th, if_neg c, a2, bd2_e, if_neg d], a3, up_cell (by decide), up_oj (by decide), fun y y1 _ _ _ _ _ _ => up_cell y1, dm_up hm _ _⟩
theorem w_0 {A : Nat → Prop} {H : Nat} {hc hm : PH} (t : TW A H hc hm) {i w : Nat} (hi : i < H) (hw : w < 4) : (hc 2 (11 * i + w) ≤ 0) = (hc 2 (11 * i + w) = 0) := by
  obtain ⟨k, k1, k2, ek⟩ := nat_of (t.2.2.2.2.2 i w hi hw) (by decide)
  rw [ek]
  apply propext
  by_cases z : k = 0
  · subst z
    exact ⟨fun _ => nI_0, fun _ => by decide⟩
  · exact ⟨fun y => absurd y (nI_nle (by omega) (by omega)), fun y => absurd y (nI_ne0 (by omega) (by omega))⟩
theorem gn_loop {B : BKT} {H b : Nat} {Ls : LNS} {hc hm : PH} {i : Nat} (hi : i < H) : ∀ (n w c : Nat) (gc gm : PH), 4 < n + w → w ≤ 4 → RTT AA H b Ls B gc gm → DC hc gc → DM hm gm → WD H hc gc → ∃ q gc' gm', (∀ k0, mS_gnaw_L4 68 (nI i) k0 n (nI c) (nI w) gc = k0 (nI q) gc') ∧ (∀ k0, mm_isGnawed_L4 (nI i) k0 n (nI c) (nI w) gm = k0 (nI q) gm') ∧ RTT AA H b Ls B gc' gm' ∧ DC hc gc' ∧ DM hm gm' ∧ WD H hc gc' := by
  intro n
  induction n with
  | zero => intro w c gc gm h1 h2; omega
  | succ n ih =>
    intro w c gc gm h1 h2 rr dc dm wd
    have t := rr.1
    have h12 := t.1
    by_cases c4 : w = 4
    · subst c4
      exact ⟨c, gc, gm, fun k0 => by rw [mS_gnaw_L4, if_pos (by decide)], fun k0 => by rw [mm_isGnawed_L4, if_pos (by decide)], rr, dc, dm, wd⟩
    · have hw : w < 4 := by omega
      have hw4 : ¬ (4 : Int32) ≤ nI w := nI_ge (b := 4) hw (by decide)
      by_cases z : gc 2 (11 * i + w) = 0
      · obtain ⟨q, gc', gm', a1, a2, a3⟩ := ih (w + 1) c gc gm (by omega) (by omega) rr dc dm wd
        refine ⟨q, gc', gm', fun k0 => ?_, fun k0 => ?_, a3⟩
        · rw [mS_gnaw_L4, if_neg hw4, show sT 68 = 1 from rfl, rdB t hi (by omega), bd_e, if_pos (by rw [w_0 t hi hw]; exact z), nI_1, a1]
        · rw [mm_isGnawed_L4, if_neg hw4, wlM t hi hw, bd_e, if_pos z, nI_1, a2]
      · obtain ⟨v, g1, g2, v1, v2, v3, v4, v5⟩ := te_gnaw rr.2.1 t hi hw
        have r1 := rt_law rr v4 v5
        obtain ⟨x, g3, g4, x1, x2, x3, x4, x4', x5, x6⟩ := rg_sim r1 v
        have dc3 : DC hc g3 := dc_t dc (dc_t (fun x _ _ _ _ x5 x6 x7 => v4 x x5 x6 x7) x5)
        have dm3 : DM hm g4 := dm_t dm (dm_t (fun x _ _ x3 x4 => v5 x x3 x4) x6)
        have e2 : g3 2 = gc 2 := by rw [x4, v4 2 (by decide) (by decide) (by decide)]
        have wd3 : WD H hc g3 := wd_t wd (wd_of e2 (by rw [x4', v4 1 (by decide) (by decide) (by decide)]))
        have cls : ∀ k0, mS_gnaw_L4 68 (nI i) k0 (n + 1) (nI c) (nI w) gc = if x = 0 then mS_gnaw_L4 68 (nI i) k0 n (nI c) (nI (w + 1)) g3 else bd2 (mB_thin 1 (nI i) (nI w) 1 g3) fun r6 h7 => lt (nI c + r6) fun x8 => mS_gnaw_L4 68 (nI i) k0 n x8 (nI (w + 1)) h7 := fun k0 => by
          rw [mS_gnaw_L4, if_neg hw4, show sT 68 = 1 from rfl, rdB t hi (by omega), bd_e, if_neg (by rw [w_0 t hi hw]; exact z), v2, bd2_e, x1, bd2_e, nI_1]
        have mdl : ∀ k0, mm_isGnawed_L4 (nI i) k0 (n + 1) (nI c) (nI w) gm = if x = 0 then mm_isGnawed_L4 (nI i) k0 n (nI c) (nI (w + 1)) g4 else bd (mm_wallOf (nI i) (nI w) g4) fun r7 => bd (mm_hasWall (nI i) (nI w) (r7 - 1) g4) fun h8 => lt (nI c + 1) fun x9 => mm_isGnawed_L4 (nI i) k0 n x9 (nI (w + 1)) h8 := fun k0 => by
          rw [mm_isGnawed_L4, if_neg hw4, wlM t hi hw, bd_e, if_neg z, v3, bd2_e, jn2_e, nI_1]
          exact x2 (fun (x5 : Int32) (h6 : PH) => if x5 = 0 then mm_isGnawed_L4 (nI i) k0 n (nI c) (nI (w + 1)) h6 else bd (mm_wallOf (nI i) (nI w) h6) fun r7 => bd (mm_hasWall (nI i) (nI w) (r7 - 1) h6) fun h8 => lt (nI c + 1) fun x9 => mm_isGnawed_L4 (nI i) k0 n x9 (nI (w + 1)) h8)
        by_cases x0 : x = 0
        · obtain ⟨q, gc', gm', a1, a2, a3⟩ := ih (w + 1) c g3 g4 (by omega) (by omega) x3 dc3 dm3 wd3
          exact ⟨q, gc', gm', fun k0 => by rw [cls, if_pos x0, a1], fun k0 => by rw [mdl, if_pos x0, a2], a3⟩
        · obtain ⟨k, k1, k2, k3, k4, k5⟩ := tn_sim x3.1 hi hw (n := 1) (by decide)
          have k0' : k ≠ 0 := fun y => z (by rw [← e2, k2, y]; rfl)
          rw [show min k 1 = 1 by omega] at k3
          have r2 := rt_wr x3 hi (c := w) (by omega) (by omega) (nI (k - 1)) (fun _ => ⟨by rw [nI_toInt (by omega)]; omega, by rw [nI_toInt (by omega)]; omega⟩)
          have hwm := k4 (g3 2 (11 * i + w) - 1) (by rw [k2]; rfl)
          obtain ⟨q, gc', gm', a1, a2, a3⟩ := ih (w + 1) (c + 1) _ _ (by omega) (by omega) r2 (dc_t dc3 (fun x _ x2 _ _ _ _ _ => up_cell x2)) (dm_t dm3 (dm_col g4 (mc105 (by omega) (by omega)) _)) (wd_t wd3 (wd_wr hw k2 (by omega)))
          refine ⟨q, gc', gm', fun k0 => ?_, fun k0 => ?_, a3⟩
          · rw [cls, if_neg x0, show mB_thin 1 (nI i) (nI w) 1 g3 = _ from k3, bd2_e, lt_e, show nI c + nI 1 = nI (c + 1) from nI_add c 1, a1]
          · rw [mdl, if_neg x0, wlM x3.1 hi hw, bd_e, hwm, bd_e, lt_e, nI_1, a2]
/-- a house is gnawed -/
theorem gn_sim {B : BKT} {H b : Nat} {Ls : LNS} {hc hm : PH} (r : RTT AA H b Ls B hc hm) {i : Nat} (hi : i < H) : ∃ gc gm, mS_gnaw 68 (nI i) hc = some gc ∧ mm_isGnawed (nI i) hm = some gm ∧ RTT AA H b Ls B gc gm ∧ DC hc gc ∧ DM hm gm ∧ WD H hc gc := by
  obtain ⟨q, g3, g4, q1, q2, q3, q4, q5, q6⟩ := gn_loop (hc := hc) (hm := hm) hi FU 0 0 hc hm (by unfold FU; omega) (by decide) r (dc_r hc) (dm_r hm) (wd_r H hc)
  rw [nI_0] at q1 q2
  have e5 : g3 1 5 = g4 105 6 := q3.1.2.2.2.1 5 (by decide) (by decide)
  have r5 : RTT AA H b Ls B (up g3 1 5 (g3 1 5 + nI q)) (up g4 105 6 (g3 1 5 + nI q)) := rt_f q3 (f := 5) (by decide) (by decide) _
  obtain ⟨g7, g8, n1, n2, n3, n4, n5⟩ := na_sim r5 2 (nI i) (nI q)
  have c6 : ∀ (z : Option PH), ck 6 115 z = z := fun z => ck_nI (i := 6) (by decide) (by decide)
  refine ⟨g7, g8, ?_, ?_, n3, dc_t q4 (dc_t (fun x x1 _ _ _ _ _ _ => up_cell x1) (fun x _ _ x3 x4 _ _ _ => n4 x x3 x4)), dm_t q5 (dm_t (dm_up g4 _ _) n5), fun k w hk hw => ?_, by rw [n4 1 (by decide) (by decide), up_oj (by decide)]; exact q6.2⟩
  · unfold mS_gnaw
    rw [show sT 68 = 1 from rfl, q1, lt_e, n1, bd_e]
  · unfold mm_isGnawed
    rw [q2, c6, c6, lt_e, show ix (6 : Int32) = 6 from rfl, ← e5]
    exact ifn n2 (fun h => some h)
  · rw [n4 2 (by decide) (by decide), up_cell (by decide)]
    exact q6.1 k w hk hw
theorem v_less : ∀ k, k < 100 → ∀ n, n < 100 → (if nI n ≤ nI k then nI n else nI k) = nI (min k n) := by
  intro k hk n hn
  by_cases c : n ≤ k
  · rw [if_pos (nI_le c (by omega)), Nat.min_eq_right c]
  · rw [if_neg (nI_ge (show k < n by omega) (by omega)), Nat.min_eq_left (by omega)]
theorem le_sim {k n : Nat} (hk : k < 100) (hn : n < 100) (h : PH) : mm_lesser (nI k) (nI n) h = some (nI (min k n)) := by
  rw [← v_less k hk n hn]
  unfold mm_lesser
  split <;> rfl
theorem mt_loop {B : BKT} {H b : Nat} {Ls : LNS} {hc hm : PH} {i : Nat} (hi : i < H) : ∀ (n w c : Nat) (gc gm : PH), 4 < n + w → w ≤ 4 → gc 1 3 = 0 → RTT AA H b Ls B gc gm → DC hc gc → DM hm gm → WD H hc gc → ∃ q gc' gm', (∀ k0, mS_melt_L15 68 (nI i) k0 n (nI c) (nI w) gc = k0 (nI q) gc') ∧ (∀ k0, mm_doesMelt_L4 (nI i) k0 n (nI c) (nI w) gm = k0 (nI q) gm') ∧ RTT AA H b Ls B gc' gm' ∧ DC hc gc' ∧ DM hm gm' ∧ WD H hc gc' := by
  intro n
  induction n with
  | zero => intro w c gc gm h1 h2; omega
  | succ n ih =>
    intro w c gc gm h1 h2 fr rr dc dm wd
    have t := rr.1
    have h12 := t.1
    have e4 : gm 105 4 = 0 := by rw [← fr]; exact (t.2.2.2.1 3 (by decide) (by decide)).symm
    have c4' : ∀ (z : Option PH), ck 4 115 z = z := fun z => ck_nI (i := 4) (by decide) (by decide)
    by_cases c4 : w = 4
    · subst c4
      exact ⟨c, gc, gm, fun k0 => by rw [mS_melt_L15, if_pos (by decide)], fun k0 => by rw [mm_doesMelt_L4, if_pos (by decide)], rr, dc, dm, wd⟩
    · have hw : w < 4 := by omega
      have hw4 : ¬ (4 : Int32) ≤ nI w := nI_ge (b := 4) hw (by decide)
      by_cases z : gc 2 (11 * i + w) = 0
      · obtain ⟨q, gc', gm', a1, a2, a3⟩ := ih (w + 1) c gc gm (by omega) (by omega) fr rr dc dm wd
        have hw0 : mm_hasWall (nI i) (nI w) (gc 2 (11 * i + w) - 0) gm = some gm := by
          rw [hwC t hi hw, z, show hl ((0 : Int32) - 0) = 0 by decide, up_id]
          have := t.2.2.2.2.1 i w hi (by omega) (fun y => by omega)
          rw [z] at this
          exact this.symm
        refine ⟨q, gc', gm', fun k0 => ?_, fun k0 => ?_, a3⟩
        · rw [mS_melt_L15, if_neg hw4, show sT 68 = 1 from rfl, rdB t hi (by omega), bd_e, if_pos (by rw [w_0 t hi hw]; exact z), nI_1, a1]
        · rw [mm_doesMelt_L4, if_neg hw4, c4', show ix (4 : Int32) = 4 from rfl, if_pos e4, wlM t hi hw, bd_e, jn2_e, if_pos z]
          change (bd (mm_wallOf (nI i) (nI w) gm) fun r5 => bd (mm_hasWall (nI i) (nI w) (r5 - 0) gm) fun h6 => lt (nI c + 0) fun x7 => mm_doesMelt_L4 (nI i) k0 n x7 (nI w + 1) h6) = _
          rw [wlM t hi hw, bd_e, hw0, bd_e, lt_e, Int32.add_zero, nI_1, a2]
      · obtain ⟨v, g1, g2, v1, v2, v3, v4, v5⟩ := te_melt rr.2.1 t hi hw
        obtain ⟨N, N1, N2, eN⟩ := nat_of v1 (by decide)
        subst eN
        have r1 := rt_law rr v4 v5
        have e2 : g1 2 = gc 2 := v4 2 (by decide) (by decide) (by decide)
        have dc3 : DC hc g1 := dc_t dc (fun x _ _ _ _ x5 x6 x7 => v4 x x5 x6 x7)
        have dm3 : DM hm g2 := dm_t dm (fun x _ _ x3 x4 => v5 x x3 x4)
        have wd3 : WD H hc g1 := wd_t wd (wd_of e2 (by rw [v4 1 (by decide) (by decide) (by decide)]))
        obtain ⟨k, k1, k2, k3, k4, k5⟩ := tn_sim r1.1 hi hw (n := N) (by omega)
        have kc : gc 2 (11 * i + w) = nI k := by rw [← e2]; exact k2
        have r2 := rt_wr r1 hi (c := w) (by omega) (by omega) (nI (k - N)) (fun _ => ⟨by rw [nI_toInt (by omega)]; omega, by rw [nI_toInt (by omega)]; omega⟩)
        have hwm : mm_hasWall (nI i) (nI w) (nI k - nI (min k N)) g2 = some (up g2 (mc w) (mi i w) (nI (k - N))) := by
          rw [hwC r1.1 hi hw, nI_sub (show min k N ≤ k by omega), show k - min k N = k - N by omega]
          have : ∀ x, x < 100 → hl (nI x) = nI x := by decide +kernel
          rw [this _ (by omega)]
        obtain ⟨q, gc', gm', a1, a2, a3⟩ := ih (w + 1) (c + min k N) _ _ (by omega) (by omega) (by rw [up_oc (by decide), v4 1 (by decide) (by decide) (by decide)]; exact fr) r2 (dc_t dc3 (fun x _ x2 _ _ _ _ _ => up_cell x2)) (dm_t dm3 (dm_col g2 (mc105 (by omega) (by omega)) _)) (wd_t wd3 (wd_wr hw k2 (by omega)))
        refine ⟨q, gc', gm', fun k0 => ?_, fun k0 => ?_, a3⟩
        · rw [mS_melt_L15, if_neg hw4, show sT 68 = 1 from rfl, rdB t hi (by omega), bd_e, if_neg (by rw [w_0 t hi hw]; exact z), v2, bd2_e, k3, bd2_e, lt_e, nI_add, nI_1, a1]
        · rw [mm_doesMelt_L4, if_neg hw4, c4', show ix (4 : Int32) = 4 from rfl, if_pos e4, wlM t hi hw, bd_e, jn2_e, if_neg z, bd_e, v3, bd2_e, kc, le_sim (by omega) (by omega), bd_e]
          change (bd (mm_wallOf (nI i) (nI w) g2) fun r5 => bd (mm_hasWall (nI i) (nI w) (r5 - nI (min k N)) g2) fun h6 => lt (nI c + nI (min k N)) fun x7 => mm_doesMelt_L4 (nI i) k0 n x7 (nI w + 1) h6) = _
          rw [wlM r1.1 hi hw, bd_e, k2, hwm, bd_e, lt_e, nI_add, nI_1, a2]
/-- a house melts -/
theorem mt_sim {B : BKT} {H b : Nat} {Ls : LNS} {hc hm : PH} (r : RTT AA H b Ls B hc hm) {i : Nat} (hi : i < H) : ∃ gc gm, mS_melt 68 (nI i) hc = some gc ∧ mm_doesMelt (nI i) hm = some gm ∧ RTT AA H b Ls B gc gm ∧ DC hc gc ∧ DM hm gm ∧ WD H hc gc := by
  have e4 : hc 1 3 = hm 105 4 := r.1.2.2.2.1 3 (by decide) (by decide)
  have c4' : ∀ (z : Option PH), ck 4 115 z = z := fun z => ck_nI (i := 4) (by decide) (by decide)
  unfold mS_melt mm_doesMelt
  rw [show sT 68 = 1 from rfl]
  by_cases f : hc 1 3 = 0
  · obtain ⟨q, g3, g4, q1, q2, q3, q4, q5, q6⟩ := mt_loop (hc := hc) (hm := hm) hi FU 0 0 hc hm (by unfold FU; omega) (by decide) f r (dc_r hc) (dm_r hm) (wd_r H hc)
    rw [nI_0] at q1 q2
    obtain ⟨g7, g8, n1, n2, n3, n4, n5⟩ := na_sim q3 3 (nI i) (nI q)
    rw [if_pos f, q1, q2]
    refine ⟨g7, g8, by rw [n1, bd_e], ifn n2 (fun h => some h), n3, dc_t q4 (fun x _ _ x3 x4 _ _ _ => n4 x x3 x4), dm_t q5 n5, fun k w hk hw => ?_, by rw [n4 1 (by decide) (by decide)]; exact q6.2⟩
    rw [n4 2 (by decide) (by decide)]
    exact q6.1 k w hk hw
  · refine ⟨hc, hm, by rw [if_neg f], ?_, r, dc_r hc, dm_r hm, wd_r H hc⟩
    rw [show FU = 99999 + 1 from rfl, mm_doesMelt_L4, if_neg (by decide), c4', show ix (4 : Int32) = 4 from rfl, if_neg (by rw [← e4]; exact f), if_pos (by decide)]
end
section
/-! THE SKY: both sides -/
def SK (N : Nat) (hc hm : PH) : Prop := N ≤ 16 ∧ hc 10 1 = 5 ∧ hc 10 3 = nI N ∧ hm 104 33 = nI N ∧ ∀ r, r < N → hc 11 (5 * r) = hm 121 (3 * r) ∧ ((hc 11 (5 * r + 1) = 1 ∧ hm 121 (3 * r + 1) = 0 ∧ hc 11 (5 * r + 2) = hm 121 (3 * r + 2)) ∨ (hc 11 (5 * r + 1) = 2 ∧ hm 121 (3 * r + 1) = 1) ∨ (hc 11 (5 * r + 1) = 3 ∧ hm 121 (3 * r + 1) = 2))
theorem sk_of {N : Nat} {hc hm gc gm : PH} (s : SK N hc hm) (c0 : gc 10 = hc 10) (c1 : gc 11 = hc 11) (m3 : gm 104 33 = hm 104 33) (m1 : gm 121 = hm 121) : SK N gc gm := by
  unfold SK
  rw [c0, c1, m3, m1]
  exact s
theorem at_10 {h : PH} {m r c : Nat} (c1 : h 10 1 = 5) (c3 : h 10 3 = nI m) (hm : m ≤ 16) (hr : r < m) (hc : c < 5) : mR_at 10 (nI r) (nI c) h = some (h 11 (5 * r + c)) := by
  unfold mR_at
  rw [if_neg (nI_pos (by omega)), c3, if_neg (nI_ge hr (by omega)), if_neg (nI_pos (by omega)), c1, if_pos (show nI c < (5 : Int32) from nI_lt (b := 5) hc (by decide)), show nI r * (5 : Int32) = nI (r * 5) from nI_mul r 5, nI_add, show ln (10 + 1) = 80 from rfl, ck_nI (by omega) (by decide), show ix (nI (r * 5 + c)) = r * 5 + c from nI_clamp (by omega), Nat.mul_comm r 5]
theorem wt_loop {B : BKT} {A : Nat → Prop} {H b N : Nat} {Ls : LNS} {hc hm : PH} (s : SK N hc hm) : ∀ (n nM r : Nat) (gc gm : PH), N < n + r → N < nM + r → r ≤ N → RTT A H b Ls B gc gm → (∀ x, x ≠ 1 → gc x = hc x) → DM hm gm → gc 1 6 = hc 1 6 → ∃ gc' gm', mS_weather_L10 68 n (nI r) gc = some gc' ∧ mm_skyOf_L2 nM (nI (3 * r)) gm = some gm' ∧ RTT A H b Ls B gc' gm' ∧ (∀ x, x ≠ 1 → gc' x = hc x) ∧ DM hm gm' ∧ gc' 1 6 = hc 1 6 := by
  intro n
  induction n with
  | zero => intro nM r gc gm h1 h2 h3; omega
  | succ n ih =>
    intro nM r gc gm h1 h2 h3 rr fx dm f6
    cases nM with
    | zero => omega
    | succ nM =>
    obtain ⟨s1, s2, s3, s4, s5⟩ : SK N gc gm := sk_of s (fx 10 (by decide)) (fx 11 (by decide)) (by rw [dm 104 (by decide) (by decide) (by decide) (by decide)]) (dm 121 (by decide) (by decide) (by decide) (by decide))
    have t3 : (3 : Int32) * nI N = nI (3 * N) := nI_mul 3 N
    by_cases c : r = N
    · refine ⟨gc, gm, ?_, ?_, rr, fx, dm, f6⟩
      · rw [mS_weather_L10, s3, if_pos (nI_le (by omega) (by omega))]
      · rw [mm_skyOf_L2, s4, t3, if_pos (nI_le (by omega) (by omega))]
    · have hr : r < N := by omega
      obtain ⟨q0, q1⟩ := s5 r hr
      have a0 : mR_at 10 (nI r) 0 gc = some (hm 121 (3 * r)) := by
        have := at_10 (c := 0) s2 s3 s1 hr (by decide)
        rw [Nat.add_zero, q0, dm 121 (by decide) (by decide) (by decide) (by decide)] at this
        exact this
      have a1 : mR_at 10 (nI r) 1 gc = some (gc 11 (5 * r + 1)) := at_10 (c := 1) s2 s3 s1 hr (by decide)
      have a2 : ∀ g : PH, g 10 = gc 10 → g 11 = gc 11 → mR_at 10 (nI r) 2 g = some (gc 11 (5 * r + 2)) := fun g g1 g2 => by
        have := at_10 (h := g) (c := 2) (by rw [g1]; exact s2) (by rw [g1]; exact s3) s1 hr (by decide)
        rw [g2] at this
        exact this
      have m21 : gm 121 = hm 121 := dm 121 (by decide) (by decide) (by decide) (by decide)
      have e6 : gc 1 6 = gm 105 0 := rr.1.2.2.2.1 6 (by decide) (by decide)
      have k0 : ∀ (z : Option PH), ck (nI (3 * r)) 96 z = z := fun z => ck_nI (by omega) (by decide)
      have k1 : ∀ (z : Option PH), ck (nI (3 * r + 1)) 96 z = z := fun z => ck_nI (by omega) (by decide)
      have k2 : ∀ (z : Option PH), ck (nI (3 * r + 2)) 96 z = z := fun z => ck_nI (by omega) (by decide)
      have j0 : ∀ (z : Option PH), ck 0 115 z = z := fun z => ck_nI (i := 0) (by decide) (by decide)
      have j3 : ∀ (z : Option PH), ck 3 115 z = z := fun z => ck_nI (i := 3) (by decide) (by decide)
      have j4 : ∀ (z : Option PH), ck 4 115 z = z := fun z => ck_nI (i := 4) (by decide) (by decide)
      have x0 : ix (nI (3 * r)) = 3 * r := nI_clamp (by omega)
      have x1 : ix (nI (3 * r + 1)) = 3 * r + 1 := nI_clamp (by omega)
      have x2 : ix (nI (3 * r + 2)) = 3 * r + 2 := nI_clamp (by omega)
      have p1 : nI (3 * r) + (1 : Int32) = nI (3 * r + 1) := nI_1 _
      have p2 : nI (3 * r) + (2 : Int32) = nI (3 * r + 2) := nI_add _ 2
      have p3 : nI (3 * r) + (3 : Int32) = nI (3 * (r + 1)) := nI_add _ 3
      have cls : mS_weather_L10 68 (n + 1) (nI r) gc = if hm 121 (3 * r) = gc 1 6 then (if gc 11 (5 * r + 1) = 1 then bd (mR_at 10 (nI r) 2 gc) fun r3 => lt (up gc 1 2 r3) fun h4 => mS_weather_L10 68 n (nI (r + 1)) h4 else if gc 11 (5 * r + 1) = 2 then lt (up gc 1 3 1) fun h5 => mS_weather_L10 68 n (nI (r + 1)) h5 else lt (up gc 1 3 0) fun h6 => mS_weather_L10 68 n (nI (r + 1)) h6) else mS_weather_L10 68 n (nI (r + 1)) gc := by
        rw [mS_weather_L10, s3, if_neg (nI_ge hr (by omega)), a0, bd_e, show sT 68 = 1 from rfl, a1, bd_e, nI_1]
      have mdl : mm_skyOf_L2 (nM + 1) (nI (3 * r)) gm = if hm 121 (3 * r) = gc 1 6 then (if gm 121 (3 * r + 1) = 0 then lt (up gm 105 3 (gm 121 (3 * r + 2))) fun h1 => lt (nI (3 * (r + 1))) fun x2 => mm_skyOf_L2 nM x2 h1 else jn1 (fun (x4 : Int32) => lt (up gm 105 4 x4) fun h5 => lt (nI (3 * (r + 1))) fun x6 => mm_skyOf_L2 nM x6 h5) fun j3 => if gm 121 (3 * r + 1) = 1 then j3 1 else j3 0) else lt (nI (3 * (r + 1))) fun x7 => mm_skyOf_L2 nM x7 gm := by
        rw [mm_skyOf_L2, s4, t3, if_neg (nI_ge (by omega) (by omega)), k0, j0, x0, show ix (0 : Int32) = 0 from rfl, p1, p2, p3, k1, k1, k2, x1, x2, j3, show ix (3 : Int32) = 3 from rfl, show ix (4 : Int32) = 4 from rfl, ← e6, m21]
        simp only [j4]
      have go : ∀ (f : Nat) (v : Int32), 2 ≤ f → f < 6 → ∃ gc' gm', mS_weather_L10 68 n (nI (r + 1)) (up gc 1 f v) = some gc' ∧ mm_skyOf_L2 nM (nI (3 * (r + 1))) (up gm 105 (sf f) v) = some gm' ∧ RTT A H b Ls B gc' gm' ∧ (∀ x, x ≠ 1 → gc' x = hc x) ∧ DM hm gm' ∧ gc' 1 6 = hc 1 6 := fun f v f1 f2 =>
        ih nM (r + 1) _ _ (by omega) (by omega) (by omega) (rt_f rr f1 (by omega) v) (fun x hx => by rw [up_cell hx]; exact fx x hx) (dm_t dm (dm_up gm _ v)) (by rw [up_oj (by omega)]; exact f6)
      rw [cls, mdl]
      by_cases q : hm 121 (3 * r) = gc 1 6
      · rw [if_pos q, if_pos q]
        rcases q1 with ⟨b1, b2, b3⟩ | ⟨b1, b2⟩ | ⟨b1, b2⟩
        · rw [if_pos b1, if_pos b2, a2 gc rfl rfl, bd_e, lt_e, lt_e, lt_e, ← b3]
          exact go 2 _ (by decide) (by decide)
        · rw [if_neg (by rw [b1]; decide), if_pos b1, if_neg (by rw [b2]; decide), jn1_e, if_pos b2, lt_e]
          change ∃ gc' gm', _ ∧ (lt (up gm 105 4 1) fun h5 => lt (nI (3 * (r + 1))) fun x6 => mm_skyOf_L2 nM x6 h5) = some gm' ∧ _
          rw [lt_e, lt_e]
          exact go 3 1 (by decide) (by decide)
        · rw [if_neg (by rw [b1]; decide), if_neg (by rw [b1]; decide), if_neg (by rw [b2]; decide), jn1_e, if_neg (by rw [b2]; decide), lt_e]
          change ∃ gc' gm', _ ∧ (lt (up gm 105 4 0) fun h5 => lt (nI (3 * (r + 1))) fun x6 => mm_skyOf_L2 nM x6 h5) = some gm' ∧ _
          rw [lt_e, lt_e]
          exact go 3 0 (by decide) (by decide)
      · rw [if_neg q, if_neg q, lt_e]
        exact ih nM (r + 1) gc gm (by omega) (by omega) (by omega) rr fx dm f6
theorem wt_sim {B : BKT} {A : Nat → Prop} {H b N : Nat} {Ls : LNS} {hc hm : PH} (s : SK N hc hm) (r : RTT A H b Ls B hc hm) : ∃ gc gm, mS_weather 68 hc = some gc ∧ mm_skyOf hm = some gm ∧ RTT A H b Ls B gc gm ∧ (∀ x, x ≠ 1 → gc x = hc x) ∧ DM hm gm ∧ gc 1 6 = hc 1 6 := by
  have s1 := s.1
  obtain ⟨gc, gm, a1, a2, a3⟩ := wt_loop s FU FU 0 hc hm (by unfold FU; omega) (by unfold FU; omega) (Nat.zero_le _) r (fun _ _ => rfl) (dm_r hm) rfl
  exact ⟨gc, gm, a1, a2, a3⟩
/-! THE OFFICE'S YEAR: both sides -/
def OF (H N : Nat) (hc hm : PH) : Prop := N ≤ 16 ∧ hc 12 1 = 5 ∧ hc 12 3 = nI N ∧ hm 104 35 = nI N ∧ ∀ r, r < N → hc 13 (5 * r) = hm 122 (5 * r) ∧ (∃ k, k < 4 ∧ hc 13 (5 * r + 1) = nI (k + 1) ∧ hm 122 (5 * r + 1) = nI k) ∧ (∃ a, a < H ∧ hc 13 (5 * r + 2) = nI a ∧ hm 122 (5 * r + 2) = nI a) ∧ (∃ w, w < 4 ∧ hc 13 (5 * r + 3) = nI w ∧ hm 122 (5 * r + 3) = nI w) ∧ ∃ m, m < 100 ∧ hc 13 (5 * r + 4) = nI m ∧ hm 122 (5 * r + 4) = nI m
theorem of_of {H N : Nat} {hc hm gc gm : PH} (s : OF H N hc hm) (c0 : gc 12 = hc 12) (c1 : gc 13 = hc 13) (m3 : gm 104 35 = hm 104 35) (m1 : gm 122 = hm 122) : OF H N gc gm := by
  unfold OF
  rw [c0, c1, m3, m1]
  exact s
theorem at_12 {h : PH} {m r c : Nat} (c1 : h 12 1 = 5) (c3 : h 12 3 = nI m) (hm : m ≤ 16) (hr : r < m) (hc : c < 5) : mR_at 12 (nI r) (nI c) h = some (h 13 (5 * r + c)) := by
  unfold mR_at
  rw [if_neg (nI_pos (by omega)), c3, if_neg (nI_ge hr (by omega)), if_neg (nI_pos (by omega)), c1, if_pos (show nI c < (5 : Int32) from nI_lt (b := 5) hc (by decide)), show nI r * (5 : Int32) = nI (r * 5) from nI_mul r 5, nI_add, show ln (12 + 1) = 80 from rfl, ck_nI (by omega) (by decide), show ix (nI (r * 5 + c)) = r * 5 + c from nI_clamp (by omega), Nat.mul_comm r 5]
theorem rt_mono {B : BKT} {A : Nat → Prop} {H b b' : Nat} {Ls : LNS} {hc hm : PH} (r : RTT A H b Ls B hc hm) (h1 : b ≤ b') (h2 : b' < 1000000) : RTT A H b' Ls B hc hm := by
  obtain ⟨q1, q2, q3, q4, q5, q6, q7⟩ := r
  exact ⟨q1, q2, q3, q4, q5, q6, ⟨q7.1, by have := q7.2.1; omega, h2⟩⟩
theorem gr_e (z : Int32) (h : PH) : mm_greater 0 z h = some (imax 0 z) := by
  unfold mm_greater imax
  by_cases c : (0 : Int32) < z
  · rw [if_pos c, if_pos (Int32.le_of_lt c)]
  · rw [if_neg c]
    by_cases d : (0 : Int32) ≤ z
    · rw [if_pos d]
      rw [Int32.lt_iff_toInt_lt] at c
      rw [Int32.le_iff_toInt_le] at d
      rw [show z = 0 from Int32.toInt_inj.mp (by omega)]
    · rw [if_neg d]
theorem ls_e (a z : Int32) (h : PH) : mm_lesser a z h = some (imin a z) := by
  unfold mm_lesser imin
  by_cases c : z < a
  · rw [if_pos c, if_pos (Int32.le_of_lt c)]
  · rw [if_neg c]
    by_cases d : z ≤ a
    · rw [if_pos d]
      rw [Int32.lt_iff_toInt_lt] at c
      rw [Int32.le_iff_toInt_le] at d
      rw [show z = a from Int32.toInt_inj.mp (by omega)]
    · rw [if_neg d]
/-- a line of the office -/
theorem ol_sim {B : BKT} {A : Nat → Prop} {H b N : Nat} {Ls : LNS} {hc hm : PH} (o : OF H N hc hm) (r0 : RTT A H b Ls B hc hm) (hb : b + 1 < 1000000) {r : Nat} (hr : r < N) : ∃ gc gm, mS_officeLine 68 12 (nI r) hc = some gc ∧ mm_does (nI (5 * r)) hm = some gm ∧ RTT A H (b + 1) Ls B gc gm ∧ DC hc gc ∧ DM hm gm ∧ gc 1 = hc 1 := by
  obtain ⟨o1, o2, o3, o4, o5⟩ := o
  obtain ⟨q0, ⟨k, k1, k2, k3⟩, ⟨a, a1, a2, a3⟩, ⟨w, w1, w2, w3⟩, ⟨m, m1, m2, m3⟩⟩ := o5 r hr
  have t := r0.1
  have h12 := t.1
  have at1 : mR_at 12 (nI r) 1 hc = some (nI (k + 1)) := by
    have := at_12 (c := 1) o2 o3 o1 hr (by decide)
    rw [k2] at this
    exact this
  have at2 : mR_at 12 (nI r) 2 hc = some (nI a) := by
    have := at_12 (c := 2) o2 o3 o1 hr (by decide)
    rw [a2] at this
    exact this
  have at3 : mR_at 12 (nI r) 3 hc = some (nI w) := by
    have := at_12 (c := 3) o2 o3 o1 hr (by decide)
    rw [w2] at this
    exact this
  have at4 : mR_at 12 (nI r) 4 hc = some (nI m) := by
    have := at_12 (c := 4) o2 o3 o1 hr (by decide)
    rw [m2] at this
    exact this
  have cK : ∀ c, c < 5 → ∀ (z : Option PH), ck (nI (5 * r + c)) 160 z = z := fun c hc' z => ck_nI (by omega) (by decide)
  have xK : ∀ c, c < 5 → ix (nI (5 * r + c)) = 5 * r + c := fun c hc' => nI_clamp (by omega)
  have p1 : nI (5 * r) + (1 : Int32) = nI (5 * r + 1) := nI_1 _
  have p2 : nI (5 * r) + (2 : Int32) = nI (5 * r + 2) := nI_add _ 2
  have p3 : nI (5 * r) + (3 : Int32) = nI (5 * r + 3) := nI_add _ 3
  have p4 : nI (5 * r) + (4 : Int32) = nI (5 * r + 4) := nI_add _ 4
  have cls : mS_officeLine 68 12 (nI r) hc = if nI (k + 1) = 1 then bd (mB_read 1 (nI a) 8 hc) fun r4 => bd (mB_write 1 (nI a) 8 (imax 0 (r4 - nI m)) hc) fun h5 => some h5 else if nI (k + 1) = 2 then bd (mB_thicken 1 (nI a) (nI w) (nI m) hc) fun h7 => some h7 else if nI (k + 1) = 3 then bd (mS_mayWed 68 (nI a) hc) fun r8 => if r8 = 0 then some hc else bd (mS_wed 68 (nI a) hc) fun h9 => some h9 else bd (mB_isUp 1 (nI a) hc) fun r10 => if r10 = 0 then some hc else bd (mS_raze 68 (nI a) hc) fun h11 => some h11 := by
    unfold mS_officeLine
    rw [at2, bd_e, at4, bd_e, at1, bd_e, at3, bd_e, show sT 68 = 1 from rfl]
  have c67 : ∀ (z : Option PH), ck (nI (67 + a)) 115 z = z := fun z => ck_nI (by omega) (by decide)
  rw [cls]
  unfold mm_does
  rw [p1, p2, p4, cK 1 (by decide), lt_e, cK 2 (by decide), lt_e, cK 4 (by decide), lt_e, xK 1 (by decide), xK 2 (by decide), xK 4 (by decide), k3, a3, m3, p3, xK 3 (by decide)]
  simp only [jn1_e]
  have kc : k = 0 ∨ k = 1 ∨ k = 2 ∨ k = 3 := by omega
  rcases kc with e | e | e | e
  · subst e
    have c8 : hm 105 (67 + a) = hc 2 (11 * a + 8) := (colM t a1).2.2.2.2.1
    refine ⟨_, _, ?_, ?_, rt_mono (rt_wr r0 a1 (c := 8) (by decide) (by decide) (imax 0 (hc 2 (11 * a + 8) - nI m)) (fun z => by omega)) (Nat.le_succ b) hb, fun x _ x2 _ _ _ _ _ => up_cell x2, dm_up hm _ _, up_cell (by decide)⟩
    · rw [if_pos (show nI (0 + 1) = (1 : Int32) from rfl), show mB_read 1 (nI a) 8 hc = _ from rdB t a1 (c := 8) (by decide), bd_e, show mB_write 1 (nI a) 8 _ hc = _ from wrB t a1 (c := 8) (by decide) _, bd_e]
    · rw [if_pos (show nI 0 = (0 : Int32) from rfl), show (67 : Int32) + nI a = nI (67 + a) from nI_add 67 a, c67, show ix (nI (67 + a)) = 67 + a from nI_clamp (by omega), c8, gr_e, bd_e, c67, lt_e, if_neg (show ¬ nI 0 = (1 : Int32) by decide), if_neg (show ¬ nI 0 = (2 : Int32) by decide), if_neg (show ¬ nI 0 = (3 : Int32) by decide)]
      rfl
  · subst e
    obtain ⟨v, v1, v2, v3⟩ := tk_sim t a1 w1 m1
    have hv : R 0 99 v := by
      have := v3.2.2.2.2.2 a w a1 w1
      rw [up_same] at this
      exact this
    refine ⟨_, _, ?_, ?_, rt_mono (rt_wr r0 a1 (c := w) (by omega) (by omega) v (fun _ => hv)) (Nat.le_succ b) hb, fun x _ x2 _ _ _ _ _ => up_cell x2, dm_col hm (mc105 (by omega) (by omega)) v, up_cell (by decide)⟩
    · rw [if_neg (show ¬ nI (1 + 1) = (1 : Int32) by decide), if_pos (show nI (1 + 1) = (2 : Int32) from rfl), v1, bd_e]
    · rw [if_neg (show ¬ nI 1 = (0 : Int32) by decide), if_pos (show nI 1 = (1 : Int32) from rfl), cK 3 (by decide), cK 3 (by decide), w3, wlM t a1 w1, bd_e, v2 _ rfl, bd_e, if_neg (show ¬ nI 1 = (2 : Int32) by decide), if_neg (show ¬ nI 1 = (3 : Int32) by decide)]
  · subst e
    obtain ⟨x, x1, x2, x3⟩ := cw_sim t a1
    rw [if_neg (show ¬ nI (2 + 1) = (1 : Int32) by decide), if_neg (show ¬ nI (2 + 1) = (2 : Int32) by decide), if_pos (show nI (2 + 1) = (3 : Int32) from rfl), x2, bd_e, if_neg (show ¬ nI 2 = (0 : Int32) by decide), if_neg (show ¬ nI 2 = (1 : Int32) by decide), if_pos (show nI 2 = (2 : Int32) from rfl), x3, bd_e]
    by_cases x0 : x = 0
    · rw [if_pos x0, if_pos x0, if_neg (show ¬ nI 2 = (3 : Int32) by decide)]
      exact ⟨hc, hm, rfl, rfl, rt_mono r0 (Nat.le_succ b) hb, dc_r hc, dm_r hm, rfl⟩
    · obtain ⟨gc, gm, g1, g2, g3, g4, g5, g6⟩ := we_sim r0 hb a1
      rw [if_neg x0, if_neg x0, g1, bd_e, g2, bd_e, if_neg (show ¬ nI 2 = (3 : Int32) by decide)]
      exact ⟨gc, gm, rfl, rfl, g3, g4, g5, g6⟩
  · subst e
    rw [if_neg (show ¬ nI (3 + 1) = (1 : Int32) by decide), if_neg (show ¬ nI (3 + 1) = (2 : Int32) by decide), if_neg (show ¬ nI (3 + 1) = (3 : Int32) by decide), isBB t a1, bd_e, if_neg (show ¬ nI 3 = (0 : Int32) by decide), if_neg (show ¬ nI 3 = (1 : Int32) by decide), if_neg (show ¬ nI 3 = (2 : Int32) by decide), if_pos (show nI 3 = (3 : Int32) from rfl), isM t a1, bd_e]
    by_cases u : upI hc a = 0
    · rw [if_pos u, if_pos u]
      exact ⟨hc, hm, rfl, rfl, rt_mono r0 (Nat.le_succ b) hb, dc_r hc, dm_r hm, rfl⟩
    · obtain ⟨gc, gm, g1, g2, g3, g4, g5, g6⟩ := rz_sim r0 a1
      rw [if_neg u, if_neg u, g1, bd_e, g2, bd_e]
      exact ⟨gc, gm, rfl, rfl, rt_mono g3 (Nat.le_succ b) hb, g4, g5, g6⟩
/-- all lines of this quarter -/
theorem ol_loop {B : BKT} {A : Nat → Prop} {H b N : Nat} {Ls : LNS} {hc hm : PH} (o : OF H N hc hm) (hb : b + N < 1000000) : ∀ (n nM r : Nat) (gc gm : PH), N < n + r → N < nM + r → r ≤ N → RTT A H (b + r) Ls B gc gm → DC hc gc → DM hm gm → gc 1 6 = hc 1 6 → ∃ gc' gm', (∀ k0, mS_pass_L6 68 k0 n (nI r) gc = k0 gc') ∧ (∀ k0, mm_goesBy_L6 k0 nM (nI (5 * r)) gm = k0 gm') ∧ RTT A H (b + N) Ls B gc' gm' ∧ DC hc gc' ∧ DM hm gm' ∧ gc' 1 6 = hc 1 6 := by
  intro n
  induction n with
  | zero => intro nM r gc gm h1 h2 h3; omega
  | succ n ih =>
    intro nM r gc gm h1 h2 h3 rr dc dm f6
    cases nM with
    | zero => omega
    | succ nM =>
    have oo : OF H N gc gm := of_of o (dc 12 (by decide) (by decide) (by decide) (by decide) (by decide) (by decide) (by decide)) (dc 13 (by decide) (by decide) (by decide) (by decide) (by decide) (by decide) (by decide)) (by rw [dm 104 (by decide) (by decide) (by decide) (by decide)]) (dm 122 (by decide) (by decide) (by decide) (by decide))
    obtain ⟨o1, o2, o3, o4, o5⟩ := oo
    have oo : OF H N gc gm := ⟨o1, o2, o3, o4, o5⟩
    have t5 : (5 : Int32) * nI N = nI (5 * N) := nI_mul 5 N
    by_cases c : r = N
    · subst c
      refine ⟨gc, gm, fun k0 => ?_, fun k0 => ?_, rr, dc, dm, f6⟩
      · rw [mS_pass_L6, o3, if_pos (nI_le (by omega) (by omega))]
      · rw [mm_goesBy_L6, o4, t5, if_pos (nI_le (by omega) (by omega))]
    · have hr : r < N := by omega
      obtain ⟨q0, _⟩ := o5 r hr
      have a0 : mR_at 12 (nI r) 0 gc = some (gm 122 (5 * r)) := by
        have := at_12 (c := 0) o2 o3 o1 hr (by decide)
        rw [Nat.add_zero, q0] at this
        exact this
      have e6 : gc 1 6 = gm 105 0 := rr.1.2.2.2.1 6 (by decide) (by decide)
      have k5 : ∀ (z : Option (Int32 × PH)), ck (nI (5 * r)) 160 z = z := fun z => ck_nI (by omega) (by decide)
      have j0 : ∀ (z : Option (Int32 × PH)), ck 0 115 z = z := fun z => ck_nI (i := 0) (by decide) (by decide)
      have p5 : nI (5 * r) + (5 : Int32) = nI (5 * (r + 1)) := nI_add _ 5
      have x5 : ix (nI (5 * r)) = 5 * r := nI_clamp (by omega)
      by_cases q : gm 122 (5 * r) = gc 1 6
      · obtain ⟨g1, g2, a1, a2, a3, a4, a5, a6⟩ := ol_sim oo rr (by omega) hr
        obtain ⟨gc', gm', b1, b2, b3⟩ := ih nM (r + 1) g1 g2 (by omega) (by omega) (by omega) a3 (dc_t dc a4) (dm_t dm a5) (by rw [a6]; exact f6)
        refine ⟨gc', gm', fun k0 => ?_, fun k0 => ?_, b3⟩
        · rw [mS_pass_L6, o3, if_neg (nI_ge hr (by omega)), a0, bd_e, show sT 68 = 1 from rfl, if_pos q, a1, bd_e, nI_1, b1]
        · rw [mm_goesBy_L6, o4, t5, if_neg (nI_ge (by omega) (by omega)), k5, j0, x5, show ix (0 : Int32) = 0 from rfl, if_pos (by rw [← e6]; exact q), a2, bd_e, lt_e, p5, b2]
      · obtain ⟨gc', gm', b1, b2, b3⟩ := ih nM (r + 1) gc gm (by omega) (by omega) (by omega) (rt_mono rr (by omega) (by omega)) dc dm f6
        refine ⟨gc', gm', fun k0 => ?_, fun k0 => ?_, b3⟩
        · rw [mS_pass_L6, o3, if_neg (nI_ge hr (by omega)), a0, bd_e, show sT 68 = 1 from rfl, if_neg q, nI_1, b1]
        · rw [mm_goesBy_L6, o4, t5, if_neg (nI_ge (by omega) (by omega)), k5, j0, x5, show ix (0 : Int32) = 0 from rfl, if_neg (by rw [← e6]; exact q), lt_e, p5, b2]
/-! house by house: rent, rats, rain, frost -/
theorem rl_loop2 {B : BKT} {H b : Nat} {Ls : LNS} {hc hm : PH} (p p' : Int32) : ∀ (n k : Nat) (gc gm : PH), H < n + k → k ≤ H → RTT AA H b Ls B gc gm → DC hc gc → DM hm gm → WD H hc gc → ∃ gc' gm', (∀ k0, mS_pass_L70 68 p k0 n (nI k) gc = k0 gc') ∧ (∀ k0, mm_goesBy_L50 p' k0 n (nI k) gm = k0 gm') ∧ RTT AA H b Ls B gc' gm' ∧ DC hc gc' ∧ DM hm gm' ∧ WD H hc gc' := by
  intro n
  induction n with
  | zero => intro k gc gm h1 h2; omega
  | succ n ih =>
    intro k gc gm h1 h2 rr dc dm wd
    have t := rr.1
    have h12 := t.1
    by_cases c : k = H
    · subst c
      refine ⟨gc, gm, fun k0 => ?_, fun k0 => ?_, rr, dc, dm, wd⟩
      · rw [mS_pass_L70, show sT 68 = 1 from rfl, t.2.1, if_pos (nI_le (Nat.le_refl _) (by omega))]
      · rw [mm_goesBy_L50, t.2.2.1, if_pos (nI_le (Nat.le_refl _) (by omega))]
    · have hk : k < H := by omega
      obtain ⟨g1, g2, a1, a2, a3, a4, a5, a6⟩ := pr_sim rr hk
      obtain ⟨gc', gm', b1, b2, b3⟩ := ih (k + 1) g1 g2 (by omega) (by omega) a3 (dc_t dc a4) (dm_t dm a5) (wd_t wd a6)
      obtain ⟨gi, gj, i1, i2, i3⟩ := ih (k + 1) gc gm (by omega) (by omega) rr dc dm wd
      have c79 : ∀ (z : Option (Int32 × PH)), ck (nI (79 + k)) 115 z = z := fun z => ck_nI (by omega) (by decide)
      have e7 : gm 105 (79 + k) = gc 2 (11 * k + 7) := (colM t hk).2.2.2.1
      by_cases u : upI gc k = 0
      · refine ⟨gi, gj, fun k0 => ?_, fun k0 => ?_, i3⟩
        · rw [mS_pass_L70, show sT 68 = 1 from rfl, t.2.1, if_neg (nI_ge hk (by omega)), isBB t hk, bd_e, if_pos u, nI_1, i1]
        · rw [mm_goesBy_L50, t.2.2.1, if_neg (nI_ge hk (by omega)), isM t hk, bd_e, if_pos u, nI_1, i2]
      · by_cases l : gc 2 (11 * k + 7) ≤ 0
        · refine ⟨gi, gj, fun k0 => ?_, fun k0 => ?_, i3⟩
          · rw [mS_pass_L70, show sT 68 = 1 from rfl, t.2.1, if_neg (nI_ge hk (by omega)), isBB t hk, bd_e, if_neg u, show mB_read 1 (nI k) 7 gc = _ from rdB t hk (c := 7) (by decide), bd_e, if_pos l, nI_1, i1]
          · rw [mm_goesBy_L50, t.2.2.1, if_neg (nI_ge hk (by omega)), isM t hk, bd_e, if_neg u, show (79 : Int32) + nI k = nI (79 + k) from nI_add 79 k, c79, show ix (nI (79 + k)) = 79 + k from nI_clamp (by omega), e7, if_pos l, nI_1, i2]
        · refine ⟨gc', gm', fun k0 => ?_, fun k0 => ?_, b3⟩
          · rw [mS_pass_L70, show sT 68 = 1 from rfl, t.2.1, if_neg (nI_ge hk (by omega)), isBB t hk, bd_e, if_neg u, show mB_read 1 (nI k) 7 gc = _ from rdB t hk (c := 7) (by decide), bd_e, if_neg l, a1, bd_e, nI_1, b1]
          · rw [mm_goesBy_L50, t.2.2.1, if_neg (nI_ge hk (by omega)), isM t hk, bd_e, if_neg u, show (79 : Int32) + nI k = nI (79 + k) from nI_add 79 k, c79, show ix (nI (79 + k)) = 79 + k from nI_clamp (by omega), e7, if_neg l, a2, bd_e, nI_1, b2]
theorem gl_loop2 {B : BKT} {H b : Nat} {Ls : LNS} {hc hm : PH} (p p' : Int32) : ∀ (n k : Nat) (gc gm : PH), H < n + k → k ≤ H → RTT AA H b Ls B gc gm → DC hc gc → DM hm gm → WD H hc gc → ∃ gc' gm', (∀ k0, mS_pass_L118 68 p k0 n (nI k) gc = k0 gc') ∧ (∀ k0, mm_goesBy_L91 p' k0 n (nI k) gm = k0 gm') ∧ RTT AA H b Ls B gc' gm' ∧ DC hc gc' ∧ DM hm gm' ∧ WD H hc gc' := by
  intro n
  induction n with
  | zero => intro k gc gm h1 h2; omega
  | succ n ih =>
    intro k gc gm h1 h2 rr dc dm wd
    have t := rr.1
    have h12 := t.1
    by_cases c : k = H
    · subst c
      refine ⟨gc, gm, fun k0 => ?_, fun k0 => ?_, rr, dc, dm, wd⟩
      · rw [mS_pass_L118, show sT 68 = 1 from rfl, t.2.1, if_pos (nI_le (Nat.le_refl _) (by omega))]
      · rw [mm_goesBy_L91, t.2.2.1, if_pos (nI_le (Nat.le_refl _) (by omega))]
    · have hk : k < H := by omega
      obtain ⟨g1, g2, a1, a2, a3, a4, a5, a6⟩ := gn_sim rr hk
      obtain ⟨gc', gm', b1, b2, b3⟩ := ih (k + 1) g1 g2 (by omega) (by omega) a3 (dc_t dc a4) (dm_t dm a5) (wd_t wd a6)
      refine ⟨gc', gm', fun k0 => ?_, fun k0 => ?_, b3⟩
      · rw [mS_pass_L118, show sT 68 = 1 from rfl, t.2.1, if_neg (nI_ge hk (by omega)), a1, bd_e, nI_1, b1]
      · rw [mm_goesBy_L91, t.2.2.1, if_neg (nI_ge hk (by omega)), a2, bd_e, nI_1, b2]
theorem ml_loop2 {B : BKT} {H b : Nat} {Ls : LNS} {hc hm : PH} (p p' : Int32) : ∀ (n k : Nat) (gc gm : PH), H < n + k → k ≤ H → RTT AA H b Ls B gc gm → DC hc gc → DM hm gm → WD H hc gc → ∃ gc' gm', (∀ k0, mS_pass_L142 68 p k0 n (nI k) gc = k0 gc') ∧ (∀ k0, mm_goesBy_L112 p' k0 n (nI k) gm = k0 gm') ∧ RTT AA H b Ls B gc' gm' ∧ DC hc gc' ∧ DM hm gm' ∧ WD H hc gc' := by
  intro n
  induction n with
  | zero => intro k gc gm h1 h2; omega
  | succ n ih =>
    intro k gc gm h1 h2 rr dc dm wd
    have t := rr.1
    have h12 := t.1
    by_cases c : k = H
    · subst c
      refine ⟨gc, gm, fun k0 => ?_, fun k0 => ?_, rr, dc, dm, wd⟩
      · rw [mS_pass_L142, show sT 68 = 1 from rfl, t.2.1, if_pos (nI_le (Nat.le_refl _) (by omega))]
      · rw [mm_goesBy_L112, t.2.2.1, if_pos (nI_le (Nat.le_refl _) (by omega))]
    · have hk : k < H := by omega
      obtain ⟨g1, g2, a1, a2, a3, a4, a5, a6⟩ := mt_sim rr hk
      obtain ⟨gc', gm', b1, b2, b3⟩ := ih (k + 1) g1 g2 (by omega) (by omega) a3 (dc_t dc a4) (dm_t dm a5) (wd_t wd a6)
      refine ⟨gc', gm', fun k0 => ?_, fun k0 => ?_, b3⟩
      · rw [mS_pass_L142, show sT 68 = 1 from rfl, t.2.1, if_neg (nI_ge hk (by omega)), a1, bd_e, nI_1, b1]
      · rw [mm_goesBy_L112, t.2.2.1, if_neg (nI_ge hk (by omega)), a2, bd_e, nI_1, b2]
theorem hd_loop2 {B : BKT} {A : Nat → Prop} {H b : Nat} {Ls : LNS} {hc hm : PH} (p' : Int32) : ∀ (n nM k : Nat) (gc gm : PH), H < n + k → H < nM + k → k ≤ H → RTT A H b Ls B gc gm → (∀ x, x ≠ 2 → gc x = hc x) → (∀ i c, i < H → c < 11 → c ≠ 6 → gc 2 (11 * i + c) = hc 2 (11 * i + c)) → DM hm gm → ∃ gc' gm', mS_harden_L2 68 n (nI k) gc = some gc' ∧ (∀ k0, mm_goesBy_L133 p' k0 nM (nI k) gm = k0 gm') ∧ RTT A H b Ls B gc' gm' ∧ (∀ x, x ≠ 2 → gc' x = hc x) ∧ (∀ i c, i < H → c < 11 → c ≠ 6 → gc' 2 (11 * i + c) = hc 2 (11 * i + c)) ∧ DM hm gm' := by
  intro n
  induction n with
  | zero => intro nM k gc gm h1 h2 h3; omega
  | succ n ih =>
    intro nM k gc gm h1 h2 h3 rr fx fy dm
    cases nM with
    | zero => omega
    | succ nM =>
    have t := rr.1
    have h12 := t.1
    by_cases c : k = H
    · subst c
      refine ⟨gc, gm, ?_, fun k0 => ?_, rr, fx, fy, dm⟩
      · rw [mS_harden_L2, show sT 68 = 1 from rfl, t.2.1, if_pos (nI_le (Nat.le_refl _) (by omega))]
      · rw [mm_goesBy_L133, t.2.2.1, if_pos (nI_le (Nat.le_refl _) (by omega))]
    · have hk : k < H := by omega
      have c4 : ∀ (z : Option (Int32 × PH)), ck 4 115 z = z := fun z => ck_nI (i := 4) (by decide) (by decide)
      have c55 : ∀ (z : Option (Int32 × PH)), ck (nI (55 + k)) 115 z = z := fun z => ck_nI (by omega) (by decide)
      have e3 : gc 1 3 = gm 105 4 := t.2.2.2.1 3 (by decide) (by decide)
      have e6 : gm 105 (55 + k) = gc 2 (11 * k + 6) := (colM t hk).2.2.1
      obtain ⟨gi, gj, i1, i2, i3⟩ := ih nM (k + 1) gc gm (by omega) (by omega) (by omega) rr fx fy dm
      by_cases f : gc 1 3 = 1
      · by_cases u : upI gc k = 0
        · refine ⟨gi, gj, ?_, fun k0 => ?_, i3⟩
          · rw [mS_harden_L2, show sT 68 = 1 from rfl, t.2.1, if_neg (nI_ge hk (by omega)), if_pos f, isBB t hk, bd_e, if_pos u, nI_1, i1]
          · rw [mm_goesBy_L133, t.2.2.1, if_neg (nI_ge hk (by omega)), c4, show ix (4 : Int32) = 4 from rfl, if_pos (by rw [← e3]; exact f), isM t hk, bd_e, if_pos u, nI_1, i2]
        · obtain ⟨gi, gj, i1, i2, i3⟩ := ih nM (k + 1) (up gc 2 (11 * k + 6) (imin 9 (gc 2 (11 * k + 6) + 1))) (up gm 105 (55 + k) (imin 9 (gc 2 (11 * k + 6) + 1))) (by omega) (by omega) (by omega) (rt_wr rr hk (c := 6) (by decide) (by decide) _ (fun z => by omega)) (fun x hx => by rw [up_cell hx]; exact fx x hx) (fun i c hi hc' h6 => by rw [up_oj (by omega)]; exact fy i c hi hc' h6) (dm_t dm (dm_up gm _ _))
          refine ⟨gi, gj, ?_, fun k0 => ?_, i3⟩
          · rw [mS_harden_L2, show sT 68 = 1 from rfl, t.2.1, if_neg (nI_ge hk (by omega)), if_pos f, isBB t hk, bd_e, if_neg u, show mB_read 1 (nI k) 6 gc = _ from rdB t hk (c := 6) (by decide), bd_e, show mB_write 1 (nI k) 6 _ gc = _ from wrB t hk (c := 6) (by decide) _, bd_e, nI_1, i1]
          · rw [mm_goesBy_L133, t.2.2.1, if_neg (nI_ge hk (by omega)), c4, show ix (4 : Int32) = 4 from rfl, if_pos (by rw [← e3]; exact f), isM t hk, bd_e, if_neg u, show (55 : Int32) + nI k = nI (55 + k) from nI_add 55 k, c55, show ix (nI (55 + k)) = 55 + k from nI_clamp (by omega), e6, ls_e, bd_e, c55, lt_e, nI_1, i2]
      · refine ⟨gi, gj, ?_, fun k0 => ?_, i3⟩
        · rw [mS_harden_L2, show sT 68 = 1 from rfl, t.2.1, if_neg (nI_ge hk (by omega)), if_neg f, nI_1, i1]
        · rw [mm_goesBy_L133, t.2.2.1, if_neg (nI_ge hk (by omega)), c4, show ix (4 : Int32) = 4 from rfl, if_neg (by rw [← e3]; exact f), nI_1, i2]
end
section
/-! WHO HAS NO WALL GOES; houses get older: the model house by house, the class all out first, then all older -/
theorem tb_age {A A' : Nat → Prop} {H : Nat} {hc hm : PH} (t : TW A H hc hm) (e : ∀ i, i < H → A' i → hc 2 (11 * i + 10) = hm 105 (103 + i)) : TW A' H hc hm := by
  refine ⟨t.1, t.2.1, t.2.2.1, t.2.2.2.1, fun i c hi hcc ha => ?_, t.2.2.2.2.2⟩
  by_cases c10 : c = 10
  · subst c10
    exact e i hi (ha rfl)
  · exact t.2.2.2.2.1 i c hi hcc (fun z => absurd z c10)
theorem rt_age {B : BKT} {A A' : Nat → Prop} {H b : Nat} {Ls : LNS} {hc hm : PH} (r : RTT A H b Ls B hc hm) (e : ∀ i, i < H → A' i → hc 2 (11 * i + 10) = hm 105 (103 + i)) : RTT A' H b Ls B hc hm := ⟨tb_age r.1 e, r.2⟩
theorem rt_m10 {B : BKT} {A A' : Nat → Prop} {H b : Nat} {Ls : LNS} {hc hm : PH} (r : RTT A H b Ls B hc hm) {k : Nat} (hk : k < H) (v : Int32) (e : ∀ i, A' i → A i ∧ i ≠ k) : RTT A' H b Ls B hc (up hm 105 (103 + k) v) := by
  obtain ⟨⟨t1, t2, t3, t4, t5, t6⟩, q2, q3, q4, q5, q6, q7⟩ := r
  refine ⟨⟨t1, t2, by rw [up_oc (by decide)]; exact t3, fun f f1 f2 => ?_, fun i c hi hcc ha => ?_, t6⟩, ⟨q2.1, q2.2.1, q2.2.2.1, q2.2.2.2.1, lwm_of q2.2.2.2.2 (fun b _ _ => up_cell (by omega))⟩, bk_of q3 rfl rfl (up_oj (by omega)) (up_cell (by decide)), fun j hj => ?_, q5, by rw [up_oc (by decide)]; exact q6, q7⟩
  · rw [up_oj (by have := (sf_r f f2 f1).1; omega)]
    exact t4 f f1 f2
  · have t5' := t5 i c hi hcc (fun z => (e i (ha z)).1)
    by_cases m : mc c = 105
    · rw [m, up_oj (fun z => ?_), ← m]
      · exact t5'
      · have := mi_inj i (by omega) c hcc k (by omega) 10 (by decide) m z
        exact (e i (ha this.2)).2 this.1
    · rw [up_oc m]
      exact t5'
  · rw [up_oc (by decide)]
    exact q4 j hj
theorem rt_c10 {B : BKT} {A A' : Nat → Prop} {H b : Nat} {Ls : LNS} {hc hm : PH} (r : RTT A H b Ls B hc hm) {k : Nat} (hk : k < H) (v : Int32) (e : ∀ i, A' i → (A i ∧ i ≠ k) ∨ (i = k ∧ v = hm 105 (103 + k))) : RTT A' H b Ls B (up hc 2 (11 * k + 10) v) hm := by
  obtain ⟨⟨t1, t2, t3, t4, t5, t6⟩, q2, q3, q4, q5, q6, q7⟩ := r
  refine ⟨⟨t1, by rw [up_oc (by decide)]; exact t2, t3, fun f f1 f2 => by rw [up_oc (by decide)]; exact t4 f f1 f2, fun i c hi hcc ha => ?_, fun i c hi hc4 => by rw [up_oj (by omega)]; exact t6 i c hi hc4⟩, ⟨q2.1, q2.2.1, q2.2.2.1, lwc_of q2.2.2.2.1 (fun b _ _ => up_cell (by omega)), q2.2.2.2.2⟩, bk_of q3 (up_cell (by decide)) (up_cell (by decide)) rfl rfl, fun j hj => ?_, by rw [up_oc (by decide)]; exact q5, q6, ld_of q7 (fun i hi => up_oj (by omega))⟩
  · by_cases z : i = k ∧ c = 10
    · obtain ⟨z1, z2⟩ := z
      subst z1 z2
      rw [up_same]
      rcases e i (ha rfl) with y | y
      · exact absurd rfl y.2
      · exact y.2
    · rw [up_oj (by omega)]
      refine t5 i c hi hcc (fun y => ?_)
      rcases e i (ha y) with x | x
      · exact x.1
      · exact absurd ⟨x.1, y⟩ z
  · rw [nx_fr (up_cell (by decide)) (up_cell (by decide))]
    exact q4 j hj
theorem upi_fr {h g : PH} {i : Nat} (e : ∀ w, w < 4 → g 2 (11 * i + w) = h 2 (11 * i + w)) : upI g i = upI h i := by
  have e0 := e 0 (by decide)
  rw [Nat.add_zero] at e0
  unfold upI sm4
  rw [e0, e 1 (by decide), e 2 (by decide), e 3 (by decide)]
def agd (gc : PH) (i : Nat) : Int32 := if upI gc i = 0 then gc 2 (11 * i + 10) else imin 9999 (gc 2 (11 * i + 10) + 1)
theorem agd_fr {h g : PH} {i : Nat} (e : ∀ c, c < 11 → c ≠ 7 → g 2 (11 * i + c) = h 2 (11 * i + c)) : agd g i = agd h i := by
  unfold agd
  rw [upi_fr (fun w hw => e w (by omega) (by omega)), e 10 (by decide) (by decide)]
theorem la_loop {B : BKT} {H b : Nat} {Ls : LNS} {hc hm : PH} (p p' : Int32) : ∀ (n k : Nat) (gc gm : PH), H < n + k → k ≤ H → RTT (fun i => k ≤ i) H b Ls B gc gm → DC hc gc → DM hm gm → gc 1 = hc 1 → (∀ i c, i < H → c < 11 → c ≠ 7 → gc 2 (11 * i + c) = hc 2 (11 * i + c)) → (∀ i, i < k → gm 105 (103 + i) = agd gc i) → ∃ gc' gm', (∀ k0, mS_pass_L180 68 p k0 n (nI k) gc = k0 gc') ∧ (∀ k0, mm_goesBy_L193 p' k0 n (nI k) gm = k0 gm') ∧ RTT (fun i => H ≤ i) H b Ls B gc' gm' ∧ DC hc gc' ∧ DM hm gm' ∧ gc' 1 = hc 1 ∧ (∀ i c, i < H → c < 11 → c ≠ 7 → gc' 2 (11 * i + c) = hc 2 (11 * i + c)) ∧ ∀ i, i < H → gm' 105 (103 + i) = agd gc' i := by
  intro n
  induction n with
  | zero => intro k gc gm h1 h2; omega
  | succ n ih =>
    intro k gc gm h1 h2 rr dc dm f1 fy ag
    have t := rr.1
    have h12 := t.1
    by_cases c : k = H
    · subst c
      refine ⟨gc, gm, fun k0 => ?_, fun k0 => ?_, rr, dc, dm, f1, fy, ag⟩
      · rw [mS_pass_L180, show sT 68 = 1 from rfl, t.2.1, if_pos (nI_le (Nat.le_refl _) (by omega))]
      · rw [mm_goesBy_L193, t.2.2.1, if_pos (nI_le (Nat.le_refl _) (by omega))]
    · have hk : k < H := by omega
      obtain ⟨g1, g2, a1, a2, a3, a4, a5, a6, a7, a8⟩ := lv_sim rr hk
      have fy1 : ∀ i c, i < H → c < 11 → c ≠ 7 → g1 2 (11 * i + c) = hc 2 (11 * i + c) := fun i c hi hcc h7 => by rw [a7 c h7 i hi hcc]; exact fy i c hi hcc h7
      have ag1 : ∀ i, i < k → g2 105 (103 + i) = agd g1 i := fun i hi => by
        rw [a8 _ (by omega), agd_fr (h := gc) (fun c hcc h7 => a7 c h7 i (by omega) hcc)]
        exact ag i hi
      have ek : g2 105 (103 + k) = g1 2 (11 * k + 10) := (colM a3.1 hk).2.2.2.2.2.2 (Nat.le_refl k)
      have c103 : ∀ (z : Option (Int32 × PH)), ck (nI (103 + k)) 115 z = z := fun z => ck_nI (by omega) (by decide)
      by_cases u : upI g1 k = 0
      · obtain ⟨gc', gm', b1, b2, b3⟩ := ih (k + 1) g1 g2 (by omega) (by omega) (rt_age a3 (fun i hi (ha : k + 1 ≤ i) => ((colM a3.1 hi).2.2.2.2.2.2 (show k ≤ i by omega)).symm)) (dc_t dc a4) (dm_t dm a5) (by rw [a6]; exact f1) fy1 (fun i hi => by
          by_cases z : i = k
          · subst z
            unfold agd
            rw [if_pos u]
            exact ek
          · exact ag1 i (by omega))
        refine ⟨gc', gm', fun k0 => ?_, fun k0 => ?_, b3⟩
        · rw [mS_pass_L180, show sT 68 = 1 from rfl, t.2.1, if_neg (nI_ge hk (by omega)), a1, bd_e, nI_1, b1]
        · rw [mm_goesBy_L193, t.2.2.1, if_neg (nI_ge hk (by omega)), a2, bd_e, isM a3.1 hk, bd_e, if_pos u, nI_1, b2]
      · obtain ⟨gc', gm', b1, b2, b3⟩ := ih (k + 1) g1 (up g2 105 (103 + k) (imin 9999 (g1 2 (11 * k + 10) + 1))) (by omega) (by omega) (rt_m10 a3 hk _ (fun i (ha : k + 1 ≤ i) => ⟨show k ≤ i by omega, by omega⟩)) (dc_t dc a4) (dm_t dm (dm_t a5 (dm_up g2 _ _))) (by rw [a6]; exact f1) fy1 (fun i hi => by
          by_cases z : i = k
          · subst z
            unfold agd
            rw [up_same, if_neg u]
          · rw [up_oj (by omega)]
            exact ag1 i (by omega))
        refine ⟨gc', gm', fun k0 => ?_, fun k0 => ?_, b3⟩
        · rw [mS_pass_L180, show sT 68 = 1 from rfl, t.2.1, if_neg (nI_ge hk (by omega)), a1, bd_e, nI_1, b1]
        · rw [mm_goesBy_L193, t.2.2.1, if_neg (nI_ge hk (by omega)), a2, bd_e, isM a3.1 hk, bd_e, if_neg u, show (103 : Int32) + nI k = nI (103 + k) from nI_add 103 k, c103, show ix (nI (103 + k)) = 103 + k from nI_clamp (by omega), ek, ls_e, bd_e, c103, lt_e, nI_1, b2]
/-- the class's houses get older -/
theorem gw_loop {B : BKT} {H b : Nat} {Ls : LNS} {hc gm : PH} : ∀ (n k : Nat) (gc : PH), H < n + k → k ≤ H → RTT (fun i => i < k) H b Ls B gc gm → (∀ x, x ≠ 2 → gc x = hc x) → (∀ i c, i < H → c < 10 → gc 2 (11 * i + c) = hc 2 (11 * i + c)) → (∀ i, k ≤ i → i < H → gm 105 (103 + i) = agd gc i) → ∃ gc', (∀ k0, mS_grow_L2 68 k0 n (nI k) gc = k0 gc') ∧ RTT (fun i => i < H) H b Ls B gc' gm ∧ (∀ x, x ≠ 2 → gc' x = hc x) ∧ ∀ i c, i < H → c < 10 → gc' 2 (11 * i + c) = hc 2 (11 * i + c) := by
  intro n
  induction n with
  | zero => intro k gc h1 h2; omega
  | succ n ih =>
    intro k gc h1 h2 rr fx fy ag
    have t := rr.1
    have h12 := t.1
    by_cases c : k = H
    · subst c
      refine ⟨gc, fun k0 => ?_, rr, fx, fy⟩
      rw [mS_grow_L2, show sT 68 = 1 from rfl, t.2.1, if_pos (nI_le (Nat.le_refl _) (by omega))]
    · have hk : k < H := by omega
      have agk := ag k (Nat.le_refl k) hk
      by_cases u : upI gc k = 0
      · unfold agd at agk
        rw [if_pos u] at agk
        obtain ⟨gc', b1, b2⟩ := ih (k + 1) gc (by omega) (by omega) (rt_age rr (fun i hi (ha : i < k + 1) => by
          by_cases z : i = k
          · rw [z]; exact agk.symm
          · exact ((colM t hi).2.2.2.2.2.2 (show i < k by omega)).symm)) fx fy (fun i hi hi2 => ag i (by omega) hi2)
        refine ⟨gc', fun k0 => ?_, b2⟩
        rw [mS_grow_L2, show sT 68 = 1 from rfl, t.2.1, if_neg (nI_ge hk (by omega)), isBB t hk, bd_e, if_pos u, nI_1, b1]
      · unfold agd at agk
        rw [if_neg u] at agk
        obtain ⟨gc', b1, b2⟩ := ih (k + 1) (up gc 2 (11 * k + 10) (imin 9999 (gc 2 (11 * k + 10) + 1))) (by omega) (by omega) (rt_c10 rr hk _ (fun i (ha : i < k + 1) => by
          by_cases z : i = k
          · exact Or.inr ⟨z, agk.symm⟩
          · exact Or.inl ⟨show i < k by omega, z⟩)) (fun x hx => by rw [up_cell hx]; exact fx x hx) (fun i c hi hc' => by rw [up_oj (by omega)]; exact fy i c hi hc') (fun i hi hi2 => by
          rw [ag i (by omega) hi2]
          unfold agd
          rw [upi_fr (h := gc) (g := up gc 2 (11 * k + 10) (imin 9999 (gc 2 (11 * k + 10) + 1))) (fun w hw => up_oj (by omega)), up_oj (by omega)])
        refine ⟨gc', fun k0 => ?_, b2⟩
        rw [mS_grow_L2, show sT 68 = 1 from rfl, t.2.1, if_neg (nI_ge hk (by omega)), isBB t hk, bd_e, if_neg u, show mB_read 1 (nI k) 10 gc = _ from rdB t hk (c := 10) (by decide), bd_e, show mB_write 1 (nI k) 10 _ gc = _ from wrB t hk (c := 10) (by decide) _, bd_e, nI_1, b1]
end
section
/-! HOW MANY FELL: sets as numbers -/
def zN (p : Nat → Bool) : Nat → Nat
  | 0 => 0
  | k + 1 => zN p k + (if p k then 2 ^ k else 0)
def zct (p : Nat → Bool) : Nat → Nat
  | 0 => 0
  | k + 1 => zct p k + (if p k then 1 else 0)
theorem zN_lt (p : Nat → Bool) : ∀ k, zN p k < 2 ^ k := by
  intro k
  induction k with
  | zero => exact Nat.one_pos
  | succ k ih =>
    rw [zN, Nat.pow_succ]
    split <;> omega
theorem zN_bit (p : Nat → Bool) : ∀ k i, (zN p k).testBit i = (decide (i < k) && p i) := by
  intro k
  induction k with
  | zero => intro i; rw [zN, Nat.zero_testBit]; rfl
  | succ k ih =>
    intro i
    have l := zN_lt p k
    rcases Nat.lt_trichotomy i k with c | c | c
    · rw [decide_eq_true (show i < k + 1 by omega), Bool.true_and, zN]
      have b := ih i
      rw [decide_eq_true c, Bool.true_and] at b
      cases hp : p k
      · rw [if_neg (by decide), Nat.add_zero]; exact b
      · rw [if_pos rfl, Nat.add_comm, Nat.testBit_two_pow_add_gt c]; exact b
    · subst c
      rw [decide_eq_true (show i < i + 1 by omega), Bool.true_and, zN]
      have b := Nat.testBit_lt_two_pow l
      cases hp : p i
      · rw [if_neg (by decide), Nat.add_zero]; exact b
      · rw [if_pos rfl, Nat.add_comm, Nat.testBit_two_pow_add_eq, b]; rfl
    · rw [decide_eq_false (show ¬ i < k + 1 by omega), Bool.false_and]
      have l2 := zN_lt p (k + 1)
      exact Nat.testBit_lt_two_pow (Nat.lt_of_lt_of_le l2 (Nat.pow_le_pow_right (by decide) (by omega)))
theorem zc_eq {p q : Nat → Bool} : ∀ k, (∀ i, i < k → p i = q i) → zct p k = zct q k := by
  intro k
  induction k with
  | zero => intro _; rfl
  | succ k ih => intro e; rw [zct, zct, ih (fun i hi => e i (by omega)), e k (by omega)]
theorem zc_ext {p : Nat → Bool} {k : Nat} (f : ∀ i, k ≤ i → p i = false) : ∀ d, zct p (k + d) = zct p k := by
  intro d
  induction d with
  | zero => rfl
  | succ d ih => rw [show k + (d + 1) = k + d + 1 by omega, zct, ih, f (k + d) (by omega), if_neg (by decide), Nat.add_zero]
/-- how many bits -/
def zpop (s : Nat) : Nat := zct (fun i => s.testBit i) 12
theorem zpop_e (p : Nat → Bool) {k : Nat} (hk : k ≤ 12) : zpop (zN p k) = zct p k := by
  unfold zpop
  rw [zc_eq (q := fun i => decide (i < k) && p i) 12 (fun i _ => zN_bit p k i), show 12 = k + (12 - k) by omega, zc_ext (fun i hi => by rw [decide_eq_false (by omega), Bool.false_and])]
  exact zc_eq k (fun i hi => by rw [decide_eq_true hi, Bool.true_and])
theorem zct_le (p : Nat → Bool) : ∀ k, zct p k ≤ k := by
  intro k
  induction k with
  | zero => exact Nat.le_refl _
  | succ k ih =>
    rw [zct]
    split <;> omega
/-- those of p that are not of q -/
theorem zc_sub {p q : Nat → Bool} : ∀ k, (∀ i, i < k → q i = true → p i = true) → zct q k + zct (fun i => p i && !q i) k = zct p k := by
  intro k
  induction k with
  | zero => intro _; rfl
  | succ k ih =>
    intro e
    have b := ih (fun i hi => e i (by omega))
    have c := e k (by omega)
    rw [zct, zct, zct]
    cases hq : q k
    · cases hp : p k <;> simp <;> omega
    · have hp := c hq
      rw [hp]
      simp
      omega
theorem bc_0 : ∀ s, s < 1024 → mJ_bitCount (nI s) (fun _ _ => 0) = some (nI (zpop s)) := by decide +kernel
theorem bc_1 : ∀ s, s < 1024 → mJ_bitCount (nI (1024 + s)) (fun _ _ => 0) = some (nI (zpop (1024 + s))) := by decide +kernel
theorem bc_2 : ∀ s, s < 1024 → mJ_bitCount (nI (2048 + s)) (fun _ _ => 0) = some (nI (zpop (2048 + s))) := by decide +kernel
theorem bc_3 : ∀ s, s < 1024 → mJ_bitCount (nI (3072 + s)) (fun _ _ => 0) = some (nI (zpop (3072 + s))) := by decide +kernel
theorem bc_e (h : PH) {s : Nat} (hs : s < 4096) : mJ_bitCount (nI s) h = some (nI (zpop s)) := by
  have e : mJ_bitCount (nI s) h = mJ_bitCount (nI s) (fun _ _ => 0) := rfl
  rw [e]
  by_cases c0 : s < 1024
  · exact bc_0 s c0
  · by_cases c1 : s < 2048
    · have := bc_1 (s - 1024) (by omega)
      rw [show 1024 + (s - 1024) = s by omega] at this
      exact this
    · by_cases c2 : s < 3072
      · have := bc_2 (s - 2048) (by omega)
        rw [show 2048 + (s - 2048) = s by omega] at this
        exact this
      · have := bc_3 (s - 3072) (by omega)
        rw [show 3072 + (s - 3072) = s by omega] at this
        exact this
abbrev zsP (s : Nat) : Prop := s = 0 ∨ (nI s &&& (nI s - 1) = nI (s &&& (s - 1)) ∧ (s &&& (s - 1)) < s ∧ zpop s = zpop (s &&& (s - 1)) + 1)
theorem zs_0 : ∀ s, s < 512 → zsP (0 + s) := by decide +kernel
theorem zs_1 : ∀ s, s < 512 → zsP (512 + s) := by decide +kernel
theorem zs_2 : ∀ s, s < 512 → zsP (1024 + s) := by decide +kernel
theorem zs_3 : ∀ s, s < 512 → zsP (1536 + s) := by decide +kernel
theorem zs_4 : ∀ s, s < 512 → zsP (2048 + s) := by decide +kernel
theorem zs_5 : ∀ s, s < 512 → zsP (2560 + s) := by decide +kernel
theorem zs_6 : ∀ s, s < 512 → zsP (3072 + s) := by decide +kernel
theorem zs_7 : ∀ s, s < 512 → zsP (3584 + s) := by decide +kernel
theorem zs_and : ∀ s, s < 4096 → zsP s := by
  intro s hs
  by_cases c0 : s < 512
  · have := zs_0 (s - 0) (by omega)
    rw [show 0 + (s - 0) = s by omega] at this
    exact this
  by_cases c1 : s < 1024
  · have := zs_1 (s - 512) (by omega)
    rw [show 512 + (s - 512) = s by omega] at this
    exact this
  by_cases c2 : s < 1536
  · have := zs_2 (s - 1024) (by omega)
    rw [show 1024 + (s - 1024) = s by omega] at this
    exact this
  by_cases c3 : s < 2048
  · have := zs_3 (s - 1536) (by omega)
    rw [show 1536 + (s - 1536) = s by omega] at this
    exact this
  by_cases c4 : s < 2560
  · have := zs_4 (s - 2048) (by omega)
    rw [show 2048 + (s - 2048) = s by omega] at this
    exact this
  by_cases c5 : s < 3072
  · have := zs_5 (s - 2560) (by omega)
    rw [show 2560 + (s - 2560) = s by omega] at this
    exact this
  by_cases c6 : s < 3584
  · have := zs_6 (s - 3072) (by omega)
    rw [show 3072 + (s - 3072) = s by omega] at this
    exact this
  have := zs_7 (s - 3584) (by omega)
  rw [show 3584 + (s - 3584) = s by omega] at this
  exact this
theorem on_e (h : PH) : ∀ (s n c : Nat), s < 4096 → zpop s < n → mm_onesOf_L4 h n (nI c) (nI s) = some (nI (c + zpop s)) := by
  intro s
  induction s using Nat.strongRecOn with
  | _ s ih =>
    intro n c hs hn
    cases n with
    | zero => omega
    | succ n =>
      rw [mm_onesOf_L4]
      rcases zs_and s hs with e | ⟨e1, e2, e3⟩
      · subst e
        rw [if_pos nI_0, show zpop 0 = 0 from by decide, Nat.add_zero]
      · rw [if_neg (nI_ne0 (by omega) (by omega)), lt_e, lt_e, nI_1, e1, ih _ e2 n (c + 1) (by omega) (by omega), e3]
        congr 2
        omega
theorem bs_1 : ∀ k, k < 12 → ∀ s, s < 2 ^ k → nI s ||| (1 <<< (nI k &&& 31)) = nI (s + 2 ^ k) := by decide +kernel
/-- who stands, as a number -/
def upb (h : PH) (i : Nat) : Bool := !(decide (upI h i = 0))
theorem us_nat {A : Nat → Prop} {H : Nat} {hc hm : PH} (t : TW A H hc hm) : ∀ (n k : Nat), H < n + k → k ≤ H → mB_upSet_L4 1 hc n (nI (zN (upb hc) k)) (nI k) = some (nI (zN (upb hc) H)) ∧ mm_standingSet_L4 hm n (nI (zN (upb hc) k)) (nI k) = some (nI (zN (upb hc) H)) := by
  intro n
  have h12 := t.1
  induction n with
  | zero => intro k h1 h2; omega
  | succ n ih =>
    intro k h1 h2
    rw [mB_upSet_L4, mm_standingSet_L4, t.2.1, t.2.2.1]
    by_cases c : k = H
    · subst c
      rw [if_pos (nI_le (Nat.le_refl _) (by omega)), if_pos (nI_le (Nat.le_refl _) (by omega))]
      exact ⟨rfl, rfl⟩
    · have hk : k < H := by omega
      rw [if_neg (nI_ge hk (by omega)), if_neg (nI_ge hk (by omega)), isBB t hk, bd_e, isM t hk, bd_e, nI_1]
      have nx := ih (k + 1) (by omega) (by omega)
      by_cases d : upI hc k = 0
      · have b : upb hc k = false := by unfold upb; rw [decide_eq_true d]; rfl
        rw [zN, b, if_neg (by decide), Nat.add_zero] at nx
        rw [if_pos d, if_pos d]
        exact nx
      · have b : upb hc k = true := by unfold upb; rw [decide_eq_false d]; rfl
        rw [zN, b, if_pos rfl] at nx
        rw [if_neg d, if_neg d, lt_e, lt_e, bs_1 k (by omega) _ (zN_lt _ k)]
        exact nx
theorem us_n {A : Nat → Prop} {H : Nat} {hc hm : PH} (t : TW A H hc hm) : mB_upSet 1 hc = some (nI (zN (upb hc) H)) ∧ mm_standingSet hm = some (nI (zN (upb hc) H)) := by
  have := us_nat t FU 0 (by have := t.1; unfold FU; omega) (Nat.zero_le _)
  rw [zN, nI_0] at this
  exact this
theorem cu_n {A : Nat → Prop} {H : Nat} {hc hm : PH} (t : TW A H hc hm) : mB_countUp 1 hc = some (nI (zct (upb hc) H)) := by
  have h12 := t.1
  have l := zN_lt (upb hc) H
  have l2 : 2 ^ H ≤ 2 ^ 12 := Nat.pow_le_pow_right (by decide) h12
  unfold mB_countUp
  rw [(us_n t).1, bd_e, bc_e hc (show _ < 4096 by omega), bd_e, zpop_e _ h12]
theorem zs_dif {p q : Nat → Bool} {H : Nat} (hH : H ≤ 12) : nI (zN p H) &&& (nI (zN q H) ^^^ (-1)) = nI (zN (fun i => p i && !q i) H) := by
  have bit : ∀ (f : Nat → Bool) i, i < 32 → (nI (zN f H)).toBitVec.getLsbD i = (decide (i < H) && f i) := fun f i hi => by
    have : (nI (zN f H)).toBitVec = BitVec.ofNat 32 (zN f H) := rfl
    rw [this, BitVec.getLsbD_ofNat, zN_bit, decide_eq_true hi, Bool.true_and]
  have m1 : ∀ i, i < 32 → (-1 : Int32).toBitVec.getLsbD i = true := by decide
  apply Int32.toBitVec_inj.mp
  rw [Int32.toBitVec_and, Int32.toBitVec_xor]
  apply BitVec.eq_of_getLsbD_eq
  intro i hi
  rw [BitVec.getLsbD_and, BitVec.getLsbD_xor, bit p i hi, bit q i hi, m1 i hi, bit _ i hi]
  by_cases c : i < H
  · rw [decide_eq_true c]
    cases p i <;> cases q i <;> rfl
  · rw [decide_eq_false c]
    cases p i <;> cases q i <;> rfl
/-- how many fell: the class's difference is the model's count -/
theorem fell_e {p q : Nat → Bool} {H : Nat} (hH : H ≤ 12) (e : ∀ i, i < H → q i = true → p i = true) (h : PH) : mm_onesOf (nI (zN p H) &&& (nI (zN q H) ^^^ (-1))) h = some (nI (zct p H) - nI (zct q H)) := by
  have l := zN_lt (fun i => p i && !q i) H
  have l2 : 2 ^ H ≤ 2 ^ 12 := Nat.pow_le_pow_right (by decide) hH
  have s := zc_sub H e
  have b := zct_le (fun i => p i && !q i) H
  unfold mm_onesOf
  rw [zs_dif hH, ← nI_0, on_e h _ FU 0 (show _ < 4096 by omega) (by rw [zpop_e _ hH]; unfold FU; omega), zpop_e _ hH, nI_sub (by omega), Nat.zero_add]
  congr 2
  omega
end
