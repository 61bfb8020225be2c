/-! WALLS get thinner and thicker; weddings, razing; rent, rats, rain -/
def hl (y : Int32) : Int32 := if 0 ≤ y then (if y ≤ 99 then y else 99) else 0
theorem hl_e (y : Int32) (h : PH) : mm_held y 0 99 h = some (hl y) := by
  unfold mm_held hl
  split
  · split <;> rfl
  · rfl
theorem hl_r : ∀ y : Int32, R 0 99 (hl y) := fun y => by
  unfold hl
  split
  · rename_i c
    split
    · rename_i d
      exact le_rng rfl rfl c d
    · exact ⟨by decide, by decide⟩
  · exact ⟨by decide, by decide⟩
theorem hwC {A : Nat → Prop} {H : Nat} {hc hm : PH} (t : TW A H hc hm) {i w : Nat} (hi : i < H) (hw : w < 4) (y : Int32) : mm_hasWall (nI i) (nI w) y hm = some (up hm (mc w) (mi i w) (hl y)) := by
  have h12 := t.1
  unfold mm_hasWall
  rw [hl_e, bd_e, show (4 : Int32) * nI i = nI (4 * i) from nI_mul 4 i, show (7 : Int32) + nI (4 * i) = nI (7 + 4 * i) from nI_add 7 _, nI_add, ck_nI (by omega) (by decide), lt_e, show ix (nI (7 + 4 * i + w)) = 7 + 4 * i + w from nI_clamp (by omega)]
  have e1 : mc w = 105 := by unfold mc; rw [if_neg (by omega), if_neg (by omega)]
  have e2 : mi i w = 7 + 4 * i + w := by unfold mi; rw [if_pos hw]
  rw [e1, e2]
theorem v_thin : ∀ k, k < 100 → ∀ n, n < 100 → nI k - imin (nI k) (nI n) = hl (nI k - nI n) ∧ nI k - imin (nI k) (nI n) = nI (k - n) ∧ imin (nI k) (nI n) = nI (min k n) := by decide +kernel
theorem v_thick : ∀ k, k < 100 → ∀ n, n < 100 → imin 99 (nI k + nI n) = hl (nI k + nI n) := by decide +kernel
/-- a wall loses n: both sides -/
theorem tn_sim {A : Nat → Prop} {H : Nat} {hc hm : PH} (t : TW A H hc hm) {i w n : Nat} (hi : i < H) (hw : w < 4) (hn : n < 100) : ∃ k, k < 100 ∧ hc 2 (11 * i + w) = nI k ∧ mB_thin 1 (nI i) (nI w) (nI n) hc = some (nI (min k n), up hc 2 (11 * i + w) (nI (k - n))) ∧ (∀ y, y = nI k - nI n → mm_hasWall (nI i) (nI w) y hm = some (up hm (mc w) (mi i w) (nI (k - n)))) ∧ TW A H (up hc 2 (11 * i + w) (nI (k - n))) (up hm (mc w) (mi i w) (nI (k - n))) := by
  obtain ⟨k, k1, k2, ek⟩ := nat_of (t.2.2.2.2.2 i w hi hw) (by decide)
  obtain ⟨v1, v2, v3⟩ := v_thin k (by omega) n hn
  refine ⟨k, by omega, ek, ?_, fun y ey => ?_, tb_wr t hi (by omega) _ (fun _ => ?_)⟩
  · unfold mB_thin
    rw [rdB t hi (by omega), bd_e, lt_e, ek, wrB t hi (by omega), bd_e, v2, v3]
  · rw [hwC t hi hw, ey, ← v1, v2]
  · exact ⟨by rw [nI_toInt (by omega)]; omega, by rw [nI_toInt (by omega)]; omega⟩
theorem tk_sim {A : Nat → Prop} {H : Nat} {hc hm : PH} (t : TW A H hc hm) {i w n : Nat} (hi : i < H) (hw : w < 4) (hn : n < 100) : ∃ v, mB_thicken 1 (nI i) (nI w) (nI n) hc = some (up hc 2 (11 * i + w) v) ∧ (∀ x, x = hc 2 (11 * i + w) → mm_hasWall (nI i) (nI w) (x + nI n) hm = some (up hm (mc w) (mi i w) v)) ∧ TW A H (up hc 2 (11 * i + w) v) (up hm (mc w) (mi i w) v) := by
  obtain ⟨k, k1, k2, ek⟩ := nat_of (t.2.2.2.2.2 i w hi hw) (by decide)
  have v1 := v_thick k (by omega) n hn
  refine ⟨hl (nI k + nI n), ?_, fun x ex => ?_, tb_wr t hi (by omega) _ (fun _ => hl_r _)⟩
  · unfold mB_thicken
    rw [rdB t hi (by omega), bd_e, ek, v1, wrB t hi (by omega), bd_e]
  · rw [ex, ek, hwC t hi hw]
/-- writes that don't touch lodgers keep all of RTT -/
theorem rt_wr {B : BKT} {A : Nat → Prop} {H b : Nat} {Ls : LNS} {hc hm : PH} (r : RTT A H b Ls B hc hm) {i c : Nat} (hi : i < H) (hcc : c < 11) (c7 : c ≠ 7) (v : Int32) (hv : c < 4 → R 0 99 v) : RTT A H b Ls B (up hc 2 (11 * i + c) v) (up hm (mc c) (mi i c) v) := by
  have t := r.1
  have h12 := t.1
  obtain ⟨r1, r2, r3⟩ := mi_r i (by omega) c hcc
  have nb : mc c ≠ 110 ∧ mc c ≠ 104 ∧ mc c ≠ 123 ∧ (mc c < 113 ∨ 119 < mc c) ∧ mc c ≠ 124 := by omega
  obtain ⟨q1, q2, q3, q4, q5, q6, q7⟩ := r
  refine ⟨tb_wr t hi hcc v hv, ⟨q2.1, q2.2.1, q2.2.2.1, lwc_of q2.2.2.2.1 (fun b _ _ => up_cell (by omega)), lwm_of q2.2.2.2.2 (fun b _ _ => up_cell (by omega))⟩, bk_of q3 (up_cell (by decide)) (up_cell (by decide)) ?_ (up_cell (fun z => nb.1 z.symm)), fun k hk => ?_, by rw [up_oc (by decide)]; exact q5, by rw [up_oc (fun z => nb.2.1 z.symm)]; exact q6, ld_of q7 (fun k hk => up_oj (by omega))⟩
  · by_cases e : mc c = 105
    · rw [e, up_oj (by have := r2 e; omega)]
    · rw [up_oc (fun z => e z.symm)]
  · rw [nx_fr (up_cell (by decide)) (up_cell (by decide)), up_oc (fun z => nb.2.2.1 z.symm)]
    exact q4 k hk
theorem rt_f {B : BKT} {A : Nat → Prop} {H b : Nat} {Ls : LNS} {hc hm : PH} (r : RTT A H b Ls B hc hm) {f : Nat} (f1 : 2 ≤ f) (f2 : f < 8) (v : Int32) : RTT A H b Ls B (up hc 1 f v) (up hm 105 (sf f) v) := by
  obtain ⟨q1, q2, q3, q4, q5, q6, q7⟩ := r
  refine ⟨tb_f q1 f1 f2 v, ⟨q2.1, q2.2.1, q2.2.2.1, lwc_of q2.2.2.2.1 (fun b _ _ => up_cell (by omega)), lwm_of q2.2.2.2.2 (fun b _ _ => up_cell (by omega))⟩, bk_of q3 (up_cell (by decide)) (up_cell (by decide)) (up_oj (fun z => (sf_r f f2 f1).2.1 z.symm)) (up_cell (by decide)), fun k hk => ?_, by rw [up_oc (by decide)]; exact q5, by rw [up_oc (by decide)]; exact q6, ld_of q7 (fun k hk => up_oc (by decide))⟩
  rw [nx_fr (up_cell (by decide)) (up_cell (by decide)), up_oc (by decide)]
  exact q4 k hk
theorem rt_law {B : BKT} {A : Nat → Prop} {H b : Nat} {Ls : LNS} {hc hm gc gm : PH} (r : RTT A H b Ls B hc hm) (fc : F3c hc gc) (fm : F2m hm gm) : RTT A H b Ls B gc gm := by
  have dc : DC hc gc := fun x _ _ _ _ x5 x6 x7 => fc x x5 x6 x7
  have dm : DM hm gm := fun x _ _ x3 x4 => fm x x3 x4
  exact rt_of r (tb_of r.1 (fc 1 (by decide) (by decide) (by decide)) (fc 2 (by decide) (by decide) (by decide)) (by rw [fm 104 (by decide) (by decide)]) (fm 105 (by decide) (by decide)) (fm 108 (by decide) (by decide)) (fm 109 (by decide) (by decide))) (bk_of r.2.2.1 (fc 16 (by decide) (by decide) (by decide)) (fc 17 (by decide) (by decide) (by decide)) (by rw [fm 105 (by decide) (by decide)]) (fm 110 (by decide) (by decide))) (ld_of r.2.2.2.2.2.2 (fun k _ => by rw [fc 2 (by decide) (by decide) (by decide)])) dc dm
theorem rt_note {B : BKT} {A : Nat → Prop} {H b : Nat} {Ls : LNS} {hc hm : PH} (r : RTT A H b Ls B hc hm) (p1 p2 p3 : Int32) : ∃ gc gm, mS_note 68 p1 p2 p3 hc = some gc ∧ mm_notes p1 p2 p3 hm = some gm ∧ RTT A H b Ls B gc gm ∧ (∀ x, x ≠ 16 → x ≠ 17 → gc x = hc x) ∧ DM hm gm := by
  have q6 : hc 1 6 = hm 105 0 := r.1.2.2.2.1 6 (by decide) (by decide)
  obtain ⟨gc, gm, a1, a2, a3, a4, a5, a6⟩ := nt_sim q6 r.2.2.1 r.2.2.2.2.1 r.2.2.2.2.2.1 p1 p2 p3
  have dm : DM hm gm := fun x x1 x2 _ _ => a5 x x1 x2
  refine ⟨gc, gm, a1, a2, rt_of r (tb_of (tb_m2 r.1 a5 a6) (a4 1 (by decide) (by decide)) (a4 2 (by decide) (by decide)) rfl rfl rfl rfl) a3 (ld_of r.2.2.2.2.2.2 (fun k _ => by rw [a4 2 (by decide) (by decide)])) (fun x _ _ x3 x4 _ _ _ => a4 x x3 x4) dm, a4, dm⟩
theorem dm_up (h : PH) (j : Nat) (v : Int32) : DM h (up h 105 j v) := fun x x1 _ _ _ => up_cell x1
theorem dm_col (h : PH) {i c : Nat} (hm : mc c = 105) (v : Int32) : DM h (up h (mc c) (mi i c) v) := by rw [hm]; exact dm_up h _ v
theorem mc105 {c : Nat} (h4 : c ≠ 4) (h5 : c ≠ 5) : mc c = 105 := by unfold mc; rw [if_neg h4, if_neg h5]
/-- a house is razed -/
theorem rz_sim {B : BKT} {A : Nat → Prop} {H b : Nat} {Ls : LNS} {hc hm : PH} (r : RTT A H b Ls B hc hm) {i : Nat} (hi : i < H) : ∃ gc gm, mS_raze 68 (nI i) hc = some gc ∧ mm_isRazed (nI i) hm = some gm ∧ RTT A H b Ls B gc gm ∧ DC hc gc ∧ DM hm gm ∧ gc 1 = hc 1 := by
  have h12 := r.1.1
  have go : ∀ (n w : Nat) (gc gm : PH), 4 < n + w → w ≤ 4 → RTT A H b Ls B gc gm → DC hc gc → DM hm gm → gc 1 = hc 1 → ∃ gc' gm', (∀ k0, mS_raze_L2 68 (nI i) k0 n (nI w) gc = k0 gc') ∧ (∀ k0, mm_isRazed_L2 (nI i) k0 n (nI w) gm = k0 gm') ∧ RTT A H b Ls B gc' gm' ∧ DC hc gc' ∧ DM hm gm' ∧ gc' 1 = hc 1 := by
    intro n
    induction n with
    | zero => intro w gc gm h1 h2; omega
    | succ n ih =>
      intro w gc gm h1 h2 rr dc dm f1
      by_cases c : w = 4
      · subst c
        exact ⟨gc, gm, fun k0 => by rw [mS_raze_L2, if_pos (by decide)], fun k0 => by rw [mm_isRazed_L2, if_pos (by decide)], rr, dc, dm, f1⟩
      · have hw : ¬ (4 : Int32) ≤ nI w := nI_ge (b := 4) (by omega) (by decide)
        have hl0 : hl 0 = 0 := by decide
        obtain ⟨gc', gm', a1, a2, a3, a4, a5, a6⟩ := ih (w + 1) (up gc 2 (11 * i + w) 0) (up gm (mc w) (mi i w) 0) (by omega) (by omega) (rt_wr rr hi (by omega) (by omega) 0 (fun _ => ⟨by decide, by decide⟩)) (dc_t dc (fun x _ x2 _ _ _ _ _ => up_cell x2)) (dm_t dm (dm_col gm (mc105 (by omega) (by omega)) 0)) (by rw [up_cell (by decide)]; exact f1)
        refine ⟨gc', gm', fun k0 => ?_, fun k0 => ?_, a3, a4, a5, a6⟩
        · rw [mS_raze_L2, if_neg hw, show sT 68 = 1 from rfl, wrB rr.1 hi (by omega), bd_e, nI_1, a1]
        · rw [mm_isRazed_L2, if_neg hw, hwC rr.1 hi (by omega), hl0, bd_e, nI_1, a2]
  obtain ⟨gc, gm, a1, a2, a3, a4, a5, a6⟩ := go FU 0 hc hm (by unfold FU; omega) (by decide) r (dc_r hc) (dm_r hm) rfl
  rw [nI_0] at a1 a2
  obtain ⟨gc2, gm2, b1, b2, b3, b4, b5, b6, _⟩ := lv_sim a3 hi
  refine ⟨gc2, gm2, ?_, ?_, b3, dc_t a4 b4, dm_t a5 b5, by rw [b6]; exact a6⟩
  · unfold mS_raze
    rw [a1, b1, bd_e]
  · unfold mm_isRazed
    rw [a2, b2, bd_e]
/-- may a wedding be -/
theorem cw_sim {A : Nat → Prop} {H : Nat} {hc hm : PH} (t : TW A H hc hm) {i : Nat} (hi : i < H) : ∃ x, (x = 0 ∨ x = 1) ∧ mS_mayWed 68 (nI i) hc = some x ∧ mm_canWed (nI i) hm = some x := by
  have h12 := t.1
  obtain ⟨m4, m5, m6, m7, m8, m9, m10⟩ := colM t hi
  unfold mS_mayWed mm_canWed
  rw [show sT 68 = 1 from rfl, isBB t hi, bd_e, isM t hi, bd_e]
  by_cases u : upI hc i = 0
  · rw [if_pos u, if_pos u]
    exact ⟨0, Or.inl rfl, rfl, rfl⟩
  · rw [if_neg u, if_neg u, show mB_read 1 (nI i) 9 hc = _ from rdB t hi (c := 9) (by decide), bd_e, show (91 : Int32) + nI i = nI (91 + i) from nI_add 91 i, ck_nI (show 91 + i < 115 by omega) (by decide), show ix (nI (91 + i)) = 91 + i from nI_clamp (by omega), m9]
    by_cases d : hc 2 (11 * i + 9) = 0
    · rw [if_pos d, if_pos d, show mB_read 1 (nI i) 7 hc = _ from rdB t hi (c := 7) (by decide), bd_e, show (79 : Int32) + nI i = nI (79 + i) from nI_add 79 i, ck_nI (show 79 + i < 115 by omega) (by decide), show ix (nI (79 + i)) = 79 + i from nI_clamp (by omega), m7]
      by_cases l : hc 2 (11 * i + 7) ≤ 0
      · rw [if_pos l]
        exact ⟨0, Or.inl rfl, rfl, rfl⟩
      · rw [if_neg l]
        exact ⟨1, Or.inr rfl, rfl, rfl⟩
    · rw [if_neg d, if_neg d]
      exact ⟨0, Or.inl rfl, rfl, rfl⟩
/-- a wedding: one lodger more -/
theorem we_sim {B : BKT} {A : Nat → Prop} {H b : Nat} {Ls : LNS} {hc hm : PH} (r : RTT A H b Ls B hc hm) (hb : b + 1 < 1000000) {i : Nat} (hi : i < H) : ∃ gc gm, mS_wed 68 (nI i) hc = some gc ∧ mm_isWed (nI i) hm = some gm ∧ RTT A H (b + 1) Ls B gc gm ∧ DC hc gc ∧ DM hm gm ∧ gc 1 = hc 1 := by
  have t := r.1
  have h12 := t.1
  have r1 := rt_wr r hi (c := 9) (by decide) (by decide) 1 (fun z => by omega)
  have e1 : mc 9 = 105 ∧ mi i 9 = 91 + i := ⟨rfl, rfl⟩
  have tk : tkv (up hc 2 (11 * i + 9) 1) i = tkv hc i := tk_fr (fun w hw => up_oj (by omega))
  obtain ⟨a1, a2, a3⟩ := th_at t hi
  obtain ⟨b1, b2, b3⟩ := th_at r1.1 hi
  rw [tk] at b1 b3
  obtain ⟨k, k1, k2, k3, k4, k5⟩ := tn_sim r1.1 hi b3 (n := 10) (by decide)
  have r2 := rt_wr r1 hi (c := tkv hc i) (by omega) (by omega) (nI (k - 10)) (fun _ => ⟨by rw [nI_toInt (by omega)]; omega, by rw [nI_toInt (by omega)]; omega⟩)
  have wlm := wlM r1.1 hi b3
  have m105 : mc (tkv hc i) = 105 := mc105 (by omega) (by omega)
  have l7 : up (up hc 2 (11 * i + 9) 1) 2 (11 * i + tkv hc i) (nI (k - 10)) 2 (11 * i + 7) = hc 2 (11 * i + 7) := by rw [up_oj (by omega), up_oj (by omega)]
  have ml7 : (up (up hm 105 (91 + i) 1) (mc (tkv hc i)) (mi i (tkv hc i)) (nI (k - 10))) 105 (79 + i) = hc 2 (11 * i + 7) := by
    have := (colM r2.1 hi).2.2.2.1
    rw [l7] at this
    exact this
  have f12 : up (up hc 2 (11 * i + 9) 1) 2 (11 * i + tkv hc i) (nI (k - 10)) 1 = hc 1 := by rw [up_cell (by decide), up_cell (by decide)]
  have dc2 : DC hc (up (up hc 2 (11 * i + 9) 1) 2 (11 * i + tkv hc i) (nI (k - 10))) := fun x _ x2 _ _ _ _ _ => by rw [up_cell x2, up_cell x2]
  have dm2 : DM hm (up (up hm 105 (91 + i) 1) (mc (tkv hc i)) (mi i (tkv hc i)) (nI (k - 10))) := dm_t (dm_up hm _ 1) (dm_col _ m105 _)
  have r2' : RTT A H b Ls B (up (up hc 2 (11 * i + 9) 1) 2 (11 * i + tkv hc i) (nI (k - 10))) (up (up hm 105 (91 + i) 1) (mc (tkv hc i)) (mi i (tkv hc i)) (nI (k - 10))) := r2
  have c1 : mB_write 1 (nI i) 9 1 hc = some (up hc 2 (11 * i + 9) 1) := wrB t hi (c := 9) (by decide) 1
  have c2 : mB_thin 1 (nI i) (nI (tkv hc i)) 10 (up hc 2 (11 * i + 9) 1) = some (nI (min k 10), up (up hc 2 (11 * i + 9) 1) 2 (11 * i + tkv hc i) (nI (k - 10))) := k3
  have c3 : mm_hasWall (nI i) (nI (tkv hc i)) (up hc 2 (11 * i + 9) 1 2 (11 * i + tkv hc i) - 10) (up hm 105 (91 + i) 1) = some (up (up hm 105 (91 + i) 1) (mc (tkv hc i)) (mi i (tkv hc i)) (nI (k - 10))) := k4 _ (by rw [k2]; rfl)
  have c4 : mm_wallOf (nI i) (nI (tkv hc i)) (up hm 105 (91 + i) 1) = some (up hc 2 (11 * i + 9) 1 2 (11 * i + tkv hc i)) := wlm
  generalize up (up hc 2 (11 * i + 9) 1) 2 (11 * i + tkv hc i) (nI (k - 10)) = gc2 at l7 f12 dc2 r2' c2
  generalize up (up hm 105 (91 + i) 1) (mc (tkv hc i)) (mi i (tkv hc i)) (nI (k - 10)) = gm2 at ml7 dm2 r2' c3
  -- one lodger more
  obtain ⟨q1, q2, q3, q4, q5, q6, q7⟩ := r2'
  have l0 := q7.1 i hi
  obtain ⟨lg1, lg2⟩ := lsm_ge H q7.1
  have up1 : (gc2 2 (11 * i + 7) + 1).toInt = (gc2 2 (11 * i + 7)).toInt + 1 := by
    have a := lg2 i hi
    have c := q7.2.1
    exact i_add (a := 0) (b := 1000000) (c := 1) (d := 1) ⟨l0, by omega⟩ ⟨by decide, by decide⟩ (by decide)
  have r3 : RTT A H (b + 1) Ls B (up gc2 2 (11 * i + 7) (gc2 2 (11 * i + 7) + 1)) (up gm2 105 (79 + i) (gc2 2 (11 * i + 7) + 1)) := by
    refine ⟨tb_wr q1 hi (c := 7) (by decide) _ (fun z => by omega), ⟨q2.1, q2.2.1, q2.2.2.1, lwc_of q2.2.2.2.1 (fun b _ _ => up_cell (by omega)), lwm_of q2.2.2.2.2 (fun b _ _ => up_cell (by omega))⟩, bk_of q3 (up_cell (by decide)) (up_cell (by decide)) (up_oj (by omega)) (up_cell (by decide)), fun k hk => ?_, by rw [up_oc (by decide)]; exact q5, by rw [up_oc (by decide)]; exact q6, ⟨fun k hk => ?_, ?_, hb⟩⟩
    · rw [nx_fr (up_cell (by decide)) (up_cell (by decide)), up_oc (by decide)]
      exact q4 k hk
    · by_cases z : k = i
      · rw [z, up_same, up1]; omega
      · rw [up_oj (by omega)]; exact q7.1 k hk
    · rw [lsm_up H hi, up1]
      have := q7.2.1
      omega
  have c5 : mB_read 1 (nI i) 7 gc2 = some (gc2 2 (11 * i + 7)) := rdB q1 hi (c := 7) (by decide)
  have c6 : mB_write 1 (nI i) 7 (gc2 2 (11 * i + 7) + 1) gc2 = some (up gc2 2 (11 * i + 7) (gc2 2 (11 * i + 7) + 1)) := wrB q1 hi (c := 7) (by decide) _
  have e79 : gm2 105 (79 + i) = gc2 2 (11 * i + 7) := by rw [ml7, l7]
  obtain ⟨gc4, gm4, n1, n2, n3, n4, n5⟩ := rt_note r3 5 (nI i) (gc2 2 (11 * i + 7) + 1)
  obtain ⟨gc5, gm5, o1, o2, o3, o4, o5, o6, _⟩ := lv_sim n3 hi
  refine ⟨gc5, gm5, ?_, ?_, o3, dc_t (dc_t dc2 (dc_t (fun x _ x2 _ _ _ _ _ => up_cell x2) (fun x _ _ x3 x4 _ _ _ => n4 x x3 x4))) o4, dm_t (dm_t dm2 (dm_t (dm_up gm2 _ _) n5)) o5, by rw [o6, n4 1 (by decide) (by decide), up_cell (by decide)]; exact f12⟩
  · unfold mS_wed
    rw [show sT 68 = 1 from rfl, c1, bd_e, b1, bd_e, c2, bd2_e, c5, bd_e, lt_e, c6, bd_e, n1, bd_e, o1, bd_e]
  · unfold mm_isWed
    rw [a2, bd_e, show (91 : Int32) + nI i = nI (91 + i) from nI_add 91 i, ck_nI (show 91 + i < 115 by omega) (by decide), lt_e, show ix (nI (91 + i)) = 91 + i from nI_clamp (by omega), c4, bd_e, c3, bd_e, show (79 : Int32) + nI i = nI (79 + i) from nI_add 79 i, ck_nI (show 79 + i < 115 by omega) (by decide), ck_nI (show 79 + i < 115 by omega) (by decide), lt_e, show ix (nI (79 + i)) = 79 + i from nI_clamp (by omega), ck_nI (show 79 + i < 115 by omega) (by decide), up_same, e79, n2, bd_e, o2, bd_e]
