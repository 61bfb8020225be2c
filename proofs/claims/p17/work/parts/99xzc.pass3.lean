section
/-! A QUARTER goes by: both sides -/
theorem zN_eq {p q : Nat → Bool} : ∀ k, (∀ i, i < k → p i = q i) → zN p k = zN q k := by
  intro k
  induction k with
  | zero => intro _; rfl
  | succ k ih => intro e; rw [zN, zN, ih (fun i hi => e i (by omega)), e k (by omega)]
theorem st_0 {A : Nat → Prop} {H : Nat} {hc hm : PH} (t : TW A H hc hm) {i : Nat} (hi : i < H) : upI hc i = 0 ↔ ∀ w, w < 4 → hc 2 (11 * i + w) = 0 := by
  obtain ⟨a, a1, a2, ea⟩ := nat_of (t.2.2.2.2.2 i 0 hi (by decide)) (by decide)
  obtain ⟨b, b1, b2, eb⟩ := nat_of (t.2.2.2.2.2 i 1 hi (by decide)) (by decide)
  obtain ⟨c, c1, c2, ec⟩ := nat_of (t.2.2.2.2.2 i 2 hi (by decide)) (by decide)
  obtain ⟨d, d1, d2, ed⟩ := nat_of (t.2.2.2.2.2 i 3 hi (by decide)) (by decide)
  have ea' := ea
  rw [Nat.add_zero] at ea'
  have es : sm4 hc i = nI (a + b + c + d) := by
    unfold sm4
    rw [ea', eb, ec, ed, nI_add, nI_add, nI_add]
  unfold upI
  rw [es]
  constructor
  · intro z
    by_cases y : a + b + c + d = 0
    · intro w hw
      have : w = 0 ∨ w = 1 ∨ w = 2 ∨ w = 3 := by omega
      rcases this with e | e | e | e <;> subst e
      · rw [ea, show a = 0 by omega]; rfl
      · rw [eb, show b = 0 by omega]; rfl
      · rw [ec, show c = 0 by omega]; rfl
      · rw [ed, show d = 0 by omega]; rfl
    · rw [if_neg (nI_nle (by omega) (by omega))] at z
      exact absurd z (by decide)
  · intro z
    have z0 := z 0 (by decide)
    have z1 := z 1 (by decide)
    have z2 := z 2 (by decide)
    have z3 := z 3 (by decide)
    rw [ea, ← nI_0, nI_eq (by omega) (by decide)] at z0
    rw [eb, ← nI_0, nI_eq (by omega) (by decide)] at z1
    rw [ec, ← nI_0, nI_eq (by omega) (by decide)] at z2
    rw [ed, ← nI_0, nI_eq (by omega) (by decide)] at z3
    rw [z0, z1, z2, z3]
    rfl
theorem up_mono {A B : Nat → Prop} {H : Nat} {hc hm gc gm : PH} (t : TW A H hc hm) (t' : TW B H gc gm) (wd : WD H hc gc) {i : Nat} (hi : i < H) (u : upb gc i = true) : upb hc i = true := by
  unfold upb at u ⊢
  by_cases z : upI hc i = 0
  · exfalso
    have w0 := (st_0 t hi).mp z
    have : upI gc i = 0 := (st_0 t' hi).mpr (fun w hw => by
      have a := wd.1 i w hi hw
      rw [w0 w hw, Int32.le_iff_toInt_le] at a
      have b := (t'.2.2.2.2.2 i w hi hw).1
      have z0 : (0 : Int32).toInt = 0 := rfl
      exact Int32.toInt_inj.mp (by omega))
    rw [decide_eq_true this] at u
    exact absurd u (by decide)
  · rw [decide_eq_false z]
    rfl
theorem ps_sim {B : BKT} {H b N M : Nat} {Ls : LNS} {hc hm : PH} (r : RTT AA H b Ls B hc hm) (s : SK N hc hm) (o : OF H M hc hm) {Q : Nat} (q : hc 1 6 = nI Q) (hQ : Q < 9999) (hb : b + M < 1000000) : ∃ x gc gm, mS_pass 68 hc = some (x, gc) ∧ mm_goesBy hm = some (x, gm) ∧ RTT AA H (b + M) Ls B gc gm ∧ DC hc gc ∧ DM hm gm ∧ gc 1 6 = nI (Q + 1) := by
  have h12 := r.1.1
  have oM := o.1
  obtain ⟨g1, m1, w1, w2, w3, w4, w5, w6⟩ := wt_sim s r
  have o1 : OF H M g1 m1 := of_of o (w4 12 (by decide)) (w4 13 (by decide)) (by rw [w5 104 (by decide) (by decide) (by decide) (by decide)]) (w5 122 (by decide) (by decide) (by decide) (by decide))
  obtain ⟨g2, m2, b1, b2, b3, b4, b5, b6⟩ := ol_loop (hc := g1) (hm := m1) (b := b) o1 hb FU FU 0 g1 m1 (by unfold FU; omega) (by unfold FU; omega) (Nat.zero_le _) w3 (dc_r g1) (dm_r m1) rfl
  have k1 := cu_n b3.1
  have k2 := (us_n b3.1).2
  obtain ⟨g3, m3, c1, c2, c3, c4, c5, c6⟩ := rl_loop2 (hc := g2) (hm := m2) (nI (zct (upb g2) H)) (nI (zN (upb g2) H)) FU 0 g2 m2 (by unfold FU; omega) (Nat.zero_le _) b3 (dc_r g2) (dm_r m2) (wd_r H g2)
  obtain ⟨g4, m4, d1, d2, d3, d4, d5, d6⟩ := gl_loop2 (hc := g3) (hm := m3) (nI (zct (upb g2) H)) (nI (zN (upb g2) H)) FU 0 g3 m3 (by unfold FU; omega) (Nat.zero_le _) c3 (dc_r g3) (dm_r m3) (wd_r H g3)
  obtain ⟨g5, m5, e1, e2, e3, e4, e5, e6⟩ := ml_loop2 (hc := g4) (hm := m4) (nI (zct (upb g2) H)) (nI (zN (upb g2) H)) FU 0 g4 m4 (by unfold FU; omega) (Nat.zero_le _) d3 (dc_r g4) (dm_r m4) (wd_r H g4)
  have k3 := cu_n e3.1
  obtain ⟨g6, m6, f1, f2, f3, f4, f5, f6⟩ := hd_loop2 (hc := g5) (hm := m5) (nI (zN (upb g2) H)) FU FU 0 g5 m5 (by unfold FU; omega) (by unfold FU; omega) (Nat.zero_le _) e3 (fun _ _ => rfl) (fun _ _ _ _ _ => rfl) (dm_r m5)
  obtain ⟨g7, m7, h1, h2, h3, h4, h5, h6, h7, h8⟩ := la_loop (hc := g6) (hm := m6) (nI (zct (upb g2) H) - nI (zct (upb g5) H)) (nI (zN (upb g2) H)) FU 0 g6 m6 (by unfold FU; omega) (Nat.zero_le _) (rt_age (A' := fun i => 0 ≤ i) f3 (fun i hi _ => ((colM f3.1 hi).2.2.2.2.2.2 trivial).symm)) (dc_r g6) (dm_r m6) rfl (fun _ _ _ _ _ => rfl) (fun i hi => absurd hi (Nat.not_lt_zero i))
  obtain ⟨g8, i1, i2, i3, i4⟩ := gw_loop (hc := g7) (gm := m7) FU 0 g7 (by unfold FU; omega) (Nat.zero_le _) (rt_age (A' := fun i => i < 0) h3 (fun i _ ha => absurd ha (Nat.not_lt_zero i))) (fun _ _ => rfl) (fun _ _ _ _ => rfl) (fun i _ hi => h8 i hi)
  have r8 : RTT AA H (b + M) Ls B g8 m7 := rt_age i2 (fun i hi _ => ((colM i2.1 hi).2.2.2.2.2.2 hi).symm)
  have q8 : g8 1 6 = nI Q := by rw [i3 1 (by decide), h6, f4 1 (by decide), e6.2, d6.2, c6.2, b6, w6]; exact q
  have q7 : m7 105 0 = nI Q := by rw [← q8]; exact (r8.1.2.2.2.1 6 (by decide) (by decide)).symm
  have im : imin 9999 (nI Q + 1) = nI (Q + 1) := by
    rw [nI_1]
    unfold imin
    by_cases z : Q + 1 = 9999
    · rw [z]; rfl
    · rw [if_pos (show nI (Q + 1) < (9999 : Int32) from nI_lt (b := 9999) (by omega) (by decide))]
  have r9 : RTT AA H (b + M) Ls B (up g8 1 6 (nI (Q + 1))) (up m7 105 0 (nI (Q + 1))) := rt_f r8 (f := 6) (by decide) (by decide) _
  have k4 := (us_n r9.1).2
  have eu : zN (upb (up g8 1 6 (nI (Q + 1)))) H = zN (upb g5) H := zN_eq H (fun i hi => by
    have e : ∀ w, w < 4 → up g8 1 6 (nI (Q + 1)) 2 (11 * i + w) = g5 2 (11 * i + w) := fun w hw => by
      rw [up_oc (by decide), i4 i w hi (by omega), h7 i w hi (by omega) (by omega), f5 i w hi (by omega) (by omega)]
    unfold upb
    rw [upi_fr e])
  rw [eu] at k4
  have k5 := fell_e (p := upb g2) (q := upb g5) h12 (fun i hi u => up_mono b3.1 e3.1 (wd_t c6 (wd_t d6 e6)) hi u) (up m7 105 0 (nI (Q + 1)))
  have c0 : ∀ (z : Option (Int32 × PH)), ck 0 115 z = z := fun z => ck_nI (i := 0) (by decide) (by decide)
  rw [nI_0] at b1 b2 c1 c2 d1 d2 e1 e2 f1 f2 h1 h2 i1
  have gw : mS_grow 68 g7 = some (up g8 1 6 (nI (Q + 1))) := by
    unfold mS_grow
    rw [i1, show sT 68 = 1 from rfl, lt_e, q8, im]
  have hd : mS_harden 68 g5 = some g6 := f1
  refine ⟨nI (zct (upb g2) H) - nI (zct (upb g5) H), _, _, ?_, ?_, r9, ?_, ?_, up_same⟩
  · unfold mS_pass
    rw [w1, bd_e, b1, show sT 68 = 1 from rfl, k1, bd_e, c1, d1, e1, k3, bd_e, lt_e, hd, bd_e, h1, gw, bd_e]
  · unfold mm_goesBy
    rw [w2, bd_e, show mm_goesBy_L6 _ FU 0 m1 = _ from b2 _, k2, bd_e, c2, d2, e2, f2, h2, c0, c0, lt_e, show ix (0 : Int32) = 0 from rfl, q7, nI_1, k4, bd_e, k5, bd_e]
  · have dcw : DC hc g1 := fun x x1 _ _ _ _ _ _ => w4 x x1
    have dcf : DC g5 g6 := fun x _ x2 _ _ _ _ _ => f4 x x2
    have dci : DC g7 g8 := fun x _ x2 _ _ _ _ _ => i3 x x2
    exact dc_t dcw (dc_t b4 (dc_t c4 (dc_t d4 (dc_t e4 (dc_t dcf (dc_t h4 (dc_t dci (fun x x1 _ _ _ _ _ _ => up_cell x1))))))))
  · exact dm_t w5 (dm_t b5 (dm_t c5 (dm_t d5 (dm_t e5 (dm_t f6 (dm_t h5 (dm_up m7 _ _)))))))
end
section
/-! THE PAST: what is kept is a town, too: RTT over heaps in which the kept town stands where the town stands -/
theorem mi_b : ∀ i, i < 12 → ∀ c, c < 11 → (mc c = 108 ∨ mc c = 109) → mi i c < 12 := by decide +kernel
theorem tb_cg {A : Nat → Prop} {H : Nat} {hc hm gc gm : PH} (t : TW A H hc hm) (c1 : ∀ j, 1 ≤ j → j ≤ 7 → gc 1 j = hc 1 j) (c2 : ∀ j, j < 132 → gc 2 j = hc 2 j) (m6 : gm 104 6 = hm 104 6) (m5 : ∀ j, j < 115 → gm 105 j = hm 105 j) (m8 : ∀ j, j < 12 → gm 108 j = hm 108 j) (m9 : ∀ j, j < 12 → gm 109 j = hm 109 j) : TW A H gc gm := by
  obtain ⟨t1, t2, t3, t4, t5, t6⟩ := t
  refine ⟨t1, by rw [c1 1 (by decide) (by decide)]; exact t2, by rw [m6]; exact t3, fun f f1 f2 => ?_, fun i c hi hcc ha => ?_, fun i c hi hc4 => ?_⟩
  · rw [c1 f (by omega) (by omega), m5 _ (by have := (sf_r f f2 f1).1; omega)]
    exact t4 f f1 f2
  · rw [c2 _ (by omega), t5 i c hi hcc ha]
    have b := mi_b i (by omega) c hcc
    rcases (mi_r i (by omega) c hcc).2.2 with e | e | e
    · rw [e, m5 _ (mi_r i (by omega) c hcc).1]
    · rw [e, m8 _ (b (Or.inl e))]
    · rw [e, m9 _ (b (Or.inr e))]
  · rw [c2 _ (by omega)]
    exact t6 i c hi hc4
theorem bk_cg {B : BKT} {hc hm gc gm : PH} (b : BKr B hc hm) (c0 : gc 16 0 = hc 16 0) (c1 : gc 16 1 = hc 16 1) (c3 : gc 16 3 = hc 16 3) (c7 : ∀ j, j < 600 → gc 17 j = hc 17 j) (m2 : gm 105 2 = hm 105 2) (m10 : ∀ j, j < 600 → gm 110 j = hm 110 j) : BKr B gc gm := by
  obtain ⟨n, n1, n2, n3, n4, n5, n6, n7⟩ := b
  exact ⟨n, n1, by rw [c0]; exact n2, by rw [c1]; exact n3, by rw [c3]; exact n4, by rw [m2]; exact n5, fun j hj => by rw [c7 j (by omega), m10 j (by omega)]; exact n6 j hj, n7.1, fun j hj => by have := n7.1; rw [c7 j (by omega)]; exact n7.2 j hj⟩
/-- RTT speaks of these cells alone -/
theorem rt_cg {B : BKT} {A : Nat → Prop} {H b : Nat} {Ls : LNS} {hc hm gc gm : PH} (r : RTT A H b Ls B hc hm) (c1 : ∀ j, 1 ≤ j → j ≤ 7 → gc 1 j = hc 1 j) (c2 : ∀ j, j < 132 → gc 2 j = hc 2 j) (cl : ∀ x, 6 ≤ x → x ≤ 9 → gc x = hc x) (c14 : gc 14 = hc 14) (c15 : gc 15 = hc 15) (c60 : gc 16 0 = hc 16 0) (c61 : gc 16 1 = hc 16 1) (c63 : gc 16 3 = hc 16 3) (c7 : ∀ j, j < 600 → gc 17 j = hc 17 j) (c68 : gc 68 3 = hc 68 3) (m45 : gm 104 5 = hm 104 5) (m46 : gm 104 6 = hm 104 6) (m5 : ∀ j, j < 115 → gm 105 j = hm 105 j) (m8 : ∀ j, j < 12 → gm 108 j = hm 108 j) (m9 : ∀ j, j < 12 → gm 109 j = hm 109 j) (m10 : ∀ j, j < 600 → gm 110 j = hm 110 j) (ml : ∀ x, 113 ≤ x → x ≤ 119 → gm x = hm x) (m23 : gm 123 = hm 123) : RTT A H b Ls B gc gm := by
  obtain ⟨q1, q2, q3, q4, q5, q6, q7⟩ := r
  have h12 := q1.1
  refine ⟨tb_cg q1 c1 c2 m46 m5 m8 m9, ⟨q2.1, q2.2.1, q2.2.2.1, lwc_of q2.2.2.2.1 cl, lwm_of q2.2.2.2.2 ml⟩, bk_cg q3 c60 c61 c63 c7 (m5 2 (by decide)) m10, fun k hk => ?_, by rw [c68]; exact q5, by rw [m45]; exact q6, ld_of q7 (fun i hi => c2 _ (by omega))⟩
  rw [nx_fr c14 c15, m23]
  exact q4 k hk
/-- where the kept town e stands for the town; where the kept row j stands for now -/
def pC (e : Nat) (h : PH) : PH := fun b => if b = 1 then h (73 + 2 * e) else if b = 2 then h (74 + 2 * e) else if b = 16 then (fun j => if j = 3 then h 72 e else h 16 j) else h b
def pM (j : Nat) (h : PH) : PH := fun b => if b = 105 then (fun x => h 106 (115 * j + x)) else h b
theorem pC_1 (e : Nat) (h : PH) : pC e h 1 = h (73 + 2 * e) := rfl
theorem pC_2 (e : Nat) (h : PH) : pC e h 2 = h (74 + 2 * e) := rfl
theorem pC_3 (e : Nat) (h : PH) : pC e h 16 3 = h 72 e := rfl
theorem pC_6 (e : Nat) (h : PH) {j : Nat} (hj : j ≠ 3) : pC e h 16 j = h 16 j := by
  change (if j = 3 then h 72 e else h 16 j) = _
  rw [if_neg hj]
theorem pC_o (e : Nat) (h : PH) {b : Nat} (h1 : b ≠ 1) (h2 : b ≠ 2) (h3 : b ≠ 16) : pC e h b = h b := by
  unfold pC
  rw [if_neg h1, if_neg h2, if_neg h3]
theorem pM_5 (j : Nat) (h : PH) (x : Nat) : pM j h 105 x = h 106 (115 * j + x) := rfl
theorem pM_o (j : Nat) (h : PH) {b : Nat} (h1 : b ≠ 105) : pM j h b = h b := by
  unfold pM
  rw [if_neg h1]
def B0 : BKT := (0, fun _ => 0)
def PK (H b : Nat) (Ls : LNS) (u s : Nat) (hc hm : PH) : Prop := u ≤ 6 ∧ s < 6 ∧ hc 70 2 = nI s ∧ hc 70 3 = nI u ∧ hm 104 3 = nI u ∧ (∀ j, j < u → RTT AA H b Ls B0 (pC ((s + j) % 6) hc) (pM j hm) ∧ hc 72 ((s + j) % 6) ≤ hc 16 3) ∧ ∀ i j, i < j → j < u → hc 72 ((s + i) % 6) ≤ hc 72 ((s + j) % 6)
/-- a kept town stays one while its cells, the texts, the book's old lines stay -/
theorem rt_kept {B : BKT} {H b : Nat} {Ls : LNS} {hc hm gc gm : PH} {e f j k : Nat} (r : RTT AA H b Ls B (pC e hc) (pM j hm)) (c1 : ∀ x, 1 ≤ x → x ≤ 7 → gc (73 + 2 * f) x = hc (73 + 2 * e) x) (c2 : ∀ x, x < 132 → gc (74 + 2 * f) x = hc (74 + 2 * e) x) (cn : gc 72 f = hc 72 e) (cl : ∀ x, 6 ≤ x → x ≤ 9 → gc x = hc x) (c14 : gc 14 = hc 14) (c15 : gc 15 = hc 15) (c60 : gc 16 0 = hc 16 0) (c61 : gc 16 1 = hc 16 1) (c7 : ∀ x, x < 600 → gc 17 x = hc 17 x) (c68 : gc 68 3 = hc 68 3) (m45 : gm 104 5 = hm 104 5) (m46 : gm 104 6 = hm 104 6) (m5 : ∀ x, x < 115 → gm 106 (115 * k + x) = hm 106 (115 * j + x)) (m8 : ∀ x, x < 12 → gm 108 x = hm 108 x) (m9 : ∀ x, x < 12 → gm 109 x = hm 109 x) (m10 : ∀ x, x < 600 → gm 110 x = hm 110 x) (ml : ∀ x, 113 ≤ x → x ≤ 119 → gm x = hm x) (m23 : gm 123 = hm 123) : RTT AA H b Ls B (pC f gc) (pM k gm) := by
  refine rt_cg r c1 c2 (fun x x1 x2 => ?_) ?_ ?_ ?_ ?_ cn (fun x hx => ?_) ?_ ?_ ?_ m5 (fun x hx => ?_) (fun x hx => ?_) (fun x hx => ?_) (fun x x1 x2 => ?_) ?_
  · rw [pC_o f gc (by omega) (by omega) (by omega), pC_o e hc (by omega) (by omega) (by omega)]; exact cl x x1 x2
  · rw [pC_o f gc (by decide) (by decide) (by decide), pC_o e hc (by decide) (by decide) (by decide)]; exact c14
  · rw [pC_o f gc (by decide) (by decide) (by decide), pC_o e hc (by decide) (by decide) (by decide)]; exact c15
  · rw [pC_6 f gc (by decide), pC_6 e hc (by decide)]; exact c60
  · rw [pC_6 f gc (by decide), pC_6 e hc (by decide)]; exact c61
  · rw [pC_o f gc (by decide) (by decide) (by decide), pC_o e hc (by decide) (by decide) (by decide)]; exact c7 x hx
  · rw [pC_o f gc (by decide) (by decide) (by decide), pC_o e hc (by decide) (by decide) (by decide)]; exact c68
  · rw [pM_o k gm (by decide), pM_o j hm (by decide)]; exact m45
  · rw [pM_o k gm (by decide), pM_o j hm (by decide)]; exact m46
  · rw [pM_o k gm (by decide), pM_o j hm (by decide)]; exact m8 x hx
  · rw [pM_o k gm (by decide), pM_o j hm (by decide)]; exact m9 x hx
  · rw [pM_o k gm (by decide), pM_o j hm (by decide)]; exact m10 x hx
  · rw [pM_o k gm (by omega), pM_o j hm (by omega)]; exact ml x x1 x2
  · rw [pM_o k gm (by decide), pM_o j hm (by decide)]; exact m23
end
section
/-! THE TOWN IS KEPT: both sides -/
theorem bc_g {a0 a1 : Nat} (d : a0 + 1 < a1 ∨ a1 + 1 < a0) (h : PH) : ∃ g, mB_copyFrom a0 a1 h = some g ∧ (∀ c, c ≠ a0 → c ≠ a0 + 1 → g c = h c) ∧ (∀ j, 1 ≤ j → j ≤ 7 → g a0 j = h a1 j) ∧ ∀ j, j < 132 → g (a0 + 1) j = h (a1 + 1) j := by
  have n1 : a1 ≠ a0 := by omega
  have n2 : a1 ≠ a0 + 1 := by omega
  have n3 : a0 + 1 ≠ a0 := by omega
  have n4 : a1 + 1 ≠ a0 := by omega
  unfold mB_copyFrom
  have hcc : ∀ {ρ : Type} (k : Option ρ), cc 132 132 0 0 132 k = k := fun k => if_neg (by decide)
  rw [hcc, lt_e, lt_e, lt_e, lt_e, lt_e, lt_e, lt_e, lt_e, show ix (0 : Int32) = 0 from rfl, show ix (132 : Int32) = 132 from rfl]
  refine ⟨_, rfl, fun c h1 h2 => ?_, fun j h1 h2 => ?_, fun j hj => ?_⟩
  · funext j
    rw [up_oc h1, up_oc h1, up_oc h1, up_oc h1, up_oc h1, up_oc h1, up_oc h1, cpy_at, if_neg h2]
  · have h7 : j = 1 ∨ j = 2 ∨ j = 3 ∨ j = 4 ∨ j = 5 ∨ j = 6 ∨ j = 7 := by omega
    rcases h7 with rfl | rfl | rfl | rfl | rfl | rfl | rfl <;> simp [up_at, cpy_at, n1, n2]
  · rw [up_oc n3, up_oc n3, up_oc n3, up_oc n3, up_oc n3, up_oc n3, up_oc n3, cpy_at, if_pos rfl, if_pos hj]
theorem irm_6 : ∀ s, s < 7 → ∀ u, u < 7 → irm (nI s + nI u) 6 = nI ((s + u) % 6) := by decide +kernel
/-- the class keeps its town -/
theorem kp_c {u s : Nat} {hc : PH} (hu : u ≤ 6) (hs : s < 6) (e2 : hc 70 2 = nI s) (e3 : hc 70 3 = nI u) (p : Int32) : ∃ gc, mP_keep 1 p hc = some gc ∧ (∀ c, c ≠ 70 → c ≠ 72 → c ≠ 73 + 2 * ((s + u) % 6) → c ≠ 74 + 2 * ((s + u) % 6) → gc c = hc c) ∧ (∀ j, 1 ≤ j → j ≤ 7 → gc (73 + 2 * ((s + u) % 6)) j = hc 1 j) ∧ (∀ j, j < 132 → gc (74 + 2 * ((s + u) % 6)) j = hc 2 j) ∧ gc 72 ((s + u) % 6) = p ∧ (∀ j, j ≠ (s + u) % 6 → gc 72 j = hc 72 j) ∧ gc 70 2 = nI (if u = 6 then (s + 1) % 6 else s) ∧ gc 70 3 = nI (if u = 6 then 6 else u + 1) := by
  have m6 : (s + u) % 6 < 6 := Nat.mod_lt _ (by decide)
  have d6 : ∀ {ρ : Type} (q : Option ρ), dz 6 q = q := fun q => by unfold dz; rw [if_neg (by decide)]
  obtain ⟨g, g1, g2, g3, g4⟩ := bc_g (a0 := 73 + 2 * ((s + u) % 6)) (a1 := 1) (by omega) hc
  have c6 : ∀ (z : Option PH), ck (nI ((s + u) % 6)) 6 z = z := fun z => ck_nI m6 (by decide)
  have x6 : ix (nI ((s + u) % 6)) = (s + u) % 6 := nI_clamp (by omega)
  have f2 : up g 72 ((s + u) % 6) p 70 2 = nI s := by rw [up_oc (by decide), g2 70 (by omega) (by omega)]; exact e2
  have f3 : up g 72 ((s + u) % 6) p 70 3 = nI u := by rw [up_oc (by decide), g2 70 (by omega) (by omega)]; exact e3
  unfold mP_keep
  rw [d6, lt_e, e2, e3, irm_6 s (by omega) u (by omega), c6, x6, g1, bd_e, c6, lt_e, f3]
  by_cases c : u = 6
  · have i1 : irm (nI s + 1) 6 = nI ((s + 1) % 6) := irm_6 s (by omega) 1 (by decide)
    rw [if_pos (show (6 : Int32) ≤ nI u by rw [c]; decide), d6, lt_e, f2, i1, if_pos c, if_pos c]
    refine ⟨_, rfl, fun x x1 x2 x3 x4 => ?_, fun j j1 j2 => ?_, fun j hj => ?_, ?_, fun j hj => ?_, up_same, ?_⟩
    · rw [up_cell x1, up_cell x2, g2 x x3 (by omega)]
    · rw [up_oc (by omega), up_oc (by omega)]; exact g3 j j1 j2
    · rw [up_oc (by omega), up_oc (by omega), show 74 + 2 * ((s + u) % 6) = 73 + 2 * ((s + u) % 6) + 1 by omega]; exact g4 j hj
    · rw [up_oc (by decide), up_same]
    · rw [up_oc (by decide), up_oj hj, g2 72 (by omega) (by omega)]
    · rw [up_oj (by decide), f3, c]
  · rw [if_neg (show ¬ (6 : Int32) ≤ nI u from nI_ge (b := 6) (by omega) (by decide)), lt_e, nI_1, if_neg c, if_neg c]
    refine ⟨_, rfl, fun x x1 x2 x3 x4 => ?_, fun j j1 j2 => ?_, fun j hj => ?_, ?_, fun j hj => ?_, ?_, up_same⟩
    · rw [up_cell x1, up_cell x2, g2 x x3 (by omega)]
    · rw [up_oc (by omega), up_oc (by omega)]; exact g3 j j1 j2
    · rw [up_oc (by omega), up_oc (by omega), show 74 + 2 * ((s + u) % 6) = 73 + 2 * ((s + u) % 6) + 1 by omega]; exact g4 j hj
    · rw [up_oc (by decide), up_same]
    · rw [up_oc (by decide), up_oj hj, g2 72 (by omega) (by omega)]
    · rw [up_oj (by decide), f2]
/-- the model's now is laid into row u -/
theorem ka_55 {u : Nat} (hu : u < 6) : ∀ (n x : Nat) (gm : PH), 115 < n + x → x ≤ 115 → gm 104 3 = nI u → ∃ g, (∀ k0, mm_keepsAhead_L55 k0 n (nI x) gm = k0 g) ∧ (∀ b, b ≠ 106 → g b = gm b) ∧ (∀ y, x ≤ y → y < 115 → g 106 (115 * u + y) = gm 105 y) ∧ ∀ y, y < 115 * u + x → g 106 y = gm 106 y := by
  intro n
  induction n with
  | zero => intro x gm h1 h2; omega
  | succ n ih =>
    intro x gm h1 h2 e3
    by_cases c : x = 115
    · subst c
      exact ⟨gm, fun k0 => by rw [mm_keepsAhead_L55, if_pos (by decide)], fun _ _ => rfl, fun y y1 y2 => by omega, fun _ _ => rfl⟩
    · have hx : x < 115 := by omega
      obtain ⟨g, a1, a2, a3, a4⟩ := ih (x + 1) (up gm 106 (115 * u + x) (gm 105 x)) (by omega) (by omega) (by rw [up_oc (by decide)]; exact e3)
      refine ⟨g, fun k0 => ?_, fun b hb => by rw [a2 b hb, up_cell hb], fun y y1 y2 => ?_, fun y hy => by rw [a4 y (by omega), up_oj (by omega)]⟩
      · rw [mm_keepsAhead_L55, if_neg (show ¬ (115 : Int32) ≤ nI x from nI_ge (b := 115) hx (by decide)), ck_nI (show x < 115 by omega) (by decide), e3, show (115 : Int32) * nI u = nI (115 * u) from nI_mul 115 u, nI_add, ck_nI (show 115 * u + x < 690 by omega) (by decide), lt_e, show ix (nI (115 * u + x)) = 115 * u + x from nI_clamp (by omega), show ix (nI x) = x from nI_clamp (by omega), nI_1, a1]
      · by_cases z : y = x
        · rw [z, a4 _ (by omega), up_same]
        · rw [a3 y (by omega) y2, up_oc (by decide)]
theorem ka_21 : ∀ (n x : Nat) (gm : PH), 575 < n + x → x ≤ 575 → gm 104 3 = nI 5 → ∃ g, (∀ k0, mm_keepsAhead_L21 k0 n (nI x) gm = k0 g) ∧ (∀ b, b ≠ 106 → g b = gm b) ∧ (∀ y, x ≤ y → y < 575 → g 106 y = gm 106 (y + 115)) ∧ ∀ y, y < x → g 106 y = gm 106 y := by
  intro n
  induction n with
  | zero => intro x gm h1 h2; omega
  | succ n ih =>
    intro x gm h1 h2 e3
    have t5 : (115 : Int32) * nI 5 = nI 575 := nI_mul 115 5
    by_cases c : x = 575
    · subst c
      exact ⟨gm, fun k0 => by rw [mm_keepsAhead_L21, e3, t5, if_pos (nI_le (Nat.le_refl _) (by decide))], fun _ _ => rfl, fun y y1 y2 => by omega, fun _ _ => rfl⟩
    · have hx : x < 575 := by omega
      obtain ⟨g, a1, a2, a3, a4⟩ := ih (x + 1) (up gm 106 x (gm 106 (x + 115))) (by omega) (by omega) (by rw [up_oc (by decide)]; exact e3)
      refine ⟨g, fun k0 => ?_, fun b hb => by rw [a2 b hb, up_cell hb], fun y y1 y2 => ?_, fun y hy => by rw [a4 y (by omega), up_oj (by omega)]⟩
      · rw [mm_keepsAhead_L21, e3, t5, if_neg (nI_ge hx (by decide)), show nI x + (115 : Int32) = nI (x + 115) from nI_add x 115, ck_nI (show x + 115 < 690 by omega) (by decide), ck_nI (show x < 690 by omega) (by decide), lt_e, show ix (nI (x + 115)) = x + 115 from nI_clamp (by omega), show ix (nI x) = x from nI_clamp (by omega), nI_1, a1]
      · by_cases z : y = x
        · rw [z, a4 _ (by omega), up_same]
        · rw [a3 y (by omega) y2, up_oj (by omega)]
/-- the model keeps its town -/
theorem kp_m {u : Nat} {hm : PH} (hu : u ≤ 6) (e3 : hm 104 3 = nI u) : ∃ gm, mm_keepsAhead hm = some gm ∧ (∀ b, b ≠ 106 → b ≠ 104 → gm b = hm b) ∧ (∀ j, j ≠ 3 → gm 104 j = hm 104 j) ∧ gm 104 3 = nI (if u = 6 then 6 else u + 1) ∧ (∀ j x, j < (if u = 6 then 5 else u) → x < 115 → gm 106 (115 * j + x) = hm 106 (115 * (if u = 6 then j + 1 else j) + x)) ∧ ∀ x, x < 115 → gm 106 (115 * (if u = 6 then 5 else u) + x) = hm 105 x := by
  unfold mm_keepsAhead
  rw [jn1_e, e3]
  by_cases c : u = 6
  · subst c
    obtain ⟨g1, a1, a2, a3, a4⟩ := ka_21 FU 0 (up hm 104 3 (nI 5)) (by unfold FU; omega) (by decide) up_same
    obtain ⟨g2, b1, b2, b3, b4⟩ := ka_55 (u := 5) (by decide) FU 0 g1 (by unfold FU; omega) (by decide) (by rw [a2 104 (by decide)]; exact up_same)
    rw [nI_0] at a1 b1
    have f3 : g2 104 3 = nI 5 := by rw [b2 104 (by decide), a2 104 (by decide)]; exact up_same
    rw [if_pos (show nI 6 = (6 : Int32) from rfl), lt_e, show nI 6 - (1 : Int32) = nI 5 from rfl, a1]
    dsimp only
    rw [b1, lt_e, f3]
    refine ⟨_, rfl, fun b hb1 hb2 => ?_, fun j hj => ?_, ?_, fun j x hj hx => ?_, fun x hx => ?_⟩
    · rw [up_cell hb2, b2 b hb1, a2 b hb1, up_cell hb2]
    · rw [up_oj hj, b2 104 (by decide), a2 104 (by decide), up_oj hj]
    · rw [up_same]; rfl
    · rw [if_pos rfl] at hj ⊢
      rw [up_oc (by decide), b4 _ (by omega), a3 _ (by omega) (by omega), up_oc (by decide), show 115 * j + x + 115 = 115 * (j + 1) + x by omega]
    · rw [if_pos rfl, up_oc (by decide), b3 x (by omega) hx, a2 105 (by decide), up_oc (by decide)]
  · obtain ⟨g2, b1, b2, b3, b4⟩ := ka_55 (u := u) (by omega) FU 0 hm (by unfold FU; omega) (by decide) e3
    rw [nI_0] at b1
    rw [if_neg (show ¬ nI u = (6 : Int32) from fun z => c ((nI_eq (b := 6) (by omega) (by decide)).mp z))]
    dsimp only
    rw [b1, lt_e, b2 104 (by decide), e3, nI_1]
    refine ⟨_, rfl, fun b hb1 hb2 => ?_, fun j hj => ?_, ?_, fun j x hj hx => ?_, fun x hx => ?_⟩
    · rw [up_cell hb2, b2 b hb1]
    · rw [up_oj hj, b2 104 (by decide)]
    · rw [up_same, if_neg c]
    · rw [if_neg c] at hj ⊢
      rw [up_oc (by decide), b4 _ (by omega)]
    · rw [if_neg c, up_oc (by decide), b3 x (by omega) hx]
theorem rt_B0 {B : BKT} {A : Nat → Prop} {H b : Nat} {Ls : LNS} {hc hm : PH} (r : RTT A H b Ls B hc hm) : RTT A H b Ls B0 hc hm := by
  obtain ⟨q1, q2, ⟨n, n1, n2, n3, n4, n5, n6, n7⟩, q4, q5, q6, q7⟩ := r
  exact ⟨q1, q2, ⟨n, n1, n2, n3, n4, n5, n6, Nat.zero_le n, fun j hj => absurd hj (Nat.not_lt_zero j)⟩, q4, q5, q6, q7⟩
/-- both sides keep the town: what was kept stays kept but the oldest of six -/
theorem kp_sim {B : BKT} {H b u s : Nat} {Ls : LNS} {hc hm : PH} (r : RTT AA H b Ls B hc hm) (pk : PK H b Ls u s hc hm) : ∃ gc gm u' s', mP_keep 1 (hc 16 3) hc = some gc ∧ mm_keepsAhead hm = some gm ∧ RTT AA H b Ls B gc gm ∧ PK H b Ls u' s' gc gm ∧ (∀ x, x < 70 → gc x = hc x) ∧ (∀ x, 84 < x → gc x = hc x) ∧ (∀ x, x ≠ 106 → x ≠ 104 → gm x = hm x) ∧ ∀ j, j ≠ 3 → gm 104 j = hm 104 j := by
  obtain ⟨p1, p2, p3, p4, p5, p6, p7⟩ := pk
  obtain ⟨gc, a1, a2, a3, a4, a5, a6, a7, a8⟩ := kp_c p1 p2 p3 p4 (hc 16 3)
  obtain ⟨gm, b1, b2, b3, b4, b5, b6⟩ := kp_m p1 p5
  have m6 : (s + u) % 6 < 6 := Nat.mod_lt _ (by decide)
  have fc : ∀ x, x < 70 → gc x = hc x := fun x hx => a2 x (by omega) (by omega) (by omega) (by omega)
  have now : RTT AA H b Ls B gc gm := rt_cg r (fun j _ _ => by rw [fc 1 (by decide)]) (fun j _ => by rw [fc 2 (by decide)]) (fun x x1 x2 => fc x (by omega)) (fc 14 (by decide)) (fc 15 (by decide)) (by rw [fc 16 (by decide)]) (by rw [fc 16 (by decide)]) (by rw [fc 16 (by decide)]) (fun j _ => by rw [fc 17 (by decide)]) (by rw [fc 68 (by decide)]) (b3 5 (by decide)) (b3 6 (by decide)) (fun j _ => by rw [b2 105 (by decide) (by decide)]) (fun j _ => by rw [b2 108 (by decide) (by decide)]) (fun j _ => by rw [b2 109 (by decide) (by decide)]) (fun j _ => by rw [b2 110 (by decide) (by decide)]) (fun x x1 x2 => b2 x (by omega) (by omega)) (b2 123 (by decide) (by decide))
  have new : RTT AA H b Ls B0 (pC ((s + u) % 6) gc) (pM (if u = 6 then 5 else u) gm) ∧ gc 72 ((s + u) % 6) ≤ gc 16 3 := by
    refine ⟨rt_cg (rt_B0 r) (fun j j1 j2 => a3 j j1 j2) (fun j hj => a4 j hj) (fun x x1 x2 => ?_) ?_ ?_ ?_ ?_ ?_ (fun j _ => ?_) ?_ ?_ ?_ (fun x hx => b6 x hx) (fun j _ => ?_) (fun j _ => ?_) (fun j _ => ?_) (fun x x1 x2 => ?_) ?_, ?_⟩
    · rw [pC_o _ gc (by omega) (by omega) (by omega)]; exact fc x (by omega)
    · rw [pC_o _ gc (by decide) (by decide) (by decide)]; exact fc 14 (by decide)
    · rw [pC_o _ gc (by decide) (by decide) (by decide)]; exact fc 15 (by decide)
    · rw [pC_6 _ gc (by decide), fc 16 (by decide)]
    · rw [pC_6 _ gc (by decide), fc 16 (by decide)]
    · rw [pC_3]; exact a5
    · rw [pC_o _ gc (by decide) (by decide) (by decide), fc 17 (by decide)]
    · rw [pC_o _ gc (by decide) (by decide) (by decide), fc 68 (by decide)]
    · rw [pM_o _ gm (by decide)]; exact b3 5 (by decide)
    · rw [pM_o _ gm (by decide)]; exact b3 6 (by decide)
    · rw [pM_o _ gm (by decide), b2 108 (by decide) (by decide)]
    · rw [pM_o _ gm (by decide), b2 109 (by decide) (by decide)]
    · rw [pM_o _ gm (by decide), b2 110 (by decide) (by decide)]
    · rw [pM_o _ gm (by omega)]; exact b2 x (by omega) (by omega)
    · rw [pM_o _ gm (by decide)]; exact b2 123 (by decide) (by decide)
    · rw [a5, fc 16 (by decide)]; exact Int32.le_refl _
  have old : ∀ j k e, e = (s + j) % 6 → j < u → e ≠ (s + u) % 6 → (∀ x, x < 115 → gm 106 (115 * k + x) = hm 106 (115 * j + x)) → RTT AA H b Ls B0 (pC e gc) (pM k gm) ∧ gc 72 e ≤ gc 16 3 := fun j k e ee hj ne hk => by
    have me : e < 6 := by rw [ee]; exact Nat.mod_lt _ (by decide)
    have pj := p6 j hj
    rw [← ee] at pj
    refine ⟨rt_kept pj.1 (fun x _ _ => by rw [a2 _ (by omega) (by omega) (by omega) (by omega)]) (fun x _ => by rw [a2 _ (by omega) (by omega) (by omega) (by omega)]) (a6 e ne) (fun x x1 x2 => fc x (by omega)) (fc 14 (by decide)) (fc 15 (by decide)) (by rw [fc 16 (by decide)]) (by rw [fc 16 (by decide)]) (fun x _ => by rw [fc 17 (by decide)]) (by rw [fc 68 (by decide)]) (b3 5 (by decide)) (b3 6 (by decide)) hk (fun x _ => by rw [b2 108 (by decide) (by decide)]) (fun x _ => by rw [b2 109 (by decide) (by decide)]) (fun x _ => by rw [b2 110 (by decide) (by decide)]) (fun x x1 x2 => b2 x (by omega) (by omega)) (b2 123 (by decide) (by decide)), ?_⟩
    rw [a6 e ne, fc 16 (by decide)]
    exact pj.2
  refine ⟨gc, gm, (if u = 6 then 6 else u + 1), (if u = 6 then (s + 1) % 6 else s), a1, b1, now, ⟨?_, ?_, a7, a8, b4, fun j hj => ?_, fun i j hij hj => ?_⟩, fc, fun x hx => a2 x (by omega) (by omega) (by omega) (by omega), b2, b3⟩
  · split <;> omega
  · split <;> omega
  · by_cases c : u = 6
    · rw [if_pos c] at hj
      rw [if_pos c]
      by_cases z : j = 5
      · have e : ((s + 1) % 6 + j) % 6 = (s + u) % 6 := by omega
        rw [if_pos c] at new
        rw [e, z]
        exact new
      · exact old (j + 1) j _ (by omega) (by omega) (by omega) (fun x hx => by
          have := b5 j x (by rw [if_pos c]; omega) hx
          rw [if_pos c] at this
          exact this)
    · rw [if_neg c] at hj
      rw [if_neg c]
      by_cases z : j = u
      · rw [if_neg c] at new
        rw [z]
        exact new
      · exact old j j _ rfl (by omega) (by omega) (fun x hx => by
          have := b5 j x (by rw [if_neg c]; omega) hx
          rw [if_neg c] at this
          exact this)
  · by_cases c : u = 6
    · rw [if_pos c] at hj
      rw [if_pos c, show ((s + 1) % 6 + i) % 6 = (s + (i + 1)) % 6 by omega]
      by_cases z : j = 5
      · have e : ((s + 1) % 6 + j) % 6 = (s + u) % 6 := by omega
        rw [e, a5, a6 ((s + (i + 1)) % 6) (by omega)]
        exact (p6 (i + 1) (by omega)).2
      · rw [show ((s + 1) % 6 + j) % 6 = (s + (j + 1)) % 6 by omega, a6 ((s + (i + 1)) % 6) (by omega), a6 ((s + (j + 1)) % 6) (by omega)]
        exact p7 (i + 1) (j + 1) (by omega) (by omega)
    · rw [if_neg c] at hj
      rw [if_neg c]
      by_cases z : j = u
      · rw [z, a5, a6 ((s + i) % 6) (by omega)]
        exact (p6 i (by omega)).2
      · rw [a6 ((s + i) % 6) (by omega), a6 ((s + j) % 6) (by omega)]
        exact p7 i j hij (by omega)
end
section
/-! QUARTERS: both sides; what is kept stays kept -/
theorem rt_Bn {B : BKT} {A : Nat → Prop} {H b : Nat} {Ls : LNS} {hc hm : PH} (r : RTT A H b Ls B hc hm) : ∃ n, n ≤ 150 ∧ hc 16 3 = nI n ∧ RTT A H b Ls (n, hc 17) hc hm := by
  obtain ⟨q1, q2, ⟨n, n1, n2, n3, n4, n5, n6, n7⟩, q4, q5, q6, q7⟩ := r
  exact ⟨n, n1, n4, q1, q2, ⟨n, n1, n2, n3, n4, n5, n6, Nat.le_refl n, fun _ _ => rfl⟩, q4, q5, q6, q7⟩
/-- a deed leaves what is kept -/
theorem pk_deed {H b b' u s n : Nat} {Ls : LNS} {hc hm gc gm : PH} (pk : PK H b Ls u s hc hm) (hn : n ≤ 150) (e16 : hc 16 3 = nI n) (r : RTT AA H b' Ls (n, hc 17) gc gm) (dc : DC hc gc) (dm : DM hm gm) (hb : b ≤ b') : PK H b' Ls u s gc gm := by
  obtain ⟨p1, p2, p3, p4, p5, p6, p7⟩ := pk
  have fc : ∀ x, x ≠ 1 → x ≠ 2 → x ≠ 16 → x ≠ 17 → x < 34 ∨ 36 < x → gc x = hc x := fun x x1 x2 x3 x4 x5 => dc x x1 x2 x3 x4 (by omega) (by omega) (by omega)
  have fm : ∀ x, x ≠ 105 → x ≠ 110 → x < 124 → gm x = hm x := fun x x1 x2 x3 => dm x x1 x2 (by omega) (by omega)
  have c70 := fc 70 (by decide) (by decide) (by decide) (by decide) (by decide)
  have c72 := fc 72 (by decide) (by decide) (by decide) (by decide) (by decide)
  have m104 := fm 104 (by decide) (by decide) (by decide)
  obtain ⟨_, _, ⟨n', n1, n2, n3, n4, n5, n6, n7⟩, _, _, _, q7⟩ := r
  refine ⟨p1, p2, by rw [c70]; exact p3, by rw [c70]; exact p4, by rw [m104]; exact p5, fun j hj => ?_, fun i j hij hj => by rw [c72]; exact p7 i j hij hj⟩
  have me : (s + j) % 6 < 6 := Nat.mod_lt _ (by decide)
  have pj := p6 j hj
  generalize (s + j) % 6 = e at me pj
  obtain ⟨⟨t, lw, ⟨k, k1, k2, k3, k4, k5, k6, k7⟩, nx, re, th, ld⟩, le⟩ := pj
  have h12 := t.1
  have k4' : hc 72 e = nI k := k4
  have kn : k ≤ n := by
    rw [k4', e16] at le
    exact (nI_leI (by omega) (by omega)).mp le
  refine ⟨⟨tb_cg t (fun x _ _ => ?_) (fun x _ => ?_) ?_ (fun x _ => ?_) (fun x _ => ?_) (fun x _ => ?_), ⟨lw.1, lw.2.1, lw.2.2.1, lwc_of lw.2.2.2.1 (fun x x1 x2 => ?_), lwm_of lw.2.2.2.2 (fun x x1 x2 => ?_)⟩, ⟨k, k1, ?_, ?_, ?_, ?_, fun x hx => ?_, Nat.zero_le k, fun x hx => absurd hx (Nat.not_lt_zero x)⟩, fun x hx => ?_, ?_, ?_, ⟨fun i hi => ?_, ?_, q7.2.2⟩⟩, ?_⟩
  · rw [pC_1, pC_1, fc _ (by omega) (by omega) (by omega) (by omega) (by omega)]
  · rw [pC_2, pC_2, fc _ (by omega) (by omega) (by omega) (by omega) (by omega)]
  · rw [pM_o _ gm (by decide), pM_o _ hm (by decide), m104]
  · rw [pM_5, pM_5, fm 106 (by decide) (by decide) (by decide)]
  · rw [pM_o _ gm (by decide), pM_o _ hm (by decide), fm 108 (by decide) (by decide) (by decide)]
  · rw [pM_o _ gm (by decide), pM_o _ hm (by decide), fm 109 (by decide) (by decide) (by decide)]
  · rw [pC_o _ gc (by omega) (by omega) (by omega), pC_o _ hc (by omega) (by omega) (by omega)]
    exact fc x (by omega) (by omega) (by omega) (by omega) (by omega)
  · rw [pM_o _ gm (by omega), pM_o _ hm (by omega)]
    exact fm x (by omega) (by omega) (by omega)
  · rw [pC_6 _ gc (by decide)]; exact n2
  · rw [pC_6 _ gc (by decide)]; exact n3
  · rw [pC_3, c72]; exact k4'
  · rw [pM_5, fm 106 (by decide) (by decide) (by decide)]; exact k5
  · rw [pC_o _ gc (by decide) (by decide) (by decide), pM_o _ gm (by decide)]
    have := n7.1
    exact n6 x (by omega)
  · rw [nx_fr (g := pC e gc) (h := pC e hc) (by rw [pC_o _ gc (by decide) (by decide) (by decide), pC_o _ hc (by decide) (by decide) (by decide)]; exact fc 14 (by decide) (by decide) (by decide) (by decide) (by decide)) (by rw [pC_o _ gc (by decide) (by decide) (by decide), pC_o _ hc (by decide) (by decide) (by decide)]; exact fc 15 (by decide) (by decide) (by decide) (by decide) (by decide)), pM_o _ gm (by decide), fm 123 (by decide) (by decide) (by decide)]
    have := nx x hx
    rw [pM_o _ hm (by decide)] at this
    exact this
  · rw [pC_o _ gc (by decide) (by decide) (by decide), fc 68 (by decide) (by decide) (by decide) (by decide) (by decide)]
    rw [pC_o _ hc (by decide) (by decide) (by decide)] at re
    exact re
  · rw [pM_o _ gm (by decide), m104]
    rw [pM_o _ hm (by decide)] at th
    exact th
  · rw [pC_2, fc _ (by omega) (by omega) (by omega) (by omega) (by omega)]
    exact ld.1 i hi
  · have l := ld.2.1
    rw [lsm_of (h := pC e hc) H (fun i _ => by rw [pC_2, pC_2, fc _ (by omega) (by omega) (by omega) (by omega) (by omega)])]
    omega
  · rw [c72, k4', n4]
    have := n7.1
    exact nI_le (by omega) (by omega)
theorem pk_mono {H b b' u s : Nat} {Ls : LNS} {hc hm : PH} (pk : PK H b Ls u s hc hm) (h1 : b ≤ b') (h2 : b' < 1000000) : PK H b' Ls u s hc hm := by
  obtain ⟨p1, p2, p3, p4, p5, p6, p7⟩ := pk
  exact ⟨p1, p2, p3, p4, p5, fun j hj => ⟨rt_mono (p6 j hj).1 h1 h2, (p6 j hj).2⟩, p7⟩
/-- frames of quarters and acts -/
def DC2 (h g : PH) : Prop := ∀ x, x ≠ 1 → x ≠ 2 → x ≠ 16 → x ≠ 17 → x < 34 ∨ 36 < x → x < 70 ∨ 84 < x → g x = h x
def DM2 (h g : PH) : Prop := (∀ x, x ≠ 104 → x ≠ 105 → x ≠ 106 → x ≠ 110 → x ≠ 124 → x ≠ 125 → g x = h x) ∧ ∀ j, j ≠ 3 → g 104 j = h 104 j
theorem dc2_t {h g f : PH} (a : DC2 h g) (b : DC2 g f) : DC2 h f := fun x x1 x2 x3 x4 x5 x6 => by rw [b x x1 x2 x3 x4 x5 x6, a x x1 x2 x3 x4 x5 x6]
theorem dm2_t {h g f : PH} (a : DM2 h g) (b : DM2 g f) : DM2 h f := ⟨fun x x1 x2 x3 x4 x5 x6 => by rw [b.1 x x1 x2 x3 x4 x5 x6, a.1 x x1 x2 x3 x4 x5 x6], fun j hj => by rw [b.2 j hj, a.2 j hj]⟩
theorem dc2_d {h g : PH} (a : DC h g) : DC2 h g := fun x x1 x2 x3 x4 x5 _ => a x x1 x2 x3 x4 (by omega) (by omega) (by omega)
theorem dm2_d {h g : PH} (a : DM h g) : DM2 h g := ⟨fun x _ x2 _ x4 x5 x6 => a x x2 x4 x5 x6, fun j _ => by rw [a 104 (by decide) (by decide) (by decide) (by decide)]⟩
theorem sk_d {N : Nat} {hc hm gc gm : PH} (s : SK N hc hm) (dc : DC2 hc gc) (dm : DM2 hm gm) : SK N gc gm := sk_of s (dc 10 (by decide) (by decide) (by decide) (by decide) (by decide) (by decide)) (dc 11 (by decide) (by decide) (by decide) (by decide) (by decide) (by decide)) (dm.2 33 (by decide)) (dm.1 121 (by decide) (by decide) (by decide) (by decide) (by decide) (by decide))
theorem of_d {H N : Nat} {hc hm gc gm : PH} (s : OF H N hc hm) (dc : DC2 hc gc) (dm : DM2 hm gm) : OF H N gc gm := of_of s (dc 12 (by decide) (by decide) (by decide) (by decide) (by decide) (by decide)) (dc 13 (by decide) (by decide) (by decide) (by decide) (by decide) (by decide)) (dm.2 35 (by decide)) (dm.1 122 (by decide) (by decide) (by decide) (by decide) (by decide) (by decide))
def QA (h : PH) : Prop := ∀ c, (c = 1 ∨ c = 37 ∨ ∃ e, e < 6 ∧ c = 73 + 2 * e) → R 0 9999 (h c 6)
theorem qa_n {n : Nat} (h : n ≤ 9999) : R 0 9999 (nI n) := ⟨by rw [nI_toInt (by omega)]; omega, by rw [nI_toInt (by omega)]; omega⟩
/-- what is kept has its quarter, too -/
theorem qa_keep {H b u s : Nat} {Ls : LNS} {hc hm gc : PH} (pk : PK H b Ls u s hc hm) {p : Int32} (e : mP_keep 1 p hc = some gc) (q : QA hc) : QA gc := by
  obtain ⟨p1, p2, p3, p4, _⟩ := pk
  obtain ⟨g, a1, a2, a3, _⟩ := kp_c p1 p2 p3 p4 p
  rw [a1] at e
  cases e
  have m6 : (s + u) % 6 < 6 := Nat.mod_lt _ (by decide)
  intro c hc'
  rcases hc' with z | z | ⟨e, z1, z2⟩
  · subst z; rw [a2 1 (by decide) (by decide) (by omega) (by omega)]; exact q 1 (Or.inl rfl)
  · subst z; rw [a2 37 (by decide) (by decide) (by omega) (by omega)]; exact q 37 (Or.inr (Or.inl rfl))
  · subst z2
    by_cases y : e = (s + u) % 6
    · rw [y, a3 6 (by decide) (by decide)]; exact q 1 (Or.inl rfl)
    · rw [a2 _ (by omega) (by omega) (by omega) (by omega)]; exact q _ (Or.inr (Or.inr ⟨e, z1, rfl⟩))
theorem qa_d {hc gc : PH} (d : DC hc gc) (e : R 0 9999 (gc 1 6)) (q : QA hc) : QA gc := fun c hc' => by
  rcases hc' with z | z | ⟨e, z1, z2⟩
  · subst z; exact e
  · subst z; rw [d 37 (by decide) (by decide) (by decide) (by decide) (by decide) (by decide) (by decide)]; exact q 37 (Or.inr (Or.inl rfl))
  · rw [d c (by omega) (by omega) (by omega) (by omega) (by omega) (by omega) (by omega)]; exact q c (Or.inr (Or.inr ⟨e, z1, z2⟩))
theorem qt_loop {H N M P : Nat} {Ls : LNS} {hc hm : PH} (s0 : SK N hc hm) (o0 : OF H M hc hm) {Q : Nat} (hQ : Q + P ≤ 9999) (hP : P ≤ 60) {b : Nat} (hb : b + 16 * P < 1000000) : ∀ (n k : Nat) (v : Int32) (gc gm : PH), P < n + k → k ≤ P → RTT AA H (b + 16 * k) Ls B0 gc gm → (∃ u s, PK H (b + 16 * k) Ls u s gc gm) → QA gc → gc 1 6 = nI (Q + k) → DC2 hc gc → DM2 hm gm → ∃ v' gc' gm', mX_quarters_L31 (nI P) n v (nI k) gc = some (v', gc') ∧ mm_quarters_L36 (nI P) n v (nI k) gm = some (v', gm') ∧ RTT AA H (b + 16 * P) Ls B0 gc' gm' ∧ (∃ u s, PK H (b + 16 * P) Ls u s gc' gm') ∧ QA gc' ∧ DC2 hc gc' ∧ DM2 hm gm' := by
  intro n
  induction n with
  | zero => intro k v gc gm h1 h2; omega
  | succ n ih =>
    intro k v gc gm h1 h2 rr pk qa q6 dc dm
    by_cases c : k = P
    · subst c
      refine ⟨v, gc, gm, ?_, ?_, rr, pk, qa, dc, dm⟩
      · rw [mX_quarters_L31, if_pos (nI_le (Nat.le_refl _) (by omega))]
      · rw [mm_quarters_L36, if_pos (nI_le (Nat.le_refl _) (by omega))]
    · have hk : k < P := by omega
      obtain ⟨u, s, pk⟩ := pk
      obtain ⟨g1, m1, u', s', a1, a2, a3, a4, a5, a6, a7, a8⟩ := kp_sim rr pk
      have dc1 : DC2 gc g1 := fun x _ _ _ _ _ x6 => by
        rcases x6 with y | y
        · exact a5 x y
        · exact a6 x y
      have dm1 : DM2 gm m1 := ⟨fun x x1 _ x3 _ _ _ => a7 x x3 x1, a8⟩
      have s1 := sk_d (sk_d s0 dc dm) dc1 dm1
      have o1 := of_d (of_d o0 dc dm) dc1 dm1
      have oM := o1.1
      obtain ⟨l, l1, l2, l3⟩ := rt_Bn a3
      obtain ⟨x, g2, m2, b1, b2, b3, b4, b5, b6⟩ := ps_sim l3 s1 o1 (Q := Q + k) (by rw [a5 1 (by decide)]; exact q6) (by omega) (by omega)
      have p2 := pk_deed a4 l1 l2 b3 b4 b5 (by omega)
      obtain ⟨v', gc', gm', c1, c2, c3⟩ := ih (k + 1) (v + x) g2 m2 (by omega) (by omega) (rt_mono (rt_B0 b3) (by omega) (by omega)) ⟨u', s', pk_mono p2 (by omega) (by omega)⟩ (qa_d b4 (by rw [b6]; exact qa_n (by omega)) (qa_keep pk a1 qa)) (by rw [b6]; rfl) (dc2_t dc (dc2_t dc1 (dc2_d b4))) (dm2_t dm (dm2_t dm1 (dm2_d b5)))
      refine ⟨v', gc', gm', ?_, ?_, c3⟩
      · rw [mX_quarters_L31, if_neg (nI_ge hk (by omega)), a1, bd_e, b1, bd2_e, lt_e, nI_1, c1]
      · rw [mm_quarters_L36, if_neg (nI_ge hk (by omega)), a2, bd_e, b2, bd2_e, lt_e, nI_1, c2]
end
section
/-! UNDO: both sides -/
theorem un_26 {u : Nat} (hu : u < 6) : ∀ (n x : Nat) (gm : PH), 115 < n + x → x ≤ 115 → gm 104 3 = nI u → ∃ g, mm_undo_L26 n (nI x) gm = some (1, g) ∧ (∀ b, b ≠ 105 → g b = gm b) ∧ (∀ y, x ≤ y → y < 115 → g 105 y = gm 106 (115 * u + y)) ∧ ∀ y, y < x → g 105 y = gm 105 y := by
  intro n
  induction n with
  | zero => intro x gm h1 h2; omega
  | succ n ih =>
    intro x gm h1 h2 e3
    by_cases c : x = 115
    · subst c
      exact ⟨gm, by rw [mm_undo_L26, if_pos (by decide)], fun _ _ => rfl, fun y y1 y2 => by omega, fun _ _ => rfl⟩
    · have hx : x < 115 := by omega
      obtain ⟨g, a1, a2, a3, a4⟩ := ih (x + 1) (up gm 105 x (gm 106 (115 * u + x))) (by omega) (by omega) (by rw [up_oc (by decide)]; exact e3)
      refine ⟨g, ?_, fun b hb => by rw [a2 b hb, up_cell hb], fun y y1 y2 => ?_, fun y hy => by rw [a4 y (by omega), up_oj (by omega)]⟩
      · rw [mm_undo_L26, if_neg (show ¬ (115 : Int32) ≤ nI x from nI_ge (b := 115) hx (by decide)), e3, show (115 : Int32) * nI u = nI (115 * u) from nI_mul 115 u, nI_add, ck_nI (show 115 * u + x < 690 by omega) (by decide), ck_nI (show x < 115 by omega) (by decide), lt_e, show ix (nI (115 * u + x)) = 115 * u + x from nI_clamp (by omega), show ix (nI x) = x from nI_clamp (by omega), nI_1, a1]
      · by_cases z : y = x
        · rw [z, a4 _ (by omega), up_same]
        · rw [a3 y (by omega) y2, up_oc (by decide)]
/-- what was done is undone on both sides -/
theorem un_sim {H b u s : Nat} {Ls : LNS} {hc hm : PH} (r : RTT AA H b Ls B0 hc hm) (pk : PK H b Ls u s hc hm) : ∃ x gc gm u', mX_undo hc = some (x, gc) ∧ mm_undo hm = some (x, gm) ∧ RTT AA H b Ls B0 gc gm ∧ PK H b Ls u' s gc gm ∧ DC2 hc gc ∧ (∀ x, x ≠ 104 → x ≠ 105 → gm x = hm x) ∧ (∀ j, j ≠ 0 → j ≠ 3 → gm 104 j = hm 104 j) ∧ (QA hc → QA gc) := by
  obtain ⟨p1, p2, p3, p4, p5, p6, p7⟩ := pk
  unfold mX_undo mm_undo
  rw [lt_e, p4, show up hm 104 0 0 104 3 = nI u by rw [up_oj (by decide)]; exact p5]
  by_cases c : u = 0
  · subst c
    rw [if_pos nI_0, if_pos nI_0]
    refine ⟨0, hc, up hm 104 0 0, 0, rfl, rfl, ?_, ⟨p1, p2, p3, p4, by rw [up_oj (by decide)]; exact p5, fun j hj => absurd hj (Nat.not_lt_zero j), fun i j _ hj => absurd hj (Nat.not_lt_zero j)⟩, fun _ _ _ _ _ _ _ => rfl, fun x x1 _ => up_cell x1, fun j j0 _ => up_oj j0, fun q => q⟩
    exact rt_cg r (fun _ _ _ => rfl) (fun _ _ => rfl) (fun _ _ _ => rfl) rfl rfl rfl rfl rfl (fun _ _ => rfl) rfl (up_oj (by decide)) (up_oj (by decide)) (fun j _ => up_oc (by decide)) (fun j _ => up_oc (by decide)) (fun j _ => up_oc (by decide)) (fun j _ => up_oc (by decide)) (fun x x1 x2 => up_cell (by omega)) (up_cell (by decide))
  · obtain ⟨k, hk⟩ : ∃ k, u = k + 1 := ⟨u - 1, by omega⟩
    subst hk
    have me : (s + k) % 6 < 6 := Nat.mod_lt _ (by decide)
    have pr : nI (k + 1) - 1 = nI k := nI_pred k
    have im : imax 0 (nI k) = nI k := by
      unfold imax
      by_cases z : k = 0
      · rw [z]; rfl
      · rw [if_pos (show (0 : Int32) < nI k from nI_lt (a := 0) (by omega) (by omega))]
    have d6 : ∀ {ρ : Type} (q : Option ρ), dz 6 q = q := fun q => by unfold dz; rw [if_neg (by decide)]
    have c6 : ∀ (z : Option (Int32 × PH)), ck (nI ((s + k) % 6)) 6 z = z := fun z => ck_nI me (by decide)
    have x6 : ix (nI ((s + k) % 6)) = (s + k) % 6 := nI_clamp (by omega)
    obtain ⟨g, g1, g2, g3, g4⟩ := bc_g (a0 := 1) (a1 := 73 + 2 * ((s + k) % 6)) (by omega) (up hc 70 3 (nI k))
    have gb : mP_goBack 1 hc = some (g 72 ((s + k) % 6), g) := by
      unfold mP_goBack
      rw [p4, pr, im, lt_e, d6, lt_e, up_same, up_oj (by decide), p3, irm_6 s (by omega) k (by omega), c6, x6, g1, bd_e, c6]
    obtain ⟨m, m1, m2, m3, m4⟩ := un_26 (u := k) (by omega) FU 0 (up (up hm 104 0 0) 104 3 (nI k)) (by unfold FU; omega) (by decide) up_same
    rw [nI_0] at m1
    have fc : ∀ x, x ≠ 1 → x ≠ 2 → x ≠ 70 → g x = hc x := fun x x1 x2 x3 => by rw [g2 x x1 x2, up_cell x3]
    have e72 : g 72 ((s + k) % 6) = hc 72 ((s + k) % 6) := by rw [fc 72 (by decide) (by decide) (by decide)]
    have fm : ∀ x, x ≠ 104 → x ≠ 105 → m x = hm x := fun x x1 x2 => by rw [m2 x x2, up_cell x1, up_cell x1]
    have f104 : ∀ j, j ≠ 0 → j ≠ 3 → m 104 j = hm 104 j := fun j j0 j3 => by rw [m2 104 (by decide), up_oj j3, up_oj j0]
    have m105 : ∀ x, x < 115 → m 105 x = hm 106 (115 * k + x) := fun x hx => by rw [m3 x (by omega) hx, up_oc (by decide), up_oc (by decide)]
    rw [if_neg (nI_ne0 (by omega) (by omega)), if_neg (nI_ne0 (by omega) (by omega)), gb, bd2_e, lt_e, pr, lt_e, m1, e72]
    have hk := (p6 k (by omega)).1
    refine ⟨1, up g 16 3 (hc 72 ((s + k) % 6)), m, k, rfl, rfl, ?_, ⟨by omega, p2, ?_, ?_, ?_, fun j hj => ?_, fun i j hij hj => ?_⟩, fun x x1 x2 x3 x4 x5 x6 => ?_, fm, f104, fun q c hc' => ?_⟩
    · refine rt_cg hk (fun j j1 j2 => ?_) (fun j hj => ?_) (fun x x1 x2 => ?_) ?_ ?_ ?_ ?_ ?_ (fun j _ => ?_) ?_ ?_ ?_ (fun x hx => m105 x hx) (fun j _ => ?_) (fun j _ => ?_) (fun j _ => ?_) (fun x x1 x2 => ?_) ?_
      · rw [up_oc (by decide), g3 j j1 j2, pC_1, up_cell (by omega)]
      · rw [up_oc (by decide), g4 j hj, pC_2, up_cell (by omega), show 73 + 2 * ((s + k) % 6) + 1 = 74 + 2 * ((s + k) % 6) by omega]
      · rw [up_cell (by omega), fc x (by omega) (by omega) (by omega), pC_o _ hc (by omega) (by omega) (by omega)]
      · rw [up_cell (by decide), fc 14 (by decide) (by decide) (by decide), pC_o _ hc (by decide) (by decide) (by decide)]
      · rw [up_cell (by decide), fc 15 (by decide) (by decide) (by decide), pC_o _ hc (by decide) (by decide) (by decide)]
      · rw [up_oj (by decide), fc 16 (by decide) (by decide) (by decide), pC_6 _ hc (by decide)]
      · rw [up_oj (by decide), fc 16 (by decide) (by decide) (by decide), pC_6 _ hc (by decide)]
      · rw [up_same, pC_3]
      · rw [up_oc (by decide), fc 17 (by decide) (by decide) (by decide), pC_o _ hc (by decide) (by decide) (by decide)]
      · rw [up_oc (by decide), fc 68 (by decide) (by decide) (by decide), pC_o _ hc (by decide) (by decide) (by decide)]
      · rw [f104 5 (by decide) (by decide), pM_o _ hm (by decide)]
      · rw [f104 6 (by decide) (by decide), pM_o _ hm (by decide)]
      · rw [fm 108 (by decide) (by decide), pM_o _ hm (by decide)]
      · rw [fm 109 (by decide) (by decide), pM_o _ hm (by decide)]
      · rw [fm 110 (by decide) (by decide), pM_o _ hm (by decide)]
      · rw [fm x (by omega) (by omega), pM_o _ hm (by omega)]
      · rw [fm 123 (by decide) (by decide), pM_o _ hm (by decide)]
    · rw [up_oc (by decide), g2 70 (by decide) (by decide), up_oj (by decide)]; exact p3
    · rw [up_oc (by decide), g2 70 (by decide) (by decide), up_same]
    · rw [m2 104 (by decide), up_same]
    · have mj : (s + j) % 6 < 6 := Nat.mod_lt _ (by decide)
      refine ⟨rt_kept (p6 j (by omega)).1 (fun x _ _ => ?_) (fun x _ => ?_) ?_ (fun x x1 x2 => ?_) ?_ ?_ ?_ ?_ (fun x _ => ?_) ?_ (f104 5 (by decide) (by decide)) (f104 6 (by decide) (by decide)) (fun x _ => by rw [fm 106 (by decide) (by decide)]) (fun x _ => by rw [fm 108 (by decide) (by decide)]) (fun x _ => by rw [fm 109 (by decide) (by decide)]) (fun x _ => by rw [fm 110 (by decide) (by decide)]) (fun x x1 x2 => fm x (by omega) (by omega)) (fm 123 (by decide) (by decide)), ?_⟩
      · rw [up_oc (by omega), fc _ (by omega) (by omega) (by omega)]
      · rw [up_oc (by omega), fc _ (by omega) (by omega) (by omega)]
      · rw [up_oc (by decide), fc 72 (by decide) (by decide) (by decide)]
      · rw [up_cell (by omega), fc x (by omega) (by omega) (by omega)]
      · rw [up_cell (by decide), fc 14 (by decide) (by decide) (by decide)]
      · rw [up_cell (by decide), fc 15 (by decide) (by decide) (by decide)]
      · rw [up_oj (by decide), fc 16 (by decide) (by decide) (by decide)]
      · rw [up_oj (by decide), fc 16 (by decide) (by decide) (by decide)]
      · rw [up_oc (by decide), fc 17 (by decide) (by decide) (by decide)]
      · rw [up_oc (by decide), fc 68 (by decide) (by decide) (by decide)]
      · rw [up_oc (by decide), up_same, fc 72 (by decide) (by decide) (by decide)]
        exact p7 j k hj (by omega)
    · rw [up_oc (by decide), fc 72 (by decide) (by decide) (by decide), up_oc (by decide), fc 72 (by decide) (by decide) (by decide)]
      exact p7 i j hij (by omega)
    · rw [up_cell x3, fc x x1 x2 (by omega)]
    · rcases hc' with z | z | ⟨e, z1, z2⟩
      · subst z
        rw [up_oc (by decide), g3 6 (by decide) (by decide), up_oc (by omega)]
        exact q _ (Or.inr (Or.inr ⟨_, me, rfl⟩))
      · subst z
        rw [up_oc (by decide), fc 37 (by decide) (by decide) (by decide)]
        exact q 37 (Or.inr (Or.inl rfl))
      · subst z2
        rw [up_oc (by omega), fc _ (by omega) (by omega) (by omega)]
        exact q _ (Or.inr (Or.inr ⟨e, z1, rfl⟩))
end
section
/-! ACTS by hand: both sides -/
theorem hs_c (h : PH) (H : Nat) (e : h 1 1 = nI H) (hH : H ≤ 12) (p : Int32) : (∃ i, i < H ∧ p = nI i ∧ mB_has 1 p h = some 1) ∨ ((∀ i, i < H → p ≠ nI i) ∧ mB_has 1 p h = some 0) := by
  unfold mB_has
  rw [e]
  by_cases c : p < 0
  · rw [if_pos c]
    exact Or.inr ⟨fun i hi z => absurd (by rw [← z]; exact c) (nI_pos (n := i) (by omega)), rfl⟩
  · rw [if_neg c]
    by_cases d : nI H ≤ p
    · rw [if_pos d]
      exact Or.inr ⟨fun i hi z => absurd (by rw [z] at d; exact d) (nI_ge (a := i) (b := H) hi (by omega)), rfl⟩
    · rw [if_neg d]
      rw [Int32.lt_iff_toInt_lt] at c
      rw [Int32.le_iff_toInt_le, nI_toInt (show H < 2 ^ 31 by omega)] at d
      have z0 : (0 : Int32).toInt = 0 := rfl
      obtain ⟨k, k1, k2, ek⟩ := nat_of (a := 0) (b := 12) (x := p) ⟨by omega, by omega⟩ (by decide)
      rw [ek, nI_toInt k2] at d
      exact Or.inl ⟨k, by omega, ek, rfl⟩
theorem hs_m (h g : PH) (H : Nat) (e : h 1 1 = nI H) (e6 : g 104 6 = nI H) (p : Int32) : mm_isHouse p g = mB_has 1 p h := by
  unfold mm_isHouse mB_has
  rw [e, e6]
theorem nb_01 {x : Int32} (h : x = 0 ∨ x = 1) : nb x = x := by
  rcases h with e | e <;> rw [e] <;> rfl
theorem nb_up (h : PH) (i : Nat) : nb (upI h i) = upI h i := nb_01 (by unfold upI; split <;> simp)
/-- what may be done -/
def AK (H : Nat) (hc : PH) (p1 p2 p3 : Int32) : Prop := ∃ i, i < H ∧ p2 = nI i ∧ ((∃ w n, w < 4 ∧ p1 = nI w ∧ 1 ≤ n ∧ n < 100 ∧ p3 = nI n ∧ nI n ≤ hc 2 (11 * i + w)) ∨ (∃ w n, w < 4 ∧ p1 = nI (10 + w) ∧ n < 100 ∧ p3 = nI n) ∨ p1 = 20 ∨ (p1 = 21 ∧ ∃ k, k < H ∧ k ≠ i ∧ p3 = nI k) ∨ p1 = 22)
theorem ca_sim {A : Nat → Prop} {H : Nat} {hc hm : PH} (t : TW A H hc hm) (p1 p2 p3 : Int32) : ∃ x, mS_mayAct 68 p1 p2 p3 hc = some x ∧ mm_canAct p1 p2 p3 hm = some x ∧ (x = 0 ∨ (x = 1 ∧ AK H hc p1 p2 p3)) := by
  have h12 := t.1
  unfold mS_mayAct mm_canAct
  rw [show sT 68 = 1 from rfl, hs_m hc hm H t.2.1 t.2.2.1 p2]
  rcases hs_c hc H t.2.1 h12 p2 with ⟨i, hi, ei, hh⟩ | ⟨_, hh⟩
  · rw [hh, bd_e, bd_e, if_neg no10, if_neg no10]
    subst ei
    by_cases f : 0 ≤ p1 ∧ p1 ≤ 3
    · obtain ⟨w, w1, w2, ew⟩ := nat_of (rng_of (x := 0) (y := 3) rfl rfl f) (by decide)
      subst ew
      rw [within_y f, bd_e, if_neg no10, isIn_y f, bd_e, if_neg no10, rdB t hi (show w < 11 by omega), bd_e, wlM t hi (show w < 4 by omega), bd_e]
      obtain ⟨k, k1, k2, ek⟩ := nat_of (t.2.2.2.2.2 i w hi (by omega)) (by decide)
      by_cases g : 1 ≤ p3 ∧ p3 ≤ hc 2 (11 * i + w)
      · rw [within_y g, bd_e, isIn_y g, bd_e]
        obtain ⟨n, n1, n2, en⟩ := nat_of (rng_of (x := 1) (y := 99) rfl rfl (v := p3) (b := 99) ⟨g.1, Int32.le_trans g.2 (by rw [ek]; exact nI_le (b := 99) (by omega) (by decide))⟩) (by decide)
        subst en
        have n0 : 1 ≤ n := (nI_leI (a := 1) (by decide) (by omega)).mp g.1
        exact ⟨1, rfl, rfl, Or.inr ⟨rfl, i, hi, rfl, Or.inl ⟨w, n, by omega, rfl, n0, by omega, rfl, g.2⟩⟩⟩
      · rw [within_n g, bd_e, isIn_n g, bd_e]
        exact ⟨0, rfl, rfl, Or.inl rfl⟩
    · rw [within_n f, bd_e, if_pos rfl, isIn_n f, bd_e, if_pos rfl]
      by_cases f2 : 10 ≤ p1 ∧ p1 ≤ 13
      · rw [within_y f2, bd_e, if_neg no10, isIn_y f2, bd_e, if_neg no10]
        obtain ⟨v, v1, v2, ev⟩ := nat_of (rng_of (x := 10) (y := 13) rfl rfl f2) (by decide)
        subst ev
        have v10 : 10 ≤ v := (nI_leI (a := 10) (by decide) (by omega)).mp f2.1
        by_cases g : 1 ≤ p3 ∧ p3 ≤ 99
        · rw [within_y g, bd_e, isIn_y g, bd_e]
          obtain ⟨n, n1, n2, en⟩ := nat_of (rng_of (x := 1) (y := 99) rfl rfl g) (by decide)
          exact ⟨1, rfl, rfl, Or.inr ⟨rfl, i, hi, rfl, Or.inr (Or.inl ⟨v - 10, n, by omega, by rw [show 10 + (v - 10) = v by omega], by omega, en⟩)⟩⟩
        · rw [within_n g, bd_e, isIn_n g, bd_e]
          exact ⟨0, rfl, rfl, Or.inl rfl⟩
      · rw [within_n f2, bd_e, if_pos rfl, isIn_n f2, bd_e, if_pos rfl]
        by_cases c20 : p1 = 20
        · rw [if_pos c20, if_pos c20]
          obtain ⟨x, x1, x2, x3⟩ := cw_sim t hi
          rw [x2, bd_e, x3, bd_e, nb_01 x1]
          refine ⟨x, rfl, rfl, ?_⟩
          rcases x1 with e | e
          · exact Or.inl e
          · exact Or.inr ⟨e, i, hi, rfl, Or.inr (Or.inr (Or.inl c20))⟩
        · rw [if_neg c20, if_neg c20]
          by_cases c21 : p1 = 21
          · rw [if_pos c21, if_pos c21, show mB_read 1 (nI i) 7 hc = _ from rdB t hi (c := 7) (by decide), bd_e, show (79 : Int32) + nI i = nI (79 + i) from nI_add 79 i, ck_nI (show 79 + i < 115 by omega) (by decide), show ix (nI (79 + i)) = 79 + i from nI_clamp (by omega), (colM t hi).2.2.2.1, hs_m hc hm H t.2.1 t.2.2.1 p3]
            by_cases l : hc 2 (11 * i + 7) ≤ 0
            · rw [if_pos l, if_pos l]
              exact ⟨0, rfl, rfl, Or.inl rfl⟩
            · rw [if_neg l, if_neg l]
              rcases hs_c hc H t.2.1 h12 p3 with ⟨k, hk, ek, hh3⟩ | ⟨_, hh3⟩
              · rw [hh3, bd_e, bd_e, if_neg no10, if_neg no10]
                by_cases d : p3 = nI i
                · rw [if_pos d, if_pos d]
                  exact ⟨0, rfl, rfl, Or.inl rfl⟩
                · rw [if_neg d, if_neg d, ek, isBB t hk, bd_e, isM t hk, bd_e]
                  by_cases u : upI hc k = 0
                  · rw [if_pos u]
                    exact ⟨0, rfl, rfl, Or.inl rfl⟩
                  · rw [if_neg u]
                    exact ⟨1, rfl, rfl, Or.inr ⟨rfl, i, hi, rfl, Or.inr (Or.inr (Or.inr (Or.inl ⟨c21, k, hk, fun z => d (by rw [ek, z]), rfl⟩)))⟩⟩
              · rw [hh3, bd_e, bd_e, if_pos rfl, if_pos rfl]
                by_cases d : p3 = nI i
                · rw [if_pos d]
                  exact ⟨0, rfl, rfl, Or.inl rfl⟩
                · rw [if_neg d]
                  exact ⟨0, rfl, rfl, Or.inl rfl⟩
          · rw [if_neg c21, if_neg c21]
            by_cases c22 : p1 = 22
            · rw [if_pos c22, if_pos c22, isBB t hi, bd_e, isM t hi, bd_e, nb_up]
              by_cases u : upI hc i = 0
              · rw [if_pos u, u]
                exact ⟨0, rfl, rfl, Or.inl rfl⟩
              · rw [if_neg u, show upI hc i = 1 by unfold upI at u ⊢; split at u <;> simp_all]
                exact ⟨1, rfl, rfl, Or.inr ⟨rfl, i, hi, rfl, Or.inr (Or.inr (Or.inr (Or.inr c22)))⟩⟩
            · rw [if_neg c22, if_neg c22]
              exact ⟨0, rfl, rfl, Or.inl rfl⟩
  · rw [hh, bd_e, bd_e, if_pos rfl, if_pos rfl]
    exact ⟨0, rfl, rfl, Or.inl rfl⟩
/-- it is done -/
theorem ac_sim {B : BKT} {H b : Nat} {Ls : LNS} {hc hm : PH} (r : RTT AA H b Ls B hc hm) (hb : b + 1 < 1000000) {p1 p2 p3 : Int32} (k : AK H hc p1 p2 p3) : ∃ gc gm, mS_actByHand 68 p1 p2 p3 hc = some gc ∧ RTT AA H (b + 1) Ls B gc gm ∧ DC hc gc ∧ DM hm gm ∧ gc 1 6 = hc 1 6 ∧ (∀ J4 : Option (Int32 × PH), J4 = (jn1 (fun (h5 : PH) => bd (mm_isIn p1 10 13 h5) fun r6 => jn1 (fun (h8 : PH) => jn1 (fun (h10 : PH) => jn1 (fun (h12 : PH) => if p1 = 22 then bd (mm_isRazed p2 h12) fun h13 => some (1, h13) else some (1, h12)) fun j11 => if p1 = 21 then bd (mm_lodgersGo p2 p3 h10) fun h14 => j11 h14 else j11 h10) fun j9 => if p1 = 20 then bd (mm_isWed p2 h8) fun h15 => j9 h15 else j9 h8) fun j7 => if r6 = 0 then j7 h5 else bd (mm_wallOf p2 (p1 - 10) h5) fun r16 => bd (mm_hasWall p2 (p1 - 10) (r16 + p3) h5) fun h17 => j7 h17) fun j4 => if 4 ≤ p1 then j4 hm else bd (mm_wallOf p2 p1 hm) fun r18 => bd (mm_hasWall p2 p1 (r18 - p3) hm) fun h19 => ck 5 115 <| ck 5 115 <| lt (up h19 105 (ix 5) ((h19 105 (ix 5)) + p3)) fun h20 => bd (mm_notes 0 p2 p3 h20) fun h21 => bd (mm_areOut p2 h21) fun h22 => j4 h22) → J4 = some (1, gm)) := by
  obtain ⟨i, hi, ei, kk⟩ := k
  subst ei
  have t := r.1
  have h12 := t.1
  unfold mS_actByHand
  rcases kk with ⟨w, n, hw, e1, n1, n2, e3, le⟩ | ⟨w, n, hw, e1, n2, e3⟩ | e1 | ⟨e1, q, hq, nq, e3⟩ | e1
  · -- a nibble
    subst e1 e3
    have f : (0 : Int32) ≤ nI w ∧ nI w ≤ 3 := ⟨nI_pos' (by omega), nI_le (b := 3) (by omega) (by decide)⟩
    have f2 : ¬ ((10 : Int32) ≤ nI w ∧ nI w ≤ 13) := fun z => nI_ge (b := 10) (show w < 10 by omega) (by decide) z.1
    obtain ⟨k, k1, k2, k3, k4, k5⟩ := tn_sim t hi hw n2
    have nk : n ≤ k := by rw [k2] at le; exact (nI_leI (by omega) (by omega)).mp le
    rw [show min k n = n by omega] at k3
    have r1 := rt_wr r hi (c := w) (by omega) (by omega) (nI (k - n)) (fun _ => ⟨by rw [nI_toInt (by omega)]; omega, by rw [nI_toInt (by omega)]; omega⟩)
    have e4 : hc 1 4 = up hm (mc w) (mi i w) (nI (k - n)) 105 5 := by
      have := r1.1.2.2.2.1 4 (by decide) (by decide)
      rw [up_oc (by decide)] at this
      exact this
    have r2 : RTT AA H b Ls B (up (up hc 2 (11 * i + w) (nI (k - n))) 1 4 (hc 1 4 + nI n)) (up (up hm (mc w) (mi i w) (nI (k - n))) 105 5 (hc 1 4 + nI n)) := rt_f r1 (f := 4) (by decide) (by decide) _
    obtain ⟨g1, m1, a1, a2, a3, a4, a5⟩ := rt_note r2 0 (nI i) (nI n)
    obtain ⟨g2, m2, b1, b2, b3, b4, b5, b6, _⟩ := lv_sim a3 hi
    have c5 : ∀ (z : Option (Int32 × PH)), ck 5 115 z = z := fun z => ck_nI (i := 5) (by decide) (by decide)
    refine ⟨g2, m2, ?_, rt_mono b3 (Nat.le_succ b) hb, dc_t (fun x x1 x2 _ _ _ _ _ => by rw [up_cell x1, up_cell x2]) (dc_t (fun x _ _ x3 x4 _ _ _ => a4 x x3 x4) b4), dm_t (dm_col hm (mc105 (by omega) (by omega)) _) (dm_t (dm_up _ _ _) (dm_t a5 b5)), by rw [b6, a4 1 (by decide) (by decide), up_oj (by decide), up_oc (by decide)], fun J4 ej => ?_⟩
    · rw [within_y f, bd_e, if_neg no10]
      unfold mS_nibble
      rw [show sT 68 = 1 from rfl, k3, bd2_e, lt_e, a1, bd_e, b1, bd_e, bd_e]
    · rw [ej, jn1_e, if_neg (show ¬ (4 : Int32) ≤ nI w from nI_ge (b := 4) hw (by decide)), wlM t hi hw, bd_e, k4 _ (by rw [k2]), bd_e, c5, c5, lt_e, show ix (5 : Int32) = 5 from rfl, ← e4, a2, bd_e, b2, bd_e]
      simp only [jn1_e]
      rw [isIn_n f2, bd_e, if_pos rfl, if_neg (show ¬ nI w = (20 : Int32) from fun z => absurd ((nI_eq (b := 20) (by omega) (by decide)).mp z) (by omega)), if_neg (show ¬ nI w = (21 : Int32) from fun z => absurd ((nI_eq (b := 21) (by omega) (by decide)).mp z) (by omega)), if_neg (show ¬ nI w = (22 : Int32) from fun z => absurd ((nI_eq (b := 22) (by omega) (by decide)).mp z) (by omega))]
  · -- a wall is iced
    subst e1 e3
    have f : ¬ ((0 : Int32) ≤ nI (10 + w) ∧ nI (10 + w) ≤ 3) := fun z => nI_ge (a := 3) (show 3 < 10 + w by omega) (by omega) z.2
    have f2 : (10 : Int32) ≤ nI (10 + w) ∧ nI (10 + w) ≤ 13 := ⟨nI_le (a := 10) (by omega) (by omega), nI_le (b := 13) (by omega) (by decide)⟩
    have sb : nI (10 + w) - (10 : Int32) = nI w := by
      have := nI_sub (show 10 ≤ 10 + w by omega)
      rw [show 10 + w - 10 = w by omega] at this
      exact this
    obtain ⟨v, v1, v2, v3⟩ := tk_sim t hi hw n2
    have hv : R 0 99 v := by
      have := v3.2.2.2.2.2 i w hi hw
      rw [up_same] at this
      exact this
    refine ⟨_, _, ?_, rt_mono (rt_wr r hi (c := w) (by omega) (by omega) v (fun _ => hv)) (Nat.le_succ b) hb, fun x _ x2 _ _ _ _ _ => up_cell x2, dm_col hm (mc105 (by omega) (by omega)) v, up_oc (by decide), fun J4 ej => ?_⟩
    · rw [within_n f, bd_e, if_pos rfl, within_y f2, bd_e, if_neg no10, sb, show sT 68 = 1 from rfl, v1, bd_e]
    · rw [ej, jn1_e, if_pos (show (4 : Int32) ≤ nI (10 + w) from nI_le (a := 4) (by omega) (by omega))]
      simp only [jn1_e]
      rw [isIn_y f2, bd_e, if_neg no10, sb, wlM t hi hw, bd_e, v2 _ rfl, bd_e, if_neg (show ¬ nI (10 + w) = (20 : Int32) from fun z => absurd ((nI_eq (b := 20) (by omega) (by decide)).mp z) (by omega)), if_neg (show ¬ nI (10 + w) = (21 : Int32) from fun z => absurd ((nI_eq (b := 21) (by omega) (by decide)).mp z) (by omega)), if_neg (show ¬ nI (10 + w) = (22 : Int32) from fun z => absurd ((nI_eq (b := 22) (by omega) (by decide)).mp z) (by omega))]
  · subst e1
    obtain ⟨gc, gm, g1, g2, g3, g4, g5, g6⟩ := we_sim r hb hi
    refine ⟨gc, gm, ?_, g3, g4, g5, by rw [g6], fun J4 ej => ?_⟩
    · rw [within_n (by decide), bd_e, if_pos rfl, within_n (by decide), bd_e, if_pos rfl, if_pos rfl, g1, bd_e]
    · rw [ej, jn1_e, if_pos (by decide)]
      simp only [jn1_e]
      rw [isIn_n (show ¬ ((10 : Int32) ≤ 20 ∧ (20 : Int32) ≤ 13) by decide), bd_e, if_pos rfl]
      first | rw [if_pos (show (20 : Int32) = 20 from rfl), g2, bd_e] | rw [if_pos trivial, g2, bd_e]
      rw [if_neg (show ¬ (20 : Int32) = 21 by decide)]
      rw [if_neg (show ¬ (20 : Int32) = 22 by decide)]
  · subst e1 e3
    obtain ⟨gc, gm, g1, g2, g3, g4, g5, g6, _⟩ := mv_sim r hi (some q) (fun k ek => by cases ek; exact ⟨hq, nq⟩)
    refine ⟨gc, gm, ?_, rt_mono g3 (Nat.le_succ b) hb, g4, g5, by rw [g6], fun J4 ej => ?_⟩
    · rw [within_n (by decide), bd_e, if_pos rfl, within_n (by decide), bd_e, if_pos rfl, if_neg (by decide), if_pos rfl, show mS_moveLodgers 68 (nI i) (nI q) hc = _ from g1, bd_e]
    · rw [ej, jn1_e, if_pos (by decide)]
      simp only [jn1_e]
      rw [isIn_n (show ¬ ((10 : Int32) ≤ 21 ∧ (21 : Int32) ≤ 13) by decide), bd_e, if_pos rfl]
      rw [if_neg (show ¬ (21 : Int32) = 20 by decide)]
      first | rw [if_pos (show (21 : Int32) = 21 from rfl), show mm_lodgersGo (nI i) (nI q) hm = _ from g2, bd_e] | rw [if_pos trivial, show mm_lodgersGo (nI i) (nI q) hm = _ from g2, bd_e]
      rw [if_neg (show ¬ (21 : Int32) = 22 by decide)]
  · subst e1
    obtain ⟨gc, gm, g1, g2, g3, g4, g5, g6⟩ := rz_sim r hi
    refine ⟨gc, gm, ?_, rt_mono g3 (Nat.le_succ b) hb, g4, g5, by rw [g6], fun J4 ej => ?_⟩
    · rw [within_n (by decide), bd_e, if_pos rfl, within_n (by decide), bd_e, if_pos rfl, if_neg (by decide), if_neg (by decide), if_pos rfl, g1, bd_e]
    · rw [ej, jn1_e, if_pos (by decide)]
      simp only [jn1_e]
      rw [isIn_n (show ¬ ((10 : Int32) ≤ 22 ∧ (22 : Int32) ≤ 13) by decide), bd_e, if_pos rfl]
      rw [if_neg (show ¬ (22 : Int32) = 20 by decide)]
      rw [if_neg (show ¬ (22 : Int32) = 21 by decide)]
      first | rw [if_pos (show (22 : Int32) = 22 from rfl), g2, bd_e] | rw [if_pos trivial, g2, bd_e]
end
