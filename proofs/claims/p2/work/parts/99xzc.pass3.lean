/-! A QUARTER goes by: both sides -/
theorem zN_eq {p q : Nat → Bool} : ∀ k, (∀ i, i < k → p i = q i) → zN p k = zN q k := by
  intro k
  induction k with
  | zero => intro _; rfl
  | succ k ih => intro e; rw [zN, zN, ih (fun i hi => e i (by omega)), e k (by omega)]
theorem st_0 {A : Nat → Prop} {H : Nat} {hc hm : PH} (t : TW A H hc hm) {i : Nat} (hi : i < H) : upI hc i = 0 ↔ ∀ w, w < 4 → hc 2 (11 * i + w) = 0 := by
  obtain ⟨a, a1, a2, ea⟩ := nat_of (t.2.2.2.2.2 i 0 hi (by decide)) (by decide)
  obtain ⟨b, b1, b2, eb⟩ := nat_of (t.2.2.2.2.2 i 1 hi (by decide)) (by decide)
  obtain ⟨c, c1, c2, ec⟩ := nat_of (t.2.2.2.2.2 i 2 hi (by decide)) (by decide)
  obtain ⟨d, d1, d2, ed⟩ := nat_of (t.2.2.2.2.2 i 3 hi (by decide)) (by decide)
  have ea' := ea
  rw [Nat.add_zero] at ea'
  have es : sm4 hc i = nI (a + b + c + d) := by
    unfold sm4
    rw [ea', eb, ec, ed, nI_add, nI_add, nI_add]
  unfold upI
  rw [es]
  constructor
  · intro z
    by_cases y : a + b + c + d = 0
    · intro w hw
      have : w = 0 ∨ w = 1 ∨ w = 2 ∨ w = 3 := by omega
      rcases this with e | e | e | e <;> subst e
      · rw [ea, show a = 0 by omega]; rfl
      · rw [eb, show b = 0 by omega]; rfl
      · rw [ec, show c = 0 by omega]; rfl
      · rw [ed, show d = 0 by omega]; rfl
    · rw [if_neg (nI_nle (by omega) (by omega))] at z
      exact absurd z (by decide)
  · intro z
    have z0 := z 0 (by decide)
    have z1 := z 1 (by decide)
    have z2 := z 2 (by decide)
    have z3 := z 3 (by decide)
    rw [ea, ← nI_0, nI_eq (by omega) (by decide)] at z0
    rw [eb, ← nI_0, nI_eq (by omega) (by decide)] at z1
    rw [ec, ← nI_0, nI_eq (by omega) (by decide)] at z2
    rw [ed, ← nI_0, nI_eq (by omega) (by decide)] at z3
    rw [z0, z1, z2, z3]
    rfl
theorem up_mono {A B : Nat → Prop} {H : Nat} {hc hm gc gm : PH} (t : TW A H hc hm) (t' : TW B H gc gm) (wd : WD H hc gc) {i : Nat} (hi : i < H) (u : upb gc i = true) : upb hc i = true := by
  unfold upb at u ⊢
  by_cases z : upI hc i = 0
  · exfalso
    have w0 := (st_0 t hi).mp z
    have : upI gc i = 0 := (st_0 t' hi).mpr (fun w hw => by
      have a := wd.1 i w hi hw
      rw [w0 w hw, Int32.le_iff_toInt_le] at a
      have b := (t'.2.2.2.2.2 i w hi hw).1
      have z0 : (0 : Int32).toInt = 0 := rfl
      exact Int32.toInt_inj.mp (by omega))
    rw [decide_eq_true this] at u
    exact absurd u (by decide)
  · rw [decide_eq_false z]
    rfl
theorem ps_sim {B : BKT} {H b N M : Nat} {Ls : LNS} {hc hm : PH} (r : RTT AA H b Ls B hc hm) (s : SK N hc hm) (o : OF H M hc hm) {Q : Nat} (q : hc 1 6 = nI Q) (hQ : Q < 9999) (hb : b + M < 1000000) : ∃ x gc gm, mS_pass 68 hc = some (x, gc) ∧ mm_goesBy hm = some (x, gm) ∧ RTT AA H (b + M) Ls B gc gm ∧ DC hc gc ∧ DM hm gm ∧ gc 1 6 = nI (Q + 1) := by
  have h12 := r.1.1
  have oM := o.1
  obtain ⟨g1, m1, w1, w2, w3, w4, w5, w6⟩ := wt_sim s r
  have o1 : OF H M g1 m1 := of_of o (w4 12 (by decide)) (w4 13 (by decide)) (by rw [w5 104 (by decide) (by decide) (by decide) (by decide)]) (w5 122 (by decide) (by decide) (by decide) (by decide))
  obtain ⟨g2, m2, b1, b2, b3, b4, b5, b6⟩ := ol_loop (hc := g1) (hm := m1) (b := b) o1 hb FU FU 0 g1 m1 (by unfold FU; omega) (by unfold FU; omega) (Nat.zero_le _) w3 (dc_r g1) (dm_r m1) rfl
  have k1 := cu_n b3.1
  have k2 := (us_n b3.1).2
  obtain ⟨g3, m3, c1, c2, c3, c4, c5, c6⟩ := rl_loop2 (hc := g2) (hm := m2) (nI (zct (upb g2) H)) (nI (zN (upb g2) H)) FU 0 g2 m2 (by unfold FU; omega) (Nat.zero_le _) b3 (dc_r g2) (dm_r m2) (wd_r H g2)
  obtain ⟨g4, m4, d1, d2, d3, d4, d5, d6⟩ := gl_loop2 (hc := g3) (hm := m3) (nI (zct (upb g2) H)) (nI (zN (upb g2) H)) FU 0 g3 m3 (by unfold FU; omega) (Nat.zero_le _) c3 (dc_r g3) (dm_r m3) (wd_r H g3)
  obtain ⟨g5, m5, e1, e2, e3, e4, e5, e6⟩ := ml_loop2 (hc := g4) (hm := m4) (nI (zct (upb g2) H)) (nI (zN (upb g2) H)) FU 0 g4 m4 (by unfold FU; omega) (Nat.zero_le _) d3 (dc_r g4) (dm_r m4) (wd_r H g4)
  have k3 := cu_n e3.1
  obtain ⟨g6, m6, f1, f2, f3, f4, f5, f6⟩ := hd_loop2 (hc := g5) (hm := m5) (nI (zN (upb g2) H)) FU FU 0 g5 m5 (by unfold FU; omega) (by unfold FU; omega) (Nat.zero_le _) e3 (fun _ _ => rfl) (fun _ _ _ _ _ => rfl) (dm_r m5)
  obtain ⟨g7, m7, h1, h2, h3, h4, h5, h6, h7, h8⟩ := la_loop (hc := g6) (hm := m6) (nI (zct (upb g2) H) - nI (zct (upb g5) H)) (nI (zN (upb g2) H)) FU 0 g6 m6 (by unfold FU; omega) (Nat.zero_le _) (rt_age (A' := fun i => 0 ≤ i) f3 (fun i hi _ => ((colM f3.1 hi).2.2.2.2.2.2 trivial).symm)) (dc_r g6) (dm_r m6) rfl (fun _ _ _ _ _ => rfl) (fun i hi => absurd hi (Nat.not_lt_zero i))
  obtain ⟨g8, i1, i2, i3, i4⟩ := gw_loop (hc := g7) (gm := m7) FU 0 g7 (by unfold FU; omega) (Nat.zero_le _) (rt_age (A' := fun i => i < 0) h3 (fun i _ ha => absurd ha (Nat.not_lt_zero i))) (fun _ _ => rfl) (fun _ _ _ _ => rfl) (fun i _ hi => h8 i hi)
  have r8 : RTT AA H (b + M) Ls B g8 m7 := rt_age i2 (fun i hi _ => ((colM i2.1 hi).2.2.2.2.2.2 hi).symm)
  have q8 : g8 1 6 = nI Q := by rw [i3 1 (by decide), h6, f4 1 (by decide), e6.2, d6.2, c6.2, b6, w6]; exact q
  have q7 : m7 105 0 = nI Q := by rw [← q8]; exact (r8.1.2.2.2.1 6 (by decide) (by decide)).symm
  have im : imin 9999 (nI Q + 1) = nI (Q + 1) := by
    rw [nI_1]
    unfold imin
    by_cases z : Q + 1 = 9999
    · rw [z]; rfl
    · rw [if_pos (show nI (Q + 1) < (9999 : Int32) from nI_lt (b := 9999) (by omega) (by decide))]
  have r9 : RTT AA H (b + M) Ls B (up g8 1 6 (nI (Q + 1))) (up m7 105 0 (nI (Q + 1))) := rt_f r8 (f := 6) (by decide) (by decide) _
  have k4 := (us_n r9.1).2
  have eu : zN (upb (up g8 1 6 (nI (Q + 1)))) H = zN (upb g5) H := zN_eq H (fun i hi => by
    have e : ∀ w, w < 4 → up g8 1 6 (nI (Q + 1)) 2 (11 * i + w) = g5 2 (11 * i + w) := fun w hw => by
      rw [up_oc (by decide), i4 i w hi (by omega), h7 i w hi (by omega) (by omega), f5 i w hi (by omega) (by omega)]
    unfold upb
    rw [upi_fr e])
  rw [eu] at k4
  have k5 := fell_e (p := upb g2) (q := upb g5) h12 (fun i hi u => up_mono b3.1 e3.1 (wd_t c6 (wd_t d6 e6)) hi u) (up m7 105 0 (nI (Q + 1)))
  have c0 : ∀ (z : Option (Int32 × PH)), ck 0 115 z = z := fun z => ck_nI (i := 0) (by decide) (by decide)
  rw [nI_0] at b1 b2 c1 c2 d1 d2 e1 e2 f1 f2 h1 h2 i1
  have gw : mS_grow 68 g7 = some (up g8 1 6 (nI (Q + 1))) := by
    unfold mS_grow
    rw [i1, show sT 68 = 1 from rfl, lt_e, q8, im]
  have hd : mS_harden 68 g5 = some g6 := f1
  refine ⟨nI (zct (upb g2) H) - nI (zct (upb g5) H), _, _, ?_, ?_, r9, ?_, ?_, up_same⟩
  · unfold mS_pass
    rw [w1, bd_e, b1, show sT 68 = 1 from rfl, k1, bd_e, c1, d1, e1, k3, bd_e, lt_e, hd, bd_e, h1, gw, bd_e]
  · unfold mm_goesBy
    rw [w2, bd_e, show mm_goesBy_L6 _ FU 0 m1 = _ from b2 _, k2, bd_e, c2, d2, e2, f2, h2, c0, c0, lt_e, show ix (0 : Int32) = 0 from rfl, q7, nI_1, k4, bd_e, k5, bd_e]
  · have dcw : DC hc g1 := fun x x1 _ _ _ _ _ _ => w4 x x1
    have dcf : DC g5 g6 := fun x _ x2 _ _ _ _ _ => f4 x x2
    have dci : DC g7 g8 := fun x _ x2 _ _ _ _ _ => i3 x x2
    exact dc_t dcw (dc_t b4 (dc_t c4 (dc_t d4 (dc_t e4 (dc_t dcf (dc_t h4 (dc_t dci (fun x x1 _ _ _ _ _ _ => up_cell x1))))))))
  · exact dm_t w5 (dm_t b5 (dm_t c5 (dm_t d5 (dm_t e5 (dm_t f6 (dm_t h5 (dm_up m7 _ _)))))))
