/-! THE RENT is nibbled: both sides -/
theorem na_sim {B : BKT} {A : Nat → Prop} {H b : Nat} {Ls : LNS} {hc hm : PH} (r : RTT A H b Ls B hc hm) (p1 p2 p3 : Int32) : ∃ gc gm, mS_noteIfAny 68 p1 p2 p3 hc = some gc ∧ (if p3 ≤ 0 then some hm else mm_notes p1 p2 p3 hm) = some gm ∧ RTT A H b Ls B gc gm ∧ (∀ x, x ≠ 16 → x ≠ 17 → gc x = hc x) ∧ DM hm gm := by
  unfold mS_noteIfAny
  by_cases c : p3 ≤ 0
  · rw [if_pos c, if_pos c]
    exact ⟨hc, hm, rfl, rfl, r, fun _ _ _ => rfl, dm_r hm⟩
  · rw [if_neg c, if_neg c]
    obtain ⟨gc, gm, a1, a2, a3, a4, a5⟩ := rt_note r p1 p2 p3
    exact ⟨gc, gm, by rw [a1, bd_e], a2, a3, a4, a5⟩
theorem ifn {α : Type} {p : Prop} [Decidable p] {X : Option PH} {h g : PH} (e : (if p then some h else X) = some g) (K : PH → Option α) : (if p then K h else bd X fun h' => K h') = K g := by
  by_cases c : p
  · rw [if_pos c] at e ⊢
    cases e
    rfl
  · rw [if_neg c] at e ⊢
    rw [e, bd_e]
theorem i32_as (a b c : Int32) : a + (b - c) = (a + b) - c := by
  rw [Int32.sub_eq_add_neg, Int32.sub_eq_add_neg, Int32.add_assoc]
/-- what stands has a wall -/
theorem st_1 {A : Nat → Prop} {H : Nat} {hc hm : PH} (t : TW A H hc hm) {i k : Nat} (hi : i < H) (u : ¬ upI hc i = 0) (ek : hc 2 (11 * i + tkv hc i) = nI k) : k ≠ 0 := fun z => by
  subst z
  apply u
  have z0 : (0 : Int32).toInt = 0 := rfl
  have w0 : ∀ w, w < 4 → hc 2 (11 * i + w) = 0 := fun w hw => by
    have a := tk_max (h := hc) (i := i) w hw
    rw [ek, nI_0, Int32.le_iff_toInt_le] at a
    have b := (t.2.2.2.2.2 i w hi hw).1
    exact Int32.toInt_inj.mp (by omega)
  have a0 := w0 0 (by decide)
  rw [Nat.add_zero] at a0
  unfold upI sm4
  rw [a0, w0 1 (by decide), w0 2 (by decide), w0 3 (by decide)]
  rfl
/-- no wall gets thicker -/
def WD (H : Nat) (h g : PH) : Prop := (∀ k w, k < H → w < 4 → g 2 (11 * k + w) ≤ h 2 (11 * k + w)) ∧ g 1 6 = h 1 6
theorem wd_r (H : Nat) (h : PH) : WD H h h := ⟨fun _ _ _ _ => Int32.le_refl _, rfl⟩
theorem wd_t {H : Nat} {h g f : PH} (a : WD H h g) (b : WD H g f) : WD H h f := ⟨fun k w hk hw => Int32.le_trans (b.1 k w hk hw) (a.1 k w hk hw), by rw [b.2]; exact a.2⟩
theorem wd_of {H : Nat} {h g : PH} (e : g 2 = h 2) (e1 : g 1 6 = h 1 6) : WD H h g := ⟨fun k w _ _ => by rw [e]; exact Int32.le_refl _, e1⟩
theorem wd_wr {H i w k n : Nat} {h : PH} (hw : w < 4) (ek : h 2 (11 * i + w) = nI k) (hk : k < 100) : WD H h (up h 2 (11 * i + w) (nI (k - n))) := by
  refine ⟨fun k' w' hk' hw' => ?_, up_oc (by decide)⟩
  by_cases e : k' = i ∧ w' = w
  · rw [e.1, e.2, up_same, ek]
    exact nI_le (by omega) (by omega)
  · rw [up_oj (by omega)]
    exact Int32.le_refl _
theorem pr_loop {B : BKT} {H b : Nat} {Ls : LNS} {hc hm : PH} {i N : Nat} (hi : i < H) (hN : N < 100) : ∀ (n p : Nat) (gc gm : PH), N < n + p → p ≤ N → RTT AA H b Ls B gc gm → DC hc gc → DM hm gm → WD H hc gc → ∃ q gc' gm', q ≤ N ∧ (∀ k0, mS_payRent_L27 68 (nI i) (nI N) k0 n (nI p) (nI p) gc = k0 (nI q) gc') ∧ (∀ k0, mm_paysRent_L8 (nI i) (nI N) k0 n (nI p) gm = k0 (nI q) gm') ∧ RTT AA H b Ls B gc' gm' ∧ DC hc gc' ∧ DM hm gm' ∧ WD H hc gc' := by
  intro n
  induction n with
  | zero => intro p gc gm h1 h2; omega
  | succ n ih =>
    intro p gc gm h1 h2 rr dc dm wd
    have t := rr.1
    have h12 := t.1
    by_cases c : p = N
    · refine ⟨p, gc, gm, h2, fun k0 => ?_, fun k0 => ?_, rr, dc, dm, wd⟩
      · rw [mS_payRent_L27, if_pos (nI_le (by omega) (by omega))]
      · rw [mm_paysRent_L8, if_pos (nI_le (by omega) (by omega))]
    · have hp : ¬ nI N ≤ nI p := nI_ge (by omega) (by omega)
      by_cases u : upI gc i = 0
      · refine ⟨p, gc, gm, h2, fun k0 => ?_, fun k0 => ?_, rr, dc, dm, wd⟩
        · rw [mS_payRent_L27, if_neg hp, show sT 68 = 1 from rfl, isBB t hi, bd_e, if_pos u]
        · rw [mm_paysRent_L8, if_neg hp, isM t hi, bd_e, if_pos u]
      · obtain ⟨b1, b2, b3⟩ := th_at t hi
        obtain ⟨k, k1, k2, k3, k4, k5⟩ := tn_sim t hi b3 (n := 1) (by decide)
        have k0' := st_1 t hi u k2
        rw [show min k 1 = 1 by omega] at k3
        have r2 := rt_wr rr hi (c := tkv gc i) (by omega) (by omega) (nI (k - 1)) (fun _ => ⟨by rw [nI_toInt (by omega)]; omega, by rw [nI_toInt (by omega)]; omega⟩)
        have wlm := wlM t hi b3
        have hw := k4 (gc 2 (11 * i + tkv gc i) - 1) (by rw [k2]; rfl)
        obtain ⟨q, gc', gm', a0, a1, a2, a3, a4, a5, a6⟩ := ih (p + 1) _ _ (by omega) (by omega) r2 (dc_t dc (fun x _ x2 _ _ _ _ _ => up_cell x2)) (dm_t dm (dm_col gm (mc105 (by omega) (by omega)) _)) (wd_t wd (wd_wr b3 k2 (by omega)))
        refine ⟨q, gc', gm', a0, fun k0 => ?_, fun k0 => ?_, a3, a4, a5, a6⟩
        · rw [mS_payRent_L27, if_neg hp, show sT 68 = 1 from rfl, isBB t hi, bd_e, if_neg u, b1, bd_e, show mB_thin 1 (nI i) (nI (tkv gc i)) 1 gc = _ from k3, bd2_e, lt_e, show nI p + nI 1 = nI (p + 1) from nI_add p 1, nI_1, a1]
        · rw [mm_paysRent_L8, if_neg hp, isM t hi, bd_e, if_neg u, b2, bd_e, wlm, bd_e, hw, bd_e, lt_e, nI_1, a2]
/-- a house pays its rent -/
theorem pr_sim {B : BKT} {H b : Nat} {Ls : LNS} {hc hm : PH} (r : RTT AA H b Ls B hc hm) {i : Nat} (hi : i < H) : ∃ gc gm, mS_payRent 68 (nI i) hc = some gc ∧ mm_paysRent (nI i) hm = some gm ∧ RTT AA H b Ls B gc gm ∧ DC hc gc ∧ DM hm gm ∧ WD H hc gc := by
  have h12 := r.1.1
  obtain ⟨b1, b2, b3⟩ := th_at r.1 hi
  obtain ⟨v, g1, g2, v1, v2, v3, v4, v5⟩ := te_rent r.2.1 r.1 hi b3 b2
  obtain ⟨N, N1, N2, eN⟩ := nat_of v1 (by decide)
  subst eN
  have dc1 : DC hc g1 := fun x _ _ _ _ x5 x6 x7 => v4 x x5 x6 x7
  have dm1 : DM hm g2 := fun x _ _ x3 x4 => v5 x x3 x4
  obtain ⟨q, g3, g4, q0, q1, q2, q3, q4, q5, q6⟩ := pr_loop (hc := hc) (hm := hm) hi (N := N) (by omega) FU 0 g1 g2 (by unfold FU; omega) (Nat.zero_le _) (rt_law r v4 v5) dc1 dm1 (wd_of (v4 2 (by decide) (by decide) (by decide)) (by rw [v4 1 (by decide) (by decide) (by decide)]))
  rw [nI_0] at q1 q2
  -- what is eaten
  have e4 : g3 1 4 = g4 105 5 := q3.1.2.2.2.1 4 (by decide) (by decide)
  have r5 : RTT AA H b Ls B (up g3 1 4 (g3 1 4 + nI q)) (up g4 105 5 (g3 1 4 + nI q)) := rt_f q3 (f := 4) (by decide) (by decide) _
  obtain ⟨g7, g8, n1, n2, n3, n4, n5⟩ := na_sim r5 0 (nI i) (nI q)
  -- what is owed
  have c8 : g8 105 (67 + i) = g7 2 (11 * i + 8) := (colM n3.1 hi).2.2.2.2.1
  have r9 : RTT AA H b Ls B (up g7 2 (11 * i + 8) (g7 2 (11 * i + 8) + nI (N - q))) (up g8 105 (67 + i) (g7 2 (11 * i + 8) + nI (N - q))) := rt_wr n3 hi (c := 8) (by decide) (by decide) _ (fun z => by omega)
  obtain ⟨g11, g12, o1, o2, o3, o4, o5⟩ := na_sim r9 1 (nI i) (nI (N - q))
  obtain ⟨g13, g14, l1, l2, l3, l4, l5, l6, l7, _⟩ := lv_sim o3 hi
  have rd : mB_read 1 (nI i) 8 g7 = some (g7 2 (11 * i + 8)) := rdB n3.1 hi (c := 8) (by decide)
  have wr : mB_write 1 (nI i) 8 (g7 2 (11 * i + 8) + nI (N - q)) g7 = some _ := wrB n3.1 hi (c := 8) (by decide) _
  have sb : nI N - nI q = nI (N - q) := nI_sub q0
  have le : (nI N ≤ nI q) = (nI (N - q) ≤ 0) := by
    apply propext
    by_cases z : N ≤ q
    · exact ⟨fun _ => by rw [show N - q = 0 by omega]; decide, fun _ => nI_le z (by omega)⟩
    · exact ⟨fun y => absurd y (nI_ge (by omega) (by omega)), fun y => absurd y (nI_nle (by omega) (by omega))⟩
  refine ⟨g13, g14, ?_, ?_, l3, ?_, ?_, fun k w hk hw => ?_, ?_⟩
  · unfold mS_payRent
    rw [show sT 68 = 1 from rfl, b1, bd_e, show mW_tells 1 (nI i) (nI (tkv hc i)) 0 hc = _ from v2, bd2_e, q1, lt_e, n1, bd_e, lt_e, sb, rd, bd_e, wr, bd_e, o1, bd_e, l1, bd_e]
  · unfold mm_paysRent
    have c5 : ∀ (z : Option PH), ck 5 115 z = z := fun z => ck_nI (i := 5) (by decide) (by decide)
    have c67 : ∀ (z : Option PH), ck (nI (67 + i)) 115 z = z := fun z => ck_nI (by omega) (by decide)
    rw [v3, bd2_e, q2, c5, c5, lt_e, show ix (5 : Int32) = 5 from rfl, ← e4]
    refine (ifn n2 (fun (h12 : PH) => ck (67 + nI i) 115 <| ck (67 + nI i) 115 <| lt (up h12 105 (ix (67 + nI i)) (((h12 105 (ix (67 + nI i))) + nI N) - nI q)) fun h13 => jn1 (fun (h15 : PH) => bd (mm_areOut (nI i) h15) fun h16 => some h16) fun j14 => if nI N ≤ nI q then j14 h13 else bd (mm_notes 1 (nI i) (nI N - nI q) h13) fun h17 => j14 h17)).trans ?_
    try dsimp only
    rw [show (67 : Int32) + nI i = nI (67 + i) from nI_add 67 i, c67, c67, lt_e, show ix (nI (67 + i)) = 67 + i from nI_clamp (by omega), c8, ← i32_as, sb, jn1_e]
    try dsimp only
    by_cases z : nI N ≤ nI q
    · have z' := z
      rw [le] at z'
      rw [if_pos z'] at o2
      rw [if_pos z, Option.some.inj o2, l2, bd_e]
    · have z' := z
      rw [le] at z'
      rw [if_neg z'] at o2
      rw [if_neg z, o2, bd_e, l2, bd_e]
  · exact dc_t q4 (dc_t (fun x x1 _ _ _ _ _ _ => up_cell x1) (dc_t (fun x _ _ x3 x4 _ _ _ => n4 x x3 x4) (dc_t (fun x _ x2 _ _ _ _ _ => up_cell x2) (dc_t (fun x _ _ x3 x4 _ _ _ => o4 x x3 x4) l4))))
  · exact dm_t q5 (dm_t (dm_up g4 _ _) (dm_t n5 (dm_t (dm_up g8 _ _) (dm_t o5 l5))))
  · rw [l7 w (by omega) k hk (by omega), o4 2 (by decide) (by decide), up_oj (by omega), n4 2 (by decide) (by decide), up_cell (by decide)]
    exact q6.1 k w hk hw
  · rw [l6, o4 1 (by decide) (by decide), up_oc (by decide), n4 1 (by decide) (by decide), up_oj (by decide)]
    exact q6.2
