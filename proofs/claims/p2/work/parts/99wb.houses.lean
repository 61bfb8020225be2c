/-! THE COUNT OF HOUSES on both sides: now, in the past, in the image. Printed by wip/gen/prh.py -/
def PH6 (h : PH) : Prop := ∀ j : Nat, (j : Int) < (h 70 3).toInt → h (73 + 2 * (((h 70 2).toNatClampNeg + j) % 6)) 1 = h 1 1
def RLH (h : PH) : Prop := h 1 1 = h 104 6 ∧ PH6 h ∧ (¬ h 104 72 = 0 → h 37 1 = h 148 115)
theorem ph6_fr {h g : PH} (e1 : g 1 1 = h 1 1) (e70 : g 70 = h 70) (eb : ∀ k, k < 6 → g (73 + 2 * k) 1 = h (73 + 2 * k) 1) (p : PH6 h) : PH6 g := fun j hj => by
  rw [e70] at hj ⊢
  rw [eb _ (Nat.mod_lt _ (by decide)), e1]
  exact p j hj
theorem ph6_0 {h : PH} (e : h 70 3 = 0) : PH6 h := fun j hj => by
  rw [e] at hj
  simp only [show (0 : Int32).toInt = 0 from rfl] at hj
  omega
theorem rlh_fr {h g : PH} (ec : ∀ b, b = 1 ∨ b = 37 ∨ b = 70 ∨ (73 ≤ b ∧ b ≤ 83) → g b = h b) (e6 : g 104 6 = h 104 6) (e72 : g 104 72 = h 104 72) (e148 : g 148 = h 148) (r : RLH h) : RLH g := by
  obtain ⟨r1, r2, r3⟩ := r
  refine ⟨by rw [ec 1 (by omega), e6]; exact r1, ph6_fr (by rw [ec 1 (by omega)]) (ec 70 (by omega)) (fun k hk => by rw [ec (73 + 2 * k) (by omega)]) r2, fun q => ?_⟩
  rw [e72] at q
  rw [ec 37 (by omega), e148]
  exact r3 q
theorem rlh_cs {S T : List Nat} {h h1 h2 : PH} (f1 : Fr S h1 h) (f2 : Fk T h2 h1) (s1 : ∀ b, b ∈ S → ¬ (b = 1 ∨ b = 37 ∨ b = 70 ∨ (73 ≤ b ∧ b ≤ 83))) (s2 : 1006 ∉ T ∧ 1072 ∉ T ∧ 148 ∉ T) (s3 : ∀ b, b ∈ S → b < 104) (s4 : ∀ b, b ∈ T → 104 ≤ b) (r : RLH h) : RLH h2 := by
  have kn : ∀ b j, b ≠ 104 → kk b j = b := fun b j hb => by unfold kk; rw [if_neg hb]
  have a104 : h1 104 = h 104 := f1 104 (fun q => by have := s3 104 q; omega)
  have a148 : h1 148 = h 148 := f1 148 (fun q => by have := s3 148 q; omega)
  refine rlh_fr (fun b hb => ?_) ?_ ?_ ?_ r
  · rw [← f1 b (fun q => s1 b q hb)]
    funext j
    exact f2 b j (by rw [kn b j (by omega)]; intro q; have := s4 b q; omega)
  · rw [← a104]; exact f2 104 6 s2.1
  · rw [← a104]; exact f2 104 72 s2.2.1
  · rw [← a148]
    funext j
    exact f2 148 j (by rw [kn 148 j (by decide)]; exact s2.2.2)
/-- the model's side keeps its count, its flag and the image -/
theorem rlh_m {T : List Nat} {h h1 h2 : PH} (cs : CS h h1 h2) (f2 : Fk T h2 h1) (s2 : 1006 ∉ T ∧ 1072 ∉ T ∧ 148 ∉ T) (r : RLH h) (e1 : h1 1 1 = h 1 1) (p : PH6 h1) (e37 : h1 37 1 = h 37 1) : RLH h2 := by
  have kn : ∀ b j, b ≠ 104 → kk b j = b := fun b j hb => by unfold kk; rw [if_neg hb]
  have x := cs.2.2.2.1
  have s := cs.2.2.2.2
  have m6 : h2 104 6 = h 104 6 := by rw [← x 104 (by decide)]; exact f2 104 6 s2.1
  have m72 : h2 104 72 = h 104 72 := by rw [← x 104 (by decide)]; exact f2 104 72 s2.2.1
  have m148 : h2 148 = h 148 := by
    rw [← x 148 (by decide)]
    funext j
    exact f2 148 j (by rw [kn 148 j (by decide)]; exact s2.2.2)
  refine ⟨by rw [s 1 (by decide), e1, m6]; exact r.1, ph6_fr (by rw [s 1 (by decide)]) (s 70 (by decide)) (fun k hk => by rw [s (73 + 2 * k) (by omega)]) p, fun q => ?_⟩
  rw [m72] at q
  rw [s 37 (by decide), e37, m148]
  exact r.2.2 q
theorem rlh_first : RLH hI := ⟨rfl, ph6_0 rfl, fun q => absurd rfl q⟩
theorem bc_at (a0 a1 : Nat) (n0 : a1 ≠ a0) (n1 : a1 ≠ a0 + 1) (h : PH) : ∃ g, mB_copyFrom a0 a1 h = some g ∧ (∀ c, c ≠ a0 → c ≠ a0 + 1 → g c = h c) ∧ g a0 1 = h a1 1 := by
  unfold mB_copyFrom
  have hcc : ∀ {ρ : Type} (k : Option ρ), cc 132 132 0 0 132 k = k := fun k => if_neg (by decide)
  rw [hcc, lt_e, lt_e, lt_e, lt_e, lt_e, lt_e, lt_e, lt_e, show ix (0 : Int32) = 0 from rfl, show ix (132 : Int32) = 132 from rfl]
  refine ⟨_, rfl, fun c h1 h2 => ?_, ?_⟩
  · funext j
    rw [up_oc h1, up_oc h1, up_oc h1, up_oc h1, up_oc h1, up_oc h1, up_oc h1, cpy_at, if_neg h2]
  · rw [up_oj (by decide), up_oj (by decide), up_oj (by decide), up_oj (by decide), up_oj (by decide), up_oj (by decide), up_same, cpy_at, if_neg n1]
theorem i6a : ∀ f, f < 6 → ∀ m, m < 7 → irm (nI f + nI m) 6 = nI ((f + m) % 6) := by decide +kernel
theorem i6b : ∀ f, f < 6 → irm (nI f + 1) 6 = nI ((f + 1) % 6) := by decide +kernel
theorem keep_h (p : Int32) (h : PH) (i : Inv h) (r : PH6 h) {g : PH} (e : mP_keep 1 p h = some g) : PH6 g ∧ g 1 = h 1 ∧ g 37 = h 37 := by
  obtain ⟨a, a1, a2, ea⟩ := nat_of (show R 0 5 (h 70 2) from inv_rng i rfl) (by decide)
  obtain ⟨m, m1, m2, em⟩ := nat_of (show R 0 6 (h 70 3) from inv_rng i rfl) (by decide)
  have lt6 : (a + m) % 6 < 6 := Nat.mod_lt _ (by decide)
  have z6 : ∀ {ρ : Type} (k : Option ρ), dz 6 k = k := fun k => dz_nz (by decide)
  have cki : ∀ {ρ : Type} (q : Option ρ), ck (nI ((a + m) % 6)) 6 q = q := fun q => ck_nI lt6 (by decide)
  have ixi : ix (nI ((a + m) % 6)) = (a + m) % 6 := nI_clamp (by omega)
  obtain ⟨g1, q1, q2, q3⟩ := bc_at (73 + 2 * ((a + m) % 6)) 1 (by omega) (by omega) h
  unfold mP_keep at e
  rw [z6, lt_e, ea, em, i6a a (by omega) m (by omega), cki, ixi, q1, bd_e, cki, lt_e] at e
  have k70 : up g1 72 ((a + m) % 6) p 70 = h 70 := by rw [up_cell (by decide), q2 70 (by omega) (by omega)]
  have k1 : up g1 72 ((a + m) % 6) p 1 = h 1 := by rw [up_cell (by decide), q2 1 (by omega) (by omega)]
  have k37 : up g1 72 ((a + m) % 6) p 37 = h 37 := by rw [up_cell (by decide), q2 37 (by omega) (by omega)]
  have kb : ∀ k, k < 6 → up g1 72 ((a + m) % 6) p (73 + 2 * k) 1 = if k = (a + m) % 6 then h 1 1 else h (73 + 2 * k) 1 := fun k hk => by
    rw [up_oc (by omega)]
    by_cases c : k = (a + m) % 6
    · rw [if_pos c, c, q3]
    · rw [if_neg c, q2 _ (by omega) (by omega)]
  generalize up g1 72 ((a + m) % 6) p = g4 at e k70 k1 k37 kb
  have r' : ∀ j, j < m → h (73 + 2 * ((a + j) % 6)) 1 = h 1 1 := fun j hj => by
    have := r j (by rw [em, nI_toInt m2]; omega)
    rw [ea, show (nI a).toNatClampNeg = a from nI_clamp a2] at this
    exact this
  rw [k70, em] at e
  by_cases c : 6 ≤ m
  · have m6 : m = 6 := by omega
    subst m6
    rw [if_pos (by decide), z6, lt_e, ea, i6b a (by omega)] at e
    cases e
    refine ⟨fun j hj => ?_, by rw [up_cell (by decide)]; exact k1, by rw [up_cell (by decide)]; exact k37⟩
    rw [up_oj (by decide), k70, em, nI_toInt (by decide)] at hj
    rw [up_same, show (nI ((a + 1) % 6)).toNatClampNeg = (a + 1) % 6 from nI_clamp (by omega), up_oc (by omega), up_oc (by decide), k1, kb _ (Nat.mod_lt _ (by decide))]
    by_cases c2 : ((a + 1) % 6 + j) % 6 = (a + 6) % 6
    · rw [if_pos c2]
    · rw [if_neg c2, show ((a + 1) % 6 + j) % 6 = (a + (j + 1)) % 6 by omega]
      exact r' (j + 1) (by omega)
  · rw [if_neg (by rw [Int32.le_iff_toInt_le, nI_toInt m2]; simp only [show (6 : Int32).toInt = 6 from rfl]; omega), lt_e, nI_1] at e
    cases e
    refine ⟨fun j hj => ?_, by rw [up_cell (by decide)]; exact k1, by rw [up_cell (by decide)]; exact k37⟩
    rw [up_same, nI_toInt (by omega)] at hj
    rw [up_oj (by decide), k70, ea, show (nI a).toNatClampNeg = a from nI_clamp a2, up_oc (by omega), up_oc (by decide), k1, kb _ (Nat.mod_lt _ (by decide))]
    by_cases c2 : (a + j) % 6 = (a + m) % 6
    · rw [if_pos c2]
    · rw [if_neg c2]
      exact r' j (by omega)
theorem fh_bor {S : List Nat} {h g : PH} (f : Fh S g h) (hS : ∀ b, b ∈ S → ¬ (b = 1 ∨ b = 37 ∨ (73 ≤ b ∧ b ≤ 83 ∧ b % 2 = 1))) : g 1 1 = h 1 1 ∧ g 37 1 = h 37 1 ∧ ∀ k, k < 6 → g (73 + 2 * k) 1 = h (73 + 2 * k) 1 := ⟨f 1 (fun q => hS 1 q (by omega)), f 37 (fun q => hS 37 q (by omega)), fun k hk => f _ (fun q => hS _ q (by omega))⟩
theorem rh_act (a1 a2 a3 : Int32) (h : PH) (i : IM h) (r : RLH h) {rX rm : Int32} {h1 h2 : PH} (e1 : mX_act a1 a2 a3 h = some (rX, h1)) (e2 : mm_act a1 a2 a3 h1 = some (rm, h2)) (cs : CS h h1 h2) : RLH h2 := by
  have key : h1 1 1 = h 1 1 ∧ PH6 h1 ∧ h1 37 1 = h 37 1 := by
    unfold mX_act at e1
    obtain ⟨r1, -, e1⟩ := bd_s e1
    rcases ite_or e1 with ⟨-, e1⟩ | ⟨-, e1⟩
    · cases e1
      exact ⟨rfl, r.2.1, rfl⟩
    · obtain ⟨g2, k2, e1⟩ := bd_s e1
      obtain ⟨g3, k3, e1⟩ := bd_s e1
      cases e1
      obtain ⟨p6, q1, q37⟩ := keep_h _ h i.1 r.2.1 k2
      obtain ⟨w1, w37, wb⟩ := fh_bor (fhS_actByHand 68 a1 a2 a3 g2 k3) (show ∀ b, b ∈ FHdS_actByHand 68 a1 a2 a3 → _ from (by decide : ∀ b, b ∈ FHdS_actByHand 68 0 0 0 → ¬ (b = 1 ∨ b = 37 ∨ (73 ≤ b ∧ b ≤ 83 ∧ b % 2 = 1))))
      have w70 : h1 70 = g2 70 := fpS_actByHand 68 a1 a2 a3 g2 k3 70 (show 70 ∉ FPdS_actByHand 68 a1 a2 a3 from (by decide : 70 ∉ FPdS_actByHand 68 0 0 0))
      exact ⟨by rw [w1, q1], ph6_fr w1 w70 wb p6, by rw [w37, q37]⟩
  exact rlh_m cs (fkm_act a1 a2 a3 h1 e2) (show 1006 ∉ FKdm_act a1 a2 a3 ∧ 1072 ∉ FKdm_act a1 a2 a3 ∧ 148 ∉ FKdm_act a1 a2 a3 from (by decide : 1006 ∉ FKdm_act 0 0 0 ∧ 1072 ∉ FKdm_act 0 0 0 ∧ 148 ∉ FKdm_act 0 0 0)) r key.1 key.2.1 key.2.2
theorem rh_q31 (p1 : Int32) : ∀ (n : Nat) (v2 v3 : Int32) (h : PH) {r : Int32 × PH}, Inv h → PH6 h → mX_quarters_L31 p1 n v2 v3 h = some r → r.2 1 1 = h 1 1 ∧ PH6 r.2 ∧ r.2 37 1 = h 37 1 := by
  intro n
  induction n with
  | zero => intro v2 v3 h r _ _ e; cases e
  | succ n ih =>
    intro v2 v3 h r i p e
    rw [mX_quarters_L31] at e
    rcases ite_or e with ⟨-, e⟩ | ⟨-, e⟩
    · cases e
      exact ⟨rfl, p, rfl⟩
    · obtain ⟨g2, k2, e⟩ := bd_s e
      obtain ⟨r3, g4, k4, e⟩ := bd2_s e
      obtain ⟨x5, -, e⟩ := lt_some e
      obtain ⟨p6, q1, q37⟩ := keep_h _ h i p k2
      have i2 : Inv g2 := by
        obtain ⟨g, eg, ig⟩ := sf_P_keep 1 (h 16 3) (show R 0 150 (h 16 3) from inv_rng i rfl) ⟨rfl, rfl⟩ i
        rw [k2] at eg
        cases eg
        exact ig
      have i4 : Inv g4 := by
        obtain ⟨g, eg, ig⟩ := sf_S_pass 68 ⟨rfl, rfl⟩ i2
        rw [k4] at eg
        cases eg
        exact ig.2
      obtain ⟨w1, w37, wb⟩ := fh_bor (fhS_pass 68 g2 k4) (show ∀ b, b ∈ FHdS_pass 68 → ¬ (b = 1 ∨ b = 37 ∨ (73 ≤ b ∧ b ≤ 83 ∧ b % 2 = 1)) from by decide)
      have w70 : g4 70 = g2 70 := fpS_pass 68 g2 k4 70 (show 70 ∉ FPdS_pass 68 from by decide)
      have w1 : g4 1 1 = g2 1 1 := w1
      have w37 : g4 37 1 = g2 37 1 := w37
      obtain ⟨z1, z2, z3⟩ := ih x5 (v3 + 1) g4 i4 (ph6_fr w1 w70 wb p6) e
      exact ⟨by rw [z1, w1, q1], z2, by rw [z3, w37, q37]⟩
theorem rh_quarters (a1 : Int32) (h : PH) (i : IM h) (r : RLH h) {rX rm : Int32} {h1 h2 : PH} (e1 : mX_quarters a1 h = some (rX, h1)) (e2 : mm_quarters a1 h1 = some (rm, h2)) (cs : CS h h1 h2) : RLH h2 := by
  have key : h1 1 1 = h 1 1 ∧ PH6 h1 ∧ h1 37 1 = h 37 1 := by
    unfold mX_quarters at e1
    obtain ⟨r1, -, e1⟩ := bd_s e1
    rcases ite_or e1 with ⟨-, e1⟩ | ⟨-, e1⟩
    · cases e1
      exact ⟨rfl, r.2.1, rfl⟩
    · rcases ite_or e1 with ⟨-, e1⟩ | ⟨-, e1⟩
      · exact rh_q31 a1 FU 0 0 h i.1 r.2.1 e1
      · cases e1
        exact ⟨rfl, r.2.1, rfl⟩
  exact rlh_m cs (fkm_quarters a1 h1 e2) (show 1006 ∉ FKdm_quarters a1 ∧ 1072 ∉ FKdm_quarters a1 ∧ 148 ∉ FKdm_quarters a1 from (by decide : 1006 ∉ FKdm_quarters 0 ∧ 1072 ∉ FKdm_quarters 0 ∧ 148 ∉ FKdm_quarters 0)) r key.1 key.2.1 key.2.2
theorem rh_undo (h : PH) (i : IM h) (r : RLH h) {rX rm : Int32} {h1 h2 : PH} (e1 : mX_undo h = some (rX, h1)) (e2 : mm_undo h1 = some (rm, h2)) (cs : CS h h1 h2) : RLH h2 := by
  have key : h1 1 1 = h 1 1 ∧ PH6 h1 ∧ h1 37 1 = h 37 1 := by
    unfold mX_undo at e1
    rcases ite_or e1 with ⟨-, e1⟩ | ⟨nz, e1⟩
    · cases e1
      exact ⟨rfl, r.2.1, rfl⟩
    · obtain ⟨a, a1, a2, ea⟩ := nat_of (show R 0 5 (h 70 2) from inv_rng i.1 rfl) (by decide)
      obtain ⟨m, m1, m2, em⟩ := nat_of (show R 0 6 (h 70 3) from inv_rng i.1 rfl) (by decide)
      have m0 : m ≠ 0 := fun q => nz (by rw [em, q]; rfl)
      obtain ⟨m', rfl⟩ : ∃ m', m = m' + 1 := ⟨m - 1, by omega⟩
      obtain ⟨r1, g2, k2, e1⟩ := bd2_s e1
      obtain ⟨g3, k3, e1⟩ := lt_some e1
      cases e1
      unfold mP_goBack at k2
      have z6 : ∀ {ρ : Type} (k : Option ρ), dz 6 k = k := fun k => dz_nz (by decide)
      have mx : imax 0 (nI (m' + 1) - 1) = nI m' := by
        rw [nI_pred]
        unfold imax
        by_cases c : (0 : Int32) < nI m'
        · rw [if_pos c]
        · rw [if_neg c]
          rw [Int32.lt_iff_toInt_lt, nI_toInt (by omega)] at c
          simp only [show (0 : Int32).toInt = 0 from rfl] at c
          have : m' = 0 := by omega
          rw [this]
          rfl
      have cki : ∀ {ρ : Type} (q : Option ρ), ck (nI ((a + m') % 6)) 6 q = q := fun q => ck_nI (Nat.mod_lt _ (by decide)) (by decide)
      have ixi : ix (nI ((a + m') % 6)) = (a + m') % 6 := nI_clamp (by omega)
      have lt6 : (a + m') % 6 < 6 := Nat.mod_lt _ (by decide)
      rw [lt_e, em, mx, z6, lt_e, up_oj (by decide), up_same, ea, i6a a (by omega) m' (by omega), cki, ixi] at k2
      obtain ⟨g4, q1, q2, q3⟩ := bc_at 1 (73 + 2 * ((a + m') % 6)) (by omega) (by omega) (up h 70 3 (nI m'))
      rw [q1, bd_e, cki] at k2
      cases k2
      have r' : ∀ j, j < m' + 1 → h (73 + 2 * ((a + j) % 6)) 1 = h 1 1 := fun j hj => by
        have := r.2.1 j (by rw [em, nI_toInt m2]; omega)
        rw [ea, show (nI a).toNatClampNeg = a from nI_clamp a2] at this
        exact this
      have e11 : g2 1 1 = h 1 1 := by rw [q3, up_oc (by omega)]; exact r' m' (by omega)
      have e70 : g2 70 = up h 70 3 (nI m') 70 := q2 70 (by decide) (by decide)
      subst k3
      refine ⟨by rw [up_oc (by decide)]; exact e11, fun j hj => ?_, by rw [up_oc (by decide), q2 37 (by decide) (by decide), up_oc (by decide)]⟩
      rw [up_oc (by decide), e70, up_same, nI_toInt (by omega)] at hj
      have w70 : (up g2 16 3 (g2 72 ((a + m') % 6))) 70 2 = nI a := by rw [up_oc (by decide), e70, up_oj (by decide)]; exact ea
      rw [w70, show (nI a).toNatClampNeg = a from nI_clamp a2, up_oc (by omega), up_oc (by omega), e11, q2 _ (by omega) (by omega), up_oc (by omega)]
      exact r' j (by omega)
  exact rlh_m cs (fkm_undo h1 e2) (by decide : 1006 ∉ FKdm_undo ∧ 1072 ∉ FKdm_undo ∧ 148 ∉ FKdm_undo) r key.1 key.2.1 key.2.2
theorem fg_70 {h g : PH} (e : mP_forget h = some g) : g = up h 70 3 0 := by
  unfold mP_forget at e
  rw [lt_e] at e
  cases e
  rfl
theorem rh_state (a1 : Int32) (h : PH) (i : IM h) (r : RLH h) {rX rm : Int32} {h1 h2 : PH} (e1 : mX_state a1 h = some (rX, h1)) (e2 : mm_state a1 h1 = some (rm, h2)) (cs : CS h h1 h2) : RLH h2 := by
  have key : h1 1 1 = h 1 1 ∧ PH6 h1 ∧ h1 37 1 = h 37 1 := by
    unfold mX_state at e1
    rw [lt_e, lt_e] at e1
    obtain ⟨g3, k3, e1⟩ := bd_s e1
    cases e1
    rw [fg_70 k3]
    exact ⟨by rw [up_oc (by decide), up_oj (by decide)], ph6_0 up_same, by rw [up_oc (by decide), up_oc (by decide)]⟩
  exact rlh_m cs (fkm_state a1 h1 e2) (show 1006 ∉ FKdm_state a1 ∧ 1072 ∉ FKdm_state a1 ∧ 148 ∉ FKdm_state a1 from (by decide : 1006 ∉ FKdm_state 0 ∧ 1072 ∉ FKdm_state 0 ∧ 148 ∉ FKdm_state 0)) r key.1 key.2.1 key.2.2
theorem rh_set (a1 a2 a3 : Int32) (h : PH) (i : IM h) (r : RLH h) {rX rm : Int32} {h1 h2 : PH} (e1 : mX_set a1 a2 a3 h = some (rX, h1)) (e2 : mm_set a1 a2 a3 h1 = some (rm, h2)) (cs : CS h h1 h2) : RLH h2 := by
  have key : h1 1 1 = h 1 1 ∧ PH6 h1 ∧ h1 37 1 = h 37 1 := by
    unfold mX_set at e1
    refine v_j1 (fun (g : PH) => g 1 1 = h 1 1 → g 37 1 = h 37 1 → h1 1 1 = h 1 1 ∧ PH6 h1 ∧ h1 37 1 = h 37 1) e1 (fun g e1 q1 q37 => ?_) (fun j1 kj e1 => ?_)
    · obtain ⟨g3, k3, e1⟩ := bd_s e1
      cases e1
      rw [fg_70 k3]
      exact ⟨by rw [up_oc (by decide)]; exact q1, ph6_0 up_same, by rw [up_oc (by decide)]; exact q37⟩
    · rcases ite_or e1 with ⟨-, e1⟩ | ⟨-, e1⟩
      · obtain ⟨r4, -, e1⟩ := bd_s e1
        rcases ite_or e1 with ⟨-, e1⟩ | ⟨-, e1⟩
        · cases e1
          exact ⟨rfl, r.2.1, rfl⟩
        · obtain ⟨g5, k5, e1⟩ := lt_some e1
          exact kj _ e1 (by rw [k5, up_oj (by decide)]) (by rw [k5, up_oc (by decide)])
      · obtain ⟨r6, -, e1⟩ := bd_s e1
        rcases ite_or e1 with ⟨-, e1⟩ | ⟨-, e1⟩
        · cases e1
          exact ⟨rfl, r.2.1, rfl⟩
        · obtain ⟨r7, -, e1⟩ := bd_s e1
          rcases ite_or e1 with ⟨-, e1⟩ | ⟨-, e1⟩
          · cases e1
            exact ⟨rfl, r.2.1, rfl⟩
          · obtain ⟨r8, -, e1⟩ := bd_s e1
            obtain ⟨r9, -, e1⟩ := bd_s e1
            rcases ite_or e1 with ⟨-, e1⟩ | ⟨-, e1⟩
            · cases e1
              exact ⟨rfl, r.2.1, rfl⟩
            · obtain ⟨g10, k10, e1⟩ := bd_s e1
              have f := fpB_write 1 a2 a1 a3 h k10
              exact kj _ e1 (by rw [f 1 (show 1 ∉ FPdB_write 1 a2 a1 a3 from (by decide : 1 ∉ FPdB_write 1 0 0 0))]) (by rw [f 37 (show 37 ∉ FPdB_write 1 a2 a1 a3 from (by decide : 37 ∉ FPdB_write 1 0 0 0))])
  exact rlh_m cs (fkm_set a1 a2 a3 h1 e2) (show 1006 ∉ FKdm_set a1 a2 a3 ∧ 1072 ∉ FKdm_set a1 a2 a3 ∧ 148 ∉ FKdm_set a1 a2 a3 from (by decide : 1006 ∉ FKdm_set 0 0 0 ∧ 1072 ∉ FKdm_set 0 0 0 ∧ 148 ∉ FKdm_set 0 0 0)) r key.1 key.2.1 key.2.2
theorem mh52 (p1 p2 p3 : Int32) (K : PH → Option (Int32 × PH)) (r : Int32 × PH) (Q : Prop) (hK : ∀ g, K g = some r → Q) : ∀ (n : Nat) (v : Int32) (h : PH), mm_house_L52 p1 p2 p3 K n v h = some r → Q := by
  intro n
  induction n with
  | zero => intro v h e; cases e
  | succ n ih =>
    intro v h e
    rw [mm_house_L52] at e
    rcases ite_or e with ⟨-, e⟩ | ⟨-, e⟩
    · exact hK _ e
    · obtain ⟨-, e⟩ := ck_s e
      obtain ⟨h5, -, e⟩ := lt_some e
      exact ih _ _ e
theorem hs_num (a1 a2 a3 : Int32) (h : PH) {r : Int32 × PH} (e : mm_house a1 a2 a3 h = some r) (c : ((0 ≤ a1 ∧ a1 ≤ 99) ∧ (0 ≤ a2 ∧ a2 ≤ 9)) ∧ (0 ≤ a3 ∧ a3 ≤ 9)) (c12 : ¬ h 104 6 = 12) : r.1 = r.2 104 6 - 1 := by
  have z01 : ¬ (1 : Int32) = 0 := by decide
  unfold mm_house at e
  rw [lt_e, isIn_y c.1.1, bd_e, if_neg z01, isIn_y c.1.2, bd_e, if_neg z01, isIn_y c.2, bd_e, if_neg z01, if_neg (by rw [up_oj (by decide)]; exact c12)] at e
  refine mh52 a1 a2 a3 _ r _ (fun g e => ?_) FU 0 _ e
  obtain ⟨-, e⟩ := ck_s e
  obtain ⟨h7, -, e⟩ := lt_some e
  obtain ⟨-, e⟩ := ck_s e
  obtain ⟨h8, -, e⟩ := lt_some e
  obtain ⟨-, e⟩ := ck_s e
  obtain ⟨h9, -, e⟩ := lt_some e
  obtain ⟨-, e⟩ := ck_s e
  obtain ⟨h10, -, e⟩ := lt_some e
  obtain ⟨-, e⟩ := ck_s e
  obtain ⟨h11, -, e⟩ := lt_some e
  obtain ⟨-, e⟩ := ck_s e
  obtain ⟨h12, -, e⟩ := lt_some e
  obtain ⟨-, e⟩ := ck_s e
  obtain ⟨h13, -, e⟩ := lt_some e
  obtain ⟨h14, -, e⟩ := lt_some e
  obtain ⟨h15, -, e⟩ := lt_some e
  cases e
  rfl
theorem house_both (a1 a2 a3 : Int32) (h : PH) (i : IM h) (r : RLH h) {rX rm : Int32} {h1 h2 : PH} (e1 : mX_house a1 a2 a3 h = some (rX, h1)) (e2 : mm_house a1 a2 a3 h1 = some (rm, h2)) (cs : CS h h1 h2) : rX = rm ∧ RLH h2 := by
  have z01 : ¬ (1 : Int32) = 0 := by decide
  obtain ⟨n, n1, n2, en⟩ := nat_of (show R 0 12 (h 1 1) from inv_rng i.1 rfl) (by decide)
  have x := cs.2.2.2.1
  have s := cs.2.2.2.2
  have em : h1 104 6 = nI n := by rw [x 104 (by decide), ← r.1]; exact en
  have f2 := fkm_house a1 a2 a3 h1 e2
  have kn : ∀ b j, b ≠ 104 → kk b j = b := fun b j hb => by unfold kk; rw [if_neg hb]
  have m72 : h2 104 72 = h 104 72 := by rw [← x 104 (by decide)]; exact f2 104 72 (show 1072 ∉ FKdm_house a1 a2 a3 from (by decide : 1072 ∉ FKdm_house 0 0 0))
  have m148 : h2 148 = h 148 := by
    rw [← x 148 (by decide)]
    funext j
    exact f2 148 j (by rw [kn 148 j (by decide)]; exact (by decide : 148 ∉ FKdm_house 0 0 0))
  have none_ : rX = -1 → h1 = h → rm = -1 → h2 104 6 = h1 104 6 → rX = rm ∧ RLH h2 := fun q1 q2 q3 q4 => by
    refine ⟨by rw [q1, q3], ?_⟩
    subst q2
    refine ⟨by rw [s 1 (by decide), q4]; exact r.1, ph6_fr (by rw [s 1 (by decide)]) (s 70 (by decide)) (fun k hk => by rw [s (73 + 2 * k) (by omega)]) r.2.1, fun q => ?_⟩
    rw [m72] at q
    rw [s 37 (by decide), m148]
    exact r.2.2 q
  by_cases c : ((0 ≤ a1 ∧ a1 ≤ 99) ∧ (0 ≤ a2 ∧ a2 ≤ 9)) ∧ (0 ≤ a3 ∧ a3 ≤ 9)
  · by_cases c12 : n < 12
    · have n12 : ¬ nI n = 12 := fun q => by
        have : (nI n).toInt = 12 := by rw [q]; rfl
        rw [nI_toInt n2] at this
        omega
      unfold mX_house at e1
      rw [within_y c.1.1, bd_e, jn1_e, if_neg z01, within_y c.1.2, bd_e, if_neg z01, within_y c.2, bd_e, if_neg z01] at e1
      dsimp only at e1
      rw [if_neg z01, en, if_pos (show nI n < 12 from nI_lt (b := 12) c12 (by decide))] at e1
      obtain ⟨g4, k4, e1⟩ := bd_s e1
      rw [fg_70 k4] at e1
      obtain ⟨g6, q1, q2, q3, q4⟩ := bu_at 1 n c12 a1 a2 a3 (up h 70 3 0) (by rw [up_oc (by decide)]; exact en)
      rw [q1, bd2_e] at e1
      cases e1
      have nm := hs_num a1 a2 a3 h1 e2 c (by rw [em]; exact n12)
      obtain ⟨g', w⟩ := mh_at n c12 a1 a2 a3 c.1.1 c.1.2 c.2 h1 em
      rw [w] at e2
      cases e2
      have e6 : h2 104 6 = nI (n + 1) := by
        have nm : nI n = h2 104 6 - 1 := nm
        rw [← nI_1, nm, Int32.sub_add_cancel]
      refine ⟨rfl, by rw [s 1 (by decide), q2, e6], ph6_0 ?_, fun q => ?_⟩
      · rw [s 70 (by decide), q3 70 (by decide) (by decide), up_same]
      · rw [m72] at q
        rw [s 37 (by decide), q3 37 (by decide) (by decide), up_oc (by decide), m148]
        exact r.2.2 q
    · have e12 : nI n = 12 := by rw [show n = 12 by omega]; rfl
      unfold mX_house at e1
      rw [within_y c.1.1, bd_e, jn1_e, if_neg z01, within_y c.1.2, bd_e, if_neg z01, within_y c.2, bd_e, if_neg z01] at e1
      dsimp only at e1
      rw [if_neg z01, en, if_neg (by rw [e12]; decide)] at e1
      unfold mm_house at e2
      rw [lt_e, isIn_y c.1.1, bd_e, if_neg z01, isIn_y c.1.2, bd_e, if_neg z01, isIn_y c.2, bd_e, if_neg z01, if_pos (by rw [up_oj (by decide), em]; exact e12)] at e2
      cases e1
      cases e2
      exact none_ rfl rfl rfl (up_oj (by decide))
  · have x0 : rX = -1 ∧ h1 = h := by
      unfold mX_house at e1
      by_cases c1 : 0 ≤ a1 ∧ a1 ≤ 99
      · rw [within_y c1, bd_e, jn1_e, if_neg z01] at e1
        by_cases c2 : 0 ≤ a2 ∧ a2 ≤ 9
        · rw [within_y c2, bd_e, if_neg z01] at e1
          have c3 : ¬ (0 ≤ a3 ∧ a3 ≤ 9) := fun q => c ⟨⟨c1, c2⟩, q⟩
          rw [within_n c3, bd_e, if_pos rfl] at e1
          dsimp only at e1
          rw [if_pos rfl] at e1
          cases e1
          exact ⟨rfl, rfl⟩
        · rw [within_n c2, bd_e, if_pos rfl] at e1
          dsimp only at e1
          rw [if_pos rfl] at e1
          cases e1
          exact ⟨rfl, rfl⟩
      · rw [within_n c1, bd_e, jn1_e, if_pos rfl] at e1
        dsimp only at e1
        rw [if_pos rfl] at e1
        cases e1
        exact ⟨rfl, rfl⟩
    have y0 : rm = -1 ∧ h2 = up h1 104 0 0 := by
      unfold mm_house at e2
      rw [lt_e] at e2
      by_cases c1 : 0 ≤ a1 ∧ a1 ≤ 99
      · rw [isIn_y c1, bd_e, if_neg z01] at e2
        by_cases c2 : 0 ≤ a2 ∧ a2 ≤ 9
        · rw [isIn_y c2, bd_e, if_neg z01] at e2
          have c3 : ¬ (0 ≤ a3 ∧ a3 ≤ 9) := fun q => c ⟨⟨c1, c2⟩, q⟩
          rw [isIn_n c3, bd_e, if_pos rfl] at e2
          cases e2
          exact ⟨rfl, rfl⟩
        · rw [isIn_n c2, bd_e, if_pos rfl] at e2
          cases e2
          exact ⟨rfl, rfl⟩
      · rw [isIn_n c1, bd_e, if_pos rfl] at e2
        cases e2
        exact ⟨rfl, rfl⟩
    exact none_ x0.1 x0.2 y0.1 (by rw [y0.2, up_oj (by decide)])
theorem rh_house (a1 a2 a3 : Int32) (h : PH) (i : IM h) (r : RLH h) {rX rm : Int32} {h1 h2 : PH} (e1 : mX_house a1 a2 a3 h = some (rX, h1)) (e2 : mm_house a1 a2 a3 h1 = some (rm, h2)) (cs : CS h h1 h2) : RLH h2 := (house_both a1 a2 a3 h i r e1 e2 cs).2
theorem xtext70 (p : Int32) (h : PH) {r : Int32 × PH} (e : mX_text p h = some r) : r.2 70 3 = 0 ∨ r.2 70 = h 70 := by
  unfold mX_text at e
  obtain ⟨h1, k1, e⟩ := bd_s e
  have f1 : h1 70 = h 70 := fpD_forgetFault h k1 70 (by decide : 70 ∉ FPdD_forgetFault)
  obtain ⟨r2, -, e⟩ := bd_s e
  refine v_j2 (fun (x : Int32) (g : PH) => g 70 = h 70 → r.2 70 3 = 0 ∨ r.2 70 = h 70) e (fun x4 h5 e q => ?_) (fun j3 kj e => ?_)
  · obtain ⟨h6, e6, e⟩ := lt_some e
    have z : h6 70 = h 70 := by rw [e6, up_cell (by decide)]; exact q
    rcases ite_or e with ⟨-, e⟩ | ⟨-, e⟩
    · cases e
      exact Or.inr z
    · obtain ⟨r7, h8, e8, e⟩ := bd2_s e
      cases e
      show h8 70 3 = 0 ∨ h8 70 = h 70
      unfold mX_keepText at e8
      rcases ite_or e8 with ⟨-, e8⟩ | ⟨-, e8⟩
      · obtain ⟨a, k, e8⟩ := bd_s e8
        obtain ⟨b, k2, e8⟩ := bd_s e8
        cases e8
        right
        rw [fpR_copyFrom 8 93 a k2 70 (by decide), fpR_copyFrom 6 91 h6 k 70 (by decide)]
        exact z
      · rcases ite_or e8 with ⟨-, e8⟩ | ⟨-, e8⟩
        · obtain ⟨a, k, e8⟩ := bd_s e8
          obtain ⟨b, k2, e8⟩ := bd_s e8
          cases e8
          left
          rw [fg_70 k2, up_same]
        · rcases ite_or e8 with ⟨-, e8⟩ | ⟨-, e8⟩
          · obtain ⟨a, k, e8⟩ := bd_s e8
            obtain ⟨b, k2, e8⟩ := bd_s e8
            cases e8
            left
            rw [fg_70 k2, up_same]
          · obtain ⟨a, k, e8⟩ := bd_s e8
            cases e8
            right
            rw [fpR_copyFrom 14 91 h6 k 70 (by decide)]
            exact z
  · rcases ite_or e with ⟨-, e⟩ | ⟨-, e⟩
    · exact kj _ _ e f1
    · obtain ⟨r9, h10, k10, e⟩ := bd2_s e
      have f10 : h10 70 = h 70 := by
        rw [← f1]
        exact fpD_reads p (h1 1 1) h1 k10 70 (show 70 ∉ FPdD_reads p (h1 1 1) from (by decide : 70 ∉ FPdD_reads 0 0))
      rcases ite_or e with ⟨-, e⟩ | ⟨-, e⟩
      · exact kj _ _ e f10
      · exact kj _ _ e f10
theorem rh_text (a1 : Int32) (h : PH) (i : IM h) (r : RLH h) {rX rm : Int32} {h1 h2 : PH} (e1 : mX_text a1 h = some (rX, h1)) (e2 : mm_text a1 h1 = some (rm, h2)) (cs : CS h h1 h2) : RLH h2 := by
  have f1 := fpX_text a1 h e1
  have g : ∀ b, b = 1 ∨ b = 37 ∨ (73 ≤ b ∧ b ≤ 83) → h1 b = h b := fun b hb => f1 b (show b ∉ FPdX_text a1 from fun q => by
    have : ∀ b, b ∈ FPdX_text 0 → ¬ (b = 1 ∨ b = 37 ∨ (73 ≤ b ∧ b ≤ 83)) := by decide
    exact this b q hb)
  refine rlh_m cs (fkm_text a1 h1 e2) (show 1006 ∉ FKdm_text a1 ∧ 1072 ∉ FKdm_text a1 ∧ 148 ∉ FKdm_text a1 from (by decide : 1006 ∉ FKdm_text 0 ∧ 1072 ∉ FKdm_text 0 ∧ 148 ∉ FKdm_text 0)) r (by rw [g 1 (by omega)]) ?_ (by rw [g 37 (by omega)])
  rcases xtext70 a1 h e1 with q | q
  · exact ph6_0 q
  · exact ph6_fr (by rw [g 1 (by omega)]) q (fun k hk => by rw [g (73 + 2 * k) (by omega)]) r.2.1
theorem rh_image (a1 : Int32) (h : PH) (i : IM h) (rl : RLA h) (r : RLH h) {rX rm : Int32} {h1 h2 : PH} (e1 : mX_image (if a1 = 0 then 0 else 1) h = some (rX, h1)) (e2 : mm_image (if a1 = 0 then 0 else 1) h1 = some (rm, h2)) (cs : CS h h1 h2) : RLH h2 := by
  have x104 := cs.2.2.2.1
  have s104 := cs.2.2.2.2
  by_cases c : a1 = 0
  · rw [if_pos c] at e1 e2
    by_cases cz : h 0 13 = 0
    · unfold mX_image at e1
      rw [if_pos rfl, if_pos cz] at e1
      cases e1
      unfold mm_image at e2
      rw [lt_e, jn0_e, if_pos rfl, if_pos (by rw [up_oj (by decide), ← rl.2.2.1]; exact cz)] at e2
      cases e2
      exact rlh_fr (fun b hb => up_cell (by omega)) (up_oj (by decide)) (up_oj (by decide)) (up_cell (by decide)) r
    · have nz : ¬ h 104 72 = 0 := by rw [← rl.2.2.1]; exact cz
      obtain ⟨g, eg, -, t3, -, t5, t6, t7⟩ := xi_back h i.1 cz
      rw [eg] at e1
      cases e1
      obtain ⟨g', eg', g72, -, u⟩ := kc_image 0 (Or.inl rfl) h1 (Or.inr (by rw [x104 104 (by decide)]; exact nz))
      rw [eg'] at e2
      cases e2
      obtain ⟨u1, u2, -⟩ := u rfl
      have m6 : h2 104 6 = h 148 115 := by have := u1 115 (by decide); rw [x104 148 (by decide)] at this; exact this
      refine ⟨by rw [s104 1 (by decide), t3 1 (by decide) (by decide), m6]; exact r.2.2 nz, ph6_0 (by rw [s104 70 (by decide)]; exact t7), fun _ => ?_⟩
      rw [s104 37 (by decide), t5 37 (by decide) (by decide), u2, x104 148 (by decide)]
      exact r.2.2 nz
  · rw [if_neg c] at e1 e2
    obtain ⟨g, eg, -, t3, -, t5, -⟩ := xi_take 1 (by decide) h i.1
    rw [eg] at e1
    cases e1
    obtain ⟨g', eg', g72, u, -⟩ := kc_image 1 (Or.inr rfl) h1 (Or.inl rfl)
    rw [eg'] at e2
    cases e2
    obtain ⟨u1, u2⟩ := u rfl
    have m6 : h2 104 6 = h 104 6 := by rw [← x104 104 (by decide)]; exact u2 104 6 (by decide) (fun _ => by decide)
    have m115 : h2 148 115 = h 104 6 := by have := u1 115 (by decide); rw [this]; exact congrFun (x104 104 (by decide)) 6
    have ec : ∀ b, b = 1 ∨ b = 70 ∨ (73 ≤ b ∧ b ≤ 83) → h2 b = h b := fun b hb => by rw [s104 b (by omega), t5 b (by omega) (by omega)]
    refine ⟨by rw [ec 1 (by omega), m6]; exact r.1, ph6_fr (by rw [ec 1 (by omega)]) (ec 70 (by omega)) (fun k hk => by rw [ec (73 + 2 * k) (by omega)]) r.2.1, fun _ => ?_⟩
    rw [s104 37 (by decide), t3 1 (by decide) (by decide), m115]
    exact r.1
theorem rh_feed (a1 a2 a3 a4 a5 : Int32) (h : PH) (r : RLH h) {rX rm : Int32} {h1 h2 : PH} (e1 : mX_feed a1 a2 a3 a4 a5 h = some (rX, h1)) (e2 : mm_feed a1 a2 a3 a4 a5 h1 = some (rm, h2)) : RLH h2 := rlh_cs (fpX_feed a1 a2 a3 a4 a5 h e1) (fkm_feed a1 a2 a3 a4 a5 h1 e2) (by decide : ∀ b, b ∈ FPdX_feed 0 0 0 0 0 → ¬ (b = 1 ∨ b = 37 ∨ b = 70 ∨ (73 ≤ b ∧ b ≤ 83))) (by decide : 1006 ∉ FKdm_feed 0 0 0 0 0 ∧ 1072 ∉ FKdm_feed 0 0 0 0 0 ∧ 148 ∉ FKdm_feed 0 0 0 0 0) (by decide : ∀ b, b ∈ FPdX_feed 0 0 0 0 0 → b < 104) (by decide : ∀ b, b ∈ FKdm_feed 0 0 0 0 0 → 104 ≤ b) r
theorem rh_end (a1 : Int32) (h : PH) (r : RLH h) {rX rm : Int32} {h1 h2 : PH} (e1 : mX_end a1 h = some (rX, h1)) (e2 : mm_end a1 h1 = some (rm, h2)) : RLH h2 := rlh_cs (fpX_end a1 h e1) (fkm_end a1 h1 e2) (by decide : ∀ b, b ∈ FPdX_end 0 → ¬ (b = 1 ∨ b = 37 ∨ b = 70 ∨ (73 ≤ b ∧ b ≤ 83))) (by decide : 1006 ∉ FKdm_end 0 ∧ 1072 ∉ FKdm_end 0 ∧ 148 ∉ FKdm_end 0) (by decide : ∀ b, b ∈ FPdX_end 0 → b < 104) (by decide : ∀ b, b ∈ FKdm_end 0 → 104 ≤ b) r
theorem rh_fault (a1 : Int32) (h : PH) (r : RLH h) {rm : Int32} {h2 : PH} (e2 : mm_fault a1 h = some (rm, h2)) : RLH h2 := rlh_cs (S := []) (fun _ _ => rfl) (fkm_fault a1 h e2) (by decide) (by decide : 1006 ∉ FKdm_fault 0 ∧ 1072 ∉ FKdm_fault 0 ∧ 148 ∉ FKdm_fault 0) (by decide) (by decide : ∀ b, b ∈ FKdm_fault 0 → 104 ≤ b) r
theorem rh_of (a1 a2 : Int32) (h : PH) (r : RLH h) {rX rm : Int32} {h1 h2 : PH} (e1 : mX_of a1 a2 h = some (rX, h1)) (e2 : mm_of a1 a2 h1 = some (rm, h2)) : RLH h2 := rlh_cs (fpX_of a1 a2 h e1) (fkm_of a1 a2 h1 e2) (by decide : ∀ b, b ∈ FPdX_of 0 0 → ¬ (b = 1 ∨ b = 37 ∨ b = 70 ∨ (73 ≤ b ∧ b ≤ 83))) (by decide : 1006 ∉ FKdm_of 0 0 ∧ 1072 ∉ FKdm_of 0 0 ∧ 148 ∉ FKdm_of 0 0) (by decide : ∀ b, b ∈ FPdX_of 0 0 → b < 104) (by decide : ∀ b, b ∈ FKdm_of 0 0 → 104 ≤ b) r
theorem rh_book (a1 a2 : Int32) (h : PH) (r : RLH h) {rm : Int32} {h2 : PH} (e2 : mm_book a1 a2 h = some (rm, h2)) : RLH h2 := rlh_cs (S := []) (fun _ _ => rfl) (fkm_book a1 a2 h e2) (by decide) (by decide : 1006 ∉ FKdm_book 0 0 ∧ 1072 ∉ FKdm_book 0 0 ∧ 148 ∉ FKdm_book 0 0) (by decide) (by decide : ∀ b, b ∈ FKdm_book 0 0 → 104 ≤ b) r
theorem rh_goes (a1 a2 : Int32) (h : PH) (r : RLH h) {rX rm : Int32} {h1 h2 : PH} (e1 : mX_goes a1 a2 h = some (rX, h1)) (e2 : mm_goes a1 a2 h1 = some (rm, h2)) : RLH h2 := rlh_cs (fpX_goes a1 a2 h e1) (fkm_goes a1 a2 h1 e2) (by decide : ∀ b, b ∈ FPdX_goes 0 0 → ¬ (b = 1 ∨ b = 37 ∨ b = 70 ∨ (73 ≤ b ∧ b ≤ 83))) (by decide : 1006 ∉ FKdm_goes 0 0 ∧ 1072 ∉ FKdm_goes 0 0 ∧ 148 ∉ FKdm_goes 0 0) (by decide : ∀ b, b ∈ FPdX_goes 0 0 → b < 104) (by decide : ∀ b, b ∈ FKdm_goes 0 0 → 104 ≤ b) r
theorem rh_stands (a1 : Int32) (h : PH) (r : RLH h) {rX rm : Int32} {h1 h2 : PH} (e1 : mX_stands a1 h = some (rX, h1)) (e2 : mm_stands a1 h1 = some (rm, h2)) : RLH h2 := rlh_cs (fpX_stands a1 h e1) (fkm_stands a1 h1 e2) (by decide : ∀ b, b ∈ FPdX_stands 0 → ¬ (b = 1 ∨ b = 37 ∨ b = 70 ∨ (73 ≤ b ∧ b ≤ 83))) (by decide : 1006 ∉ FKdm_stands 0 ∧ 1072 ∉ FKdm_stands 0 ∧ 148 ∉ FKdm_stands 0) (by decide : ∀ b, b ∈ FPdX_stands 0 → b < 104) (by decide : ∀ b, b ∈ FKdm_stands 0 → 104 ≤ b) r
theorem rh_hears (a1 a2 : Int32) (h : PH) (r : RLH h) {rX rm : Int32} {h1 h2 : PH} (e1 : mX_hears a1 a2 h = some (rX, h1)) (e2 : mm_hears a1 a2 h1 = some (rm, h2)) : RLH h2 := rlh_cs (fpX_hears a1 a2 h e1) (fkm_hears a1 a2 h1 e2) (by decide : ∀ b, b ∈ FPdX_hears 0 0 → ¬ (b = 1 ∨ b = 37 ∨ b = 70 ∨ (73 ≤ b ∧ b ≤ 83))) (by decide : 1006 ∉ FKdm_hears 0 0 ∧ 1072 ∉ FKdm_hears 0 0 ∧ 148 ∉ FKdm_hears 0 0) (by decide : ∀ b, b ∈ FPdX_hears 0 0 → b < 104) (by decide : ∀ b, b ∈ FKdm_hears 0 0 → 104 ≤ b) r
theorem rh_heard (a1 a2 : Int32) (h : PH) (r : RLH h) {rX rm : Int32} {h1 h2 : PH} (e1 : mX_heard a1 a2 h = some (rX, h1)) (e2 : mm_heard a1 a2 h1 = some (rm, h2)) : RLH h2 := rlh_cs (fpX_heard a1 a2 h e1) (fkm_heard a1 a2 h1 e2) (by decide : ∀ b, b ∈ FPdX_heard 0 0 → ¬ (b = 1 ∨ b = 37 ∨ b = 70 ∨ (73 ≤ b ∧ b ≤ 83))) (by decide : 1006 ∉ FKdm_heard 0 0 ∧ 1072 ∉ FKdm_heard 0 0 ∧ 148 ∉ FKdm_heard 0 0) (by decide : ∀ b, b ∈ FPdX_heard 0 0 → b < 104) (by decide : ∀ b, b ∈ FKdm_heard 0 0 → 104 ≤ b) r
theorem rh_ants (a1 a2 : Int32) (h : PH) (r : RLH h) {rX rm : Int32} {h1 h2 : PH} (e1 : mX_ants a1 a2 h = some (rX, h1)) (e2 : mm_ants a1 a2 h1 = some (rm, h2)) : RLH h2 := rlh_cs (fpX_ants a1 a2 h e1) (fkm_ants a1 a2 h1 e2) (by decide : ∀ b, b ∈ FPdX_ants 0 0 → ¬ (b = 1 ∨ b = 37 ∨ b = 70 ∨ (73 ≤ b ∧ b ≤ 83))) (by decide : 1006 ∉ FKdm_ants 0 0 ∧ 1072 ∉ FKdm_ants 0 0 ∧ 148 ∉ FKdm_ants 0 0) (by decide : ∀ b, b ∈ FPdX_ants 0 0 → b < 104) (by decide : ∀ b, b ∈ FKdm_ants 0 0 → 104 ≤ b) r
theorem rh_piece (a1 : Int32) (h : PH) (r : RLH h) {rX rm : Int32} {h1 h2 : PH} (e1 : mX_piece a1 h = some (rX, h1)) (e2 : mm_piece a1 h1 = some (rm, h2)) : RLH h2 := rlh_cs (fpX_piece a1 h e1) (fkm_piece a1 h1 e2) (by decide : ∀ b, b ∈ FPdX_piece 0 → ¬ (b = 1 ∨ b = 37 ∨ b = 70 ∨ (73 ≤ b ∧ b ≤ 83))) (by decide : 1006 ∉ FKdm_piece 0 ∧ 1072 ∉ FKdm_piece 0 ∧ 148 ∉ FKdm_piece 0) (by decide : ∀ b, b ∈ FPdX_piece 0 → b < 104) (by decide : ∀ b, b ∈ FKdm_piece 0 → 104 ≤ b) r
theorem rh_plate (a1 a2 : Int32) (h : PH) (r : RLH h) {rm : Int32} {h2 : PH} (e2 : mm_plate a1 a2 h = some (rm, h2)) : RLH h2 := rlh_cs (S := []) (fun _ _ => rfl) (fkm_plate a1 a2 h e2) (by decide) (by decide : 1006 ∉ FKdm_plate 0 0 ∧ 1072 ∉ FKdm_plate 0 0 ∧ 148 ∉ FKdm_plate 0 0) (by decide) (by decide : ∀ b, b ∈ FKdm_plate 0 0 → 104 ≤ b) r
theorem rh_dough (a1 : Int32) (h : PH) (r : RLH h) {rX rm : Int32} {h1 h2 : PH} (e1 : mX_dough a1 h = some (rX, h1)) (e2 : mm_dough a1 h1 = some (rm, h2)) : RLH h2 := rlh_cs (fpX_dough a1 h e1) (fkm_dough a1 h1 e2) (by decide : ∀ b, b ∈ FPdX_dough 0 → ¬ (b = 1 ∨ b = 37 ∨ b = 70 ∨ (73 ≤ b ∧ b ≤ 83))) (by decide : 1006 ∉ FKdm_dough 0 ∧ 1072 ∉ FKdm_dough 0 ∧ 148 ∉ FKdm_dough 0) (by decide : ∀ b, b ∈ FPdX_dough 0 → b < 104) (by decide : ∀ b, b ∈ FKdm_dough 0 → 104 ≤ b) r
theorem rh_pans (a1 a2 : Int32) (h : PH) (r : RLH h) {rX rm : Int32} {h1 h2 : PH} (e1 : mX_pans a1 a2 h = some (rX, h1)) (e2 : mm_pans a1 a2 h1 = some (rm, h2)) : RLH h2 := rlh_cs (fpX_pans a1 a2 h e1) (fkm_pans a1 a2 h1 e2) (by decide : ∀ b, b ∈ FPdX_pans 0 0 → ¬ (b = 1 ∨ b = 37 ∨ b = 70 ∨ (73 ≤ b ∧ b ≤ 83))) (by decide : 1006 ∉ FKdm_pans 0 0 ∧ 1072 ∉ FKdm_pans 0 0 ∧ 148 ∉ FKdm_pans 0 0) (by decide : ∀ b, b ∈ FPdX_pans 0 0 → b < 104) (by decide : ∀ b, b ∈ FKdm_pans 0 0 → 104 ≤ b) r
theorem rh_mortgage (a1 a2 a3 a4 : Int32) (h : PH) (r : RLH h) {rm : Int32} {h2 : PH} (e2 : mm_mortgage a1 a2 a3 a4 h = some (rm, h2)) : RLH h2 := rlh_cs (S := []) (fun _ _ => rfl) (fkm_mortgage a1 a2 a3 a4 h e2) (by decide) (by decide : 1006 ∉ FKdm_mortgage 0 0 0 0 ∧ 1072 ∉ FKdm_mortgage 0 0 0 0 ∧ 148 ∉ FKdm_mortgage 0 0 0 0) (by decide) (by decide : ∀ b, b ∈ FKdm_mortgage 0 0 0 0 → 104 ≤ b) r
theorem rh_mark (a1 : Int32) (h : PH) (r : RLH h) {rX rm : Int32} {h1 h2 : PH} (e1 : mX_mark a1 h = some (rX, h1)) (e2 : mm_mark a1 h1 = some (rm, h2)) : RLH h2 := rlh_cs (fpX_mark a1 h e1) (fkm_mark a1 h1 e2) (by decide : ∀ b, b ∈ FPdX_mark 0 → ¬ (b = 1 ∨ b = 37 ∨ b = 70 ∨ (73 ≤ b ∧ b ≤ 83))) (by decide : 1006 ∉ FKdm_mark 0 ∧ 1072 ∉ FKdm_mark 0 ∧ 148 ∉ FKdm_mark 0) (by decide : ∀ b, b ∈ FPdX_mark 0 → b < 104) (by decide : ∀ b, b ∈ FKdm_mark 0 → 104 ≤ b) r
theorem rh_measures (a1 : Int32) (h : PH) (r : RLH h) {rm : Int32} {h2 : PH} (e2 : mm_measures a1 h = some (rm, h2)) : RLH h2 := rlh_cs (S := []) (fun _ _ => rfl) (fkm_measures a1 h e2) (by decide) (by decide : 1006 ∉ FKdm_measures 0 ∧ 1072 ∉ FKdm_measures 0 ∧ 148 ∉ FKdm_measures 0) (by decide) (by decide : ∀ b, b ∈ FKdm_measures 0 → 104 ≤ b) r
theorem rh_bite (a1 a2 : Int32) (h : PH) (r : RLH h) {rX rm : Int32} {h1 h2 : PH} (e1 : mX_bite a1 a2 h = some (rX, h1)) (e2 : mm_bite a1 a2 h1 = some (rm, h2)) : RLH h2 := rlh_cs (fpX_bite a1 a2 h e1) (fkm_bite a1 a2 h1 e2) (by decide : ∀ b, b ∈ FPdX_bite 0 0 → ¬ (b = 1 ∨ b = 37 ∨ b = 70 ∨ (73 ≤ b ∧ b ≤ 83))) (by decide : 1006 ∉ FKdm_bite 0 0 ∧ 1072 ∉ FKdm_bite 0 0 ∧ 148 ∉ FKdm_bite 0 0) (by decide : ∀ b, b ∈ FPdX_bite 0 0 → b < 104) (by decide : ∀ b, b ∈ FKdm_bite 0 0 → 104 ≤ b) r
theorem rh_whose (a1 a2 : Int32) (h : PH) (r : RLH h) {rm : Int32} {h2 : PH} (e2 : mm_whose a1 a2 h = some (rm, h2)) : RLH h2 := rlh_cs (S := []) (fun _ _ => rfl) (fkm_whose a1 a2 h e2) (by decide) (by decide : 1006 ∉ FKdm_whose 0 0 ∧ 1072 ∉ FKdm_whose 0 0 ∧ 148 ∉ FKdm_whose 0 0) (by decide) (by decide : ∀ b, b ∈ FKdm_whose 0 0 → 104 ≤ b) r
theorem rh_crumb (a1 : Int32) (h : PH) (r : RLH h) {rX rm : Int32} {h1 h2 : PH} (e1 : mX_crumb a1 h = some (rX, h1)) (e2 : mm_crumb a1 h1 = some (rm, h2)) : RLH h2 := rlh_cs (fpX_crumb a1 h e1) (fkm_crumb a1 h1 e2) (by decide : ∀ b, b ∈ FPdX_crumb 0 → ¬ (b = 1 ∨ b = 37 ∨ b = 70 ∨ (73 ≤ b ∧ b ≤ 83))) (by decide : 1006 ∉ FKdm_crumb 0 ∧ 1072 ∉ FKdm_crumb 0 ∧ 148 ∉ FKdm_crumb 0) (by decide : ∀ b, b ∈ FPdX_crumb 0 → b < 104) (by decide : ∀ b, b ∈ FKdm_crumb 0 → 104 ≤ b) r
theorem rh_crumbs (a1 : Int32) (h : PH) (r : RLH h) {rX rm : Int32} {h1 h2 : PH} (e1 : mX_crumbs a1 h = some (rX, h1)) (e2 : mm_crumbs a1 h1 = some (rm, h2)) : RLH h2 := rlh_cs (fpX_crumbs a1 h e1) (fkm_crumbs a1 h1 e2) (by decide : ∀ b, b ∈ FPdX_crumbs 0 → ¬ (b = 1 ∨ b = 37 ∨ b = 70 ∨ (73 ≤ b ∧ b ≤ 83))) (by decide : 1006 ∉ FKdm_crumbs 0 ∧ 1072 ∉ FKdm_crumbs 0 ∧ 148 ∉ FKdm_crumbs 0) (by decide : ∀ b, b ∈ FPdX_crumbs 0 → b < 104) (by decide : ∀ b, b ∈ FKdm_crumbs 0 → 104 ≤ b) r
theorem rh_loaf (a1 a2 : Int32) (h : PH) (r : RLH h) {rX rm : Int32} {h1 h2 : PH} (e1 : mX_loaf a1 a2 h = some (rX, h1)) (e2 : mm_loaf a1 a2 h1 = some (rm, h2)) : RLH h2 := rlh_cs (fpX_loaf a1 a2 h e1) (fkm_loaf a1 a2 h1 e2) (by decide : ∀ b, b ∈ FPdX_loaf 0 0 → ¬ (b = 1 ∨ b = 37 ∨ b = 70 ∨ (73 ≤ b ∧ b ≤ 83))) (by decide : 1006 ∉ FKdm_loaf 0 0 ∧ 1072 ∉ FKdm_loaf 0 0 ∧ 148 ∉ FKdm_loaf 0 0) (by decide : ∀ b, b ∈ FPdX_loaf 0 0 → b < 104) (by decide : ∀ b, b ∈ FKdm_loaf 0 0 → 104 ≤ b) r
theorem rh_ovens (a1 : Int32) (h : PH) (r : RLH h) {rm : Int32} {h2 : PH} (e2 : mm_ovens a1 h = some (rm, h2)) : RLH h2 := rlh_cs (S := []) (fun _ _ => rfl) (fkm_ovens a1 h e2) (by decide) (by decide : 1006 ∉ FKdm_ovens 0 ∧ 1072 ∉ FKdm_ovens 0 ∧ 148 ∉ FKdm_ovens 0) (by decide) (by decide : ∀ b, b ∈ FKdm_ovens 0 → 104 ≤ b) r
theorem rh_alone (a1 : Int32) (h : PH) (r : RLH h) {rX rm : Int32} {h1 h2 : PH} (e1 : mX_alone a1 h = some (rX, h1)) (e2 : mm_alone a1 h1 = some (rm, h2)) : RLH h2 := rlh_cs (fpX_alone a1 h e1) (fkm_alone a1 h1 e2) (by decide : ∀ b, b ∈ FPdX_alone 0 → ¬ (b = 1 ∨ b = 37 ∨ b = 70 ∨ (73 ≤ b ∧ b ≤ 83))) (by decide : 1006 ∉ FKdm_alone 0 ∧ 1072 ∉ FKdm_alone 0 ∧ 148 ∉ FKdm_alone 0) (by decide : ∀ b, b ∈ FPdX_alone 0 → b < 104) (by decide : ∀ b, b ∈ FKdm_alone 0 → 104 ≤ b) r
theorem rh_heir (a1 a2 : Int32) (h : PH) (r : RLH h) {rX rm : Int32} {h1 h2 : PH} (e1 : mX_heir a1 a2 h = some (rX, h1)) (e2 : mm_heir a1 a2 h1 = some (rm, h2)) : RLH h2 := rlh_cs (fpX_heir a1 a2 h e1) (fkm_heir a1 a2 h1 e2) (by decide : ∀ b, b ∈ FPdX_heir 0 0 → ¬ (b = 1 ∨ b = 37 ∨ b = 70 ∨ (73 ≤ b ∧ b ≤ 83))) (by decide : 1006 ∉ FKdm_heir 0 0 ∧ 1072 ∉ FKdm_heir 0 0 ∧ 148 ∉ FKdm_heir 0 0) (by decide : ∀ b, b ∈ FPdX_heir 0 0 → b < 104) (by decide : ∀ b, b ∈ FKdm_heir 0 0 → 104 ≤ b) r
theorem rh_line (a1 a2 : Int32) (h : PH) (r : RLH h) {rm : Int32} {h2 : PH} (e2 : mm_line a1 a2 h = some (rm, h2)) : RLH h2 := rlh_cs (S := []) (fun _ _ => rfl) (fkm_line a1 a2 h e2) (by decide) (by decide : 1006 ∉ FKdm_line 0 0 ∧ 1072 ∉ FKdm_line 0 0 ∧ 148 ∉ FKdm_line 0 0) (by decide) (by decide : ∀ b, b ∈ FKdm_line 0 0 → 104 ≤ b) r
theorem rh_window (a1 : Int32) (h : PH) (r : RLH h) {rm : Int32} {h2 : PH} (e2 : mm_window a1 h = some (rm, h2)) : RLH h2 := rlh_cs (S := []) (fun _ _ => rfl) (fkm_window a1 h e2) (by decide) (by decide : 1006 ∉ FKdm_window 0 ∧ 1072 ∉ FKdm_window 0 ∧ 148 ∉ FKdm_window 0) (by decide) (by decide : ∀ b, b ∈ FKdm_window 0 → 104 ≤ b) r
theorem rh_member (a1 a2 : Int32) (h : PH) (r : RLH h) {rX rm : Int32} {h1 h2 : PH} (e1 : mX_member a1 a2 h = some (rX, h1)) (e2 : mm_member a1 a2 h1 = some (rm, h2)) : RLH h2 := rlh_cs (fpX_member a1 a2 h e1) (fkm_member a1 a2 h1 e2) (by decide : ∀ b, b ∈ FPdX_member 0 0 → ¬ (b = 1 ∨ b = 37 ∨ b = 70 ∨ (73 ≤ b ∧ b ≤ 83))) (by decide : 1006 ∉ FKdm_member 0 0 ∧ 1072 ∉ FKdm_member 0 0 ∧ 148 ∉ FKdm_member 0 0) (by decide : ∀ b, b ∈ FPdX_member 0 0 → b < 104) (by decide : ∀ b, b ∈ FKdm_member 0 0 → 104 ≤ b) r
theorem rh_council (a1 : Int32) (h : PH) (r : RLH h) {rm : Int32} {h2 : PH} (e2 : mm_council a1 h = some (rm, h2)) : RLH h2 := rlh_cs (S := []) (fun _ _ => rfl) (fkm_council a1 h e2) (by decide) (by decide : 1006 ∉ FKdm_council 0 ∧ 1072 ∉ FKdm_council 0 ∧ 148 ∉ FKdm_council 0) (by decide) (by decide : ∀ b, b ∈ FKdm_council 0 → 104 ≤ b) r
theorem rh_game (a1 a2 : Int32) (h : PH) (r : RLH h) {rX rm : Int32} {h1 h2 : PH} (e1 : mX_game a1 a2 h = some (rX, h1)) (e2 : mm_game a1 a2 h1 = some (rm, h2)) : RLH h2 := rlh_cs (fpX_game a1 a2 h e1) (fkm_game a1 a2 h1 e2) (by decide : ∀ b, b ∈ FPdX_game 0 0 → ¬ (b = 1 ∨ b = 37 ∨ b = 70 ∨ (73 ≤ b ∧ b ≤ 83))) (by decide : 1006 ∉ FKdm_game 0 0 ∧ 1072 ∉ FKdm_game 0 0 ∧ 148 ∉ FKdm_game 0 0) (by decide : ∀ b, b ∈ FPdX_game 0 0 → b < 104) (by decide : ∀ b, b ∈ FKdm_game 0 0 → 104 ≤ b) r
theorem rh_look (a1 : Int32) (h : PH) (r : RLH h) {rm : Int32} {h2 : PH} (e2 : mm_look a1 h = some (rm, h2)) : RLH h2 := rlh_cs (S := []) (fun _ _ => rfl) (fkm_look a1 h e2) (by decide) (by decide : 1006 ∉ FKdm_look 0 ∧ 1072 ∉ FKdm_look 0 ∧ 148 ∉ FKdm_look 0) (by decide) (by decide : ∀ b, b ∈ FKdm_look 0 → 104 ≤ b) r
theorem ag_house (a1 a2 a3 : Int32) (h : PH) (i : IM h) (r : RLH h) {rX rm : Int32} {h1 h2 : PH} (e1 : mX_house a1 a2 a3 h = some (rX, h1)) (e2 : mm_house a1 a2 a3 h1 = some (rm, h2)) (cs : CS h h1 h2) : rX = rm := (house_both a1 a2 a3 h i r e1 e2 cs).1
/-- whether one may set: the same on both sides -/
theorem xset_0 (a1 a2 a3 : Int32) (h : PH) (n : Nat) (hn : n ≤ 12) (en : h 1 1 = nI n) {r : Int32 × PH} (e : mX_set a1 a2 a3 h = some r) : r.1 = if (a1 = 8 ∧ (0 ≤ a3 ∧ a3 ≤ 9)) ∨ (¬ a1 = 8 ∧ (0 ≤ a1 ∧ a1 ≤ 7) ∧ (¬ a2 < 0 ∧ ¬ nI n ≤ a2) ∧ (0 ≤ a3 ∧ a3 ≤ (if a1 < 4 ∨ a1 = 7 then 99 else 9))) then 1 else 0 := by
  have z01 : ¬ (1 : Int32) = 0 := by decide
  have fin : ∀ g : PH, (bd (mP_forget g) fun h3 => some ((1 : Int32), h3)) = some r → r.1 = 1 := fun g e => by
    obtain ⟨g3, -, e⟩ := bd_s e
    cases e
    rfl
  unfold mX_set at e
  rw [jn1_e] at e
  by_cases c8 : a1 = 8
  · rw [if_pos c8] at e
    by_cases c3 : 0 ≤ a3 ∧ a3 ≤ 9
    · rw [within_y c3, bd_e, if_neg z01, lt_e] at e
      rw [if_pos (Or.inl ⟨c8, c3⟩)]
      exact fin _ e
    · rw [within_n c3, bd_e, if_pos rfl] at e
      rw [if_neg (by
        intro q
        rcases q with q | q
        · exact c3 q.2
        · exact q.1 c8)]
      cases e
      rfl
  · rw [if_neg c8] at e
    by_cases c7 : 0 ≤ a1 ∧ a1 ≤ 7
    · rw [within_y c7, bd_e, if_neg z01] at e
      unfold mB_has at e
      rw [en] at e
      by_cases c2 : ¬ a2 < 0 ∧ ¬ nI n ≤ a2
      · rw [if_neg c2.1, if_neg c2.2, bd_e, if_neg z01] at e
        have ms : mX_mostToSet a1 h = some (if a1 < 4 ∨ a1 = 7 then 99 else 9) := by
          unfold mX_mostToSet
          by_cases c4 : a1 < 4
          · rw [if_pos c4, if_pos (Or.inl c4)]
          · rw [if_neg c4]
            by_cases c77 : a1 = 7
            · rw [if_pos c77, if_pos (Or.inr c77)]
            · rw [if_neg c77, if_neg (fun q => by rcases q with q | q; exact c4 q; exact c77 q)]
        rw [ms, bd_e] at e
        by_cases c3 : 0 ≤ a3 ∧ a3 ≤ (if a1 < 4 ∨ a1 = 7 then 99 else 9)
        · rw [within_y c3, bd_e, if_neg z01] at e
          rw [if_pos (Or.inr ⟨c8, c7, c2, c3⟩)]
          obtain ⟨g10, -, e⟩ := bd_s e
          exact fin _ e
        · rw [within_n c3, bd_e, if_pos rfl] at e
          rw [if_neg (by
            intro q
            rcases q with q | q
            · exact c8 q.1
            · exact c3 q.2.2.2)]
          cases e
          rfl
      · have e0 : (bd (if a2 < 0 then some (0 : Int32) else if nI n ≤ a2 then some 0 else some 1) fun r7 => if r7 = 0 then some ((0 : Int32), h) else bd (mX_mostToSet a1 h) fun r8 => bd (mX_within a3 0 r8 h) fun r9 => if r9 = 0 then some (0, h) else bd (mB_write 1 a2 a1 a3 h) fun h10 => bd (mP_forget h10) fun h3 => some (1, h3)) = some (0, h) := by
          by_cases d1 : a2 < 0
          · rw [if_pos d1, bd_e, if_pos rfl]
          · rw [if_neg d1, if_pos (Classical.byContradiction fun d2 => c2 ⟨d1, d2⟩), bd_e, if_pos rfl]
        rw [if_neg (by
          intro q
          rcases q with q | q
          · exact c8 q.1
          · exact c2 q.2.2.1)]
        have e := e0.symm.trans e
        cases e
        rfl
    · rw [within_n c7, bd_e, if_pos rfl] at e
      rw [if_neg (by
        intro q
        rcases q with q | q
        · exact c8 q.1
        · exact c7 q.2.1)]
      cases e
      rfl
theorem can_st (a1 a2 a3 : Int32) (h : PH) (n : Nat) (hn : n ≤ 12) (en : h 104 6 = nI n) : mm_canSet a1 a2 a3 h = some (if (a1 = 8 ∧ (0 ≤ a3 ∧ a3 ≤ 9)) ∨ (¬ a1 = 8 ∧ (0 ≤ a1 ∧ a1 ≤ 7) ∧ (¬ a2 < 0 ∧ ¬ nI n ≤ a2) ∧ (0 ≤ a3 ∧ a3 ≤ (if a1 < 4 ∨ a1 = 7 then 99 else 9))) then 1 else 0) := by
  have z01 : ¬ (1 : Int32) = 0 := by decide
  unfold mm_canSet
  by_cases c8 : a1 = 8
  · rw [if_pos c8]
    by_cases c3 : 0 ≤ a3 ∧ a3 ≤ 9
    · rw [isIn_y c3, bd_e, if_pos (Or.inl ⟨c8, c3⟩)]
      rfl
    · rw [isIn_n c3, bd_e, if_neg (by
        intro q
        rcases q with q | q
        · exact c3 q.2
        · exact q.1 c8)]
      rfl
  · rw [if_neg c8]
    by_cases c7 : 0 ≤ a1 ∧ a1 ≤ 7
    · rw [isIn_y c7, bd_e, if_neg z01]
      unfold mm_isHouse
      rw [en]
      by_cases c2 : ¬ a2 < 0 ∧ ¬ nI n ≤ a2
      · rw [if_neg c2.1, if_neg c2.2, bd_e, if_neg z01, isIn_eq, bd_e, jn1_e]
        have ms : ∀ k : Int32 → Option Int32, (if (if 4 ≤ a1 ∧ a1 ≤ 6 then (1 : Int32) else 0) = 0 then k 99 else k 9) = k (if a1 < 4 ∨ a1 = 7 then 99 else 9) := fun k => by
          by_cases c46 : 4 ≤ a1 ∧ a1 ≤ 6
          · have n1 : ¬ (a1 < 4 ∨ a1 = 7) := fun q => by
              rcases q with q | q
              · exact absurd c46.1 (Int32.not_le.mpr q)
              · rw [q] at c46; exact absurd c46.2 (by decide)
            rw [if_pos c46, if_neg z01, if_neg n1]
          · have y1 : a1 < 4 ∨ a1 = 7 := by
              by_cases c4 : a1 < 4
              · exact Or.inl c4
              · right
                have l4 : 4 ≤ a1 := Int32.not_lt.mp c4
                have l6 : 6 < a1 := Int32.not_le.mp (fun q => c46 ⟨l4, q⟩)
                have l7 := c7.2
                rw [Int32.lt_iff_toInt_lt] at l6
                rw [Int32.le_iff_toInt_le] at l7
                simp only [show (6 : Int32).toInt = 6 from rfl, show (7 : Int32).toInt = 7 from rfl] at l6 l7
                exact Int32.toInt_inj.mp (by rw [show (7 : Int32).toInt = 7 from rfl]; omega)
            rw [if_neg c46, if_pos rfl, if_pos y1]
        rw [ms (fun x6 => bd (mm_isIn a3 0 x6 h) fun r7 => if r7 = 0 then some 0 else some 1)]
        by_cases c3 : 0 ≤ a3 ∧ a3 ≤ (if a1 < 4 ∨ a1 = 7 then 99 else 9)
        · rw [isIn_y c3, bd_e, if_neg z01, if_pos (Or.inr ⟨c8, c7, c2, c3⟩)]
        · rw [isIn_n c3, bd_e, if_pos rfl, if_neg (by
            intro q
            rcases q with q | q
            · exact c8 q.1
            · exact c3 q.2.2.2)]
      · have e0 : ∀ k : Int32 → Option Int32, k 0 = some 0 → bd (if a2 < 0 then some (0 : Int32) else if nI n ≤ a2 then some 0 else some 1) k = some 0 := fun k hk => by
          by_cases d1 : a2 < 0
          · rw [if_pos d1, bd_e]; exact hk
          · rw [if_neg d1, if_pos (Classical.byContradiction fun d2 => c2 ⟨d1, d2⟩), bd_e]; exact hk
        rw [e0 _ (if_pos rfl), if_neg (by
          intro q
          rcases q with q | q
          · exact c8 q.1
          · exact c2 q.2.2.1)]
    · rw [isIn_n c7, bd_e, if_pos rfl, if_neg (by
        intro q
        rcases q with q | q
        · exact c8 q.1
        · exact c7 q.2.1)]
theorem mset_1 (a1 a2 a3 : Int32) (h : PH) {r : Int32 × PH} {c : Int32} (hc : mm_canSet a1 a2 a3 (up h 104 0 0) = some c) (e : mm_set a1 a2 a3 h = some r) : r.1 = if c = 0 then 0 else 1 := by
  unfold mm_set at e
  rw [lt_e, hc, bd_e] at e
  by_cases c0 : c = 0
  · rw [if_pos c0] at e ⊢
    cases e
    rfl
  · rw [if_neg c0] at e ⊢
    refine v_j1 (fun (_ : PH) => r.1 = 1) e (fun h4 e => ?_) (fun j3 k3 e => ?_)
    · refine v_j1 (fun (_ : PH) => r.1 = 1) e (fun h6 e => ?_) (fun j5 k5 e => ?_)
      · refine v_j1 (fun (_ : PH) => r.1 = 1) e (fun h8 e => ?_) (fun j7 k7 e => ?_)
        · refine v_j1 (fun (_ : PH) => r.1 = 1) e (fun h10 e => ?_) (fun j9 k9 e => ?_)
          · refine v_j1 (fun (_ : PH) => r.1 = 1) e (fun h12 e => ?_) (fun j11 k11 e => ?_)
            · refine v_j1 (fun (_ : PH) => r.1 = 1) e (fun h14 e => ?_) (fun j13 k13 e => ?_)
              · obtain ⟨h15, -, e⟩ := lt_some e
                cases e
                rfl
              · rcases ite_or e with ⟨-, e⟩ | ⟨-, e⟩
                · obtain ⟨-, e⟩ := ck_s e
                  obtain ⟨h16, -, e⟩ := lt_some e
                  exact k13 _ e
                · exact k13 _ e
            · rcases ite_or e with ⟨-, e⟩ | ⟨-, e⟩
              · obtain ⟨-, e⟩ := ck_s e
                obtain ⟨h16, -, e⟩ := lt_some e
                exact k11 _ e
              · exact k11 _ e
          · rcases ite_or e with ⟨-, e⟩ | ⟨-, e⟩
            · obtain ⟨-, e⟩ := ck_s e
              obtain ⟨h16, -, e⟩ := lt_some e
              exact k9 _ e
            · exact k9 _ e
        · rcases ite_or e with ⟨-, e⟩ | ⟨-, e⟩
          · obtain ⟨-, e⟩ := ck_s e
            obtain ⟨h16, -, e⟩ := lt_some e
            exact k7 _ e
          · exact k7 _ e
      · rcases ite_or e with ⟨-, e⟩ | ⟨-, e⟩
        · obtain ⟨-, e⟩ := ck_s e
          obtain ⟨h16, -, e⟩ := lt_some e
          exact k5 _ e
        · exact k5 _ e
    · rcases ite_or e with ⟨-, e⟩ | ⟨-, e⟩
      · exact k3 _ e
      · obtain ⟨h21, -, e⟩ := bd_s e
        exact k3 _ e
theorem it01 (P : Prop) [Decidable P] : (if P then (1 : Int32) else 0) = if (if P then (1 : Int32) else 0) = 0 then 0 else 1 := by
  by_cases c : P
  · rw [if_pos c, if_neg (by decide)]
  · rw [if_neg c, if_pos rfl]
theorem ag_set (a1 a2 a3 : Int32) (h : PH) (i : IM h) (r : RLH h) {rX rm : Int32} {h1 h2 : PH} (e1 : mX_set a1 a2 a3 h = some (rX, h1)) (e2 : mm_set a1 a2 a3 h1 = some (rm, h2)) (cs : CS h h1 h2) : rX = rm := by
  obtain ⟨n, n1, n2, en⟩ := nat_of (show R 0 12 (h 1 1) from inv_rng i.1 rfl) (by decide)
  have em : up h1 104 0 0 104 6 = nI n := by rw [up_oj (by decide), cs.2.2.2.1 104 (by decide), ← r.1]; exact en
  have w1 := xset_0 a1 a2 a3 h n (by omega) en e1
  have w2 := mset_1 a1 a2 a3 h1 (can_st a1 a2 a3 (up h1 104 0 0) n (by omega) em) e2
  have w1 : rX = _ := w1
  have w2 : rm = _ := w2
  rw [w1, w2]
  exact it01 _
