section
/-! THE COUNT OF HOUSES on both sides: now, in the past, in the image. Printed by wip/gen/prh.py -/
def PH6 (h : PH) : Prop := ∀ j : Nat, (j : Int) < (h 70 3).toInt → h (73 + 2 * (((h 70 2).toNatClampNeg + j) % 6)) 1 = h 1 1
def RLH (h : PH) : Prop := h 1 1 = h 104 6 ∧ PH6 h ∧ (¬ h 104 72 = 0 → h 37 1 = h 148 115)
theorem ph6_fr {h g : PH} (e1 : g 1 1 = h 1 1) (e70 : g 70 = h 70) (eb : ∀ k, k < 6 → g (73 + 2 * k) 1 = h (73 + 2 * k) 1) (p : PH6 h) : PH6 g := fun j hj => by
  rw [e70] at hj ⊢
  rw [eb _ (Nat.mod_lt _ (by decide)), e1]
  exact p j hj
theorem ph6_0 {h : PH} (e : h 70 3 = 0) : PH6 h := fun j hj => by
  rw [e] at hj
  simp only [show (0 : Int32).toInt = 0 from rfl] at hj
  omega
theorem rlh_fr {h g : PH} (ec : ∀ b, b = 1 ∨ b = 37 ∨ b = 70 ∨ (73 ≤ b ∧ b ≤ 83) → g b = h b) (e6 : g 104 6 = h 104 6) (e72 : g 104 72 = h 104 72) (e148 : g 148 = h 148) (r : RLH h) : RLH g := by
  obtain ⟨r1, r2, r3⟩ := r
  refine ⟨by rw [ec 1 (by omega), e6]; exact r1, ph6_fr (by rw [ec 1 (by omega)]) (ec 70 (by omega)) (fun k hk => by rw [ec (73 + 2 * k) (by omega)]) r2, fun q => ?_⟩
  rw [e72] at q
  rw [ec 37 (by omega), e148]
  exact r3 q
theorem rlh_cs {S T : List Nat} {h h1 h2 : PH} (f1 : Fr S h1 h) (f2 : Fk T h2 h1) (s1 : ∀ b, b ∈ S → ¬ (b = 1 ∨ b = 37 ∨ b = 70 ∨ (73 ≤ b ∧ b ≤ 83))) (s2 : 1006 ∉ T ∧ 1072 ∉ T ∧ 148 ∉ T) (s3 : ∀ b, b ∈ S → b < 104) (s4 : ∀ b, b ∈ T → 104 ≤ b) (r : RLH h) : RLH h2 := by
  have kn : ∀ b j, b ≠ 104 → kk b j = b := fun b j hb => by unfold kk; rw [if_neg hb]
  have a104 : h1 104 = h 104 := f1 104 (fun q => by have := s3 104 q; omega)
  have a148 : h1 148 = h 148 := f1 148 (fun q => by have := s3 148 q; omega)
  refine rlh_fr (fun b hb => ?_) ?_ ?_ ?_ r
  · rw [← f1 b (fun q => s1 b q hb)]
    funext j
    exact f2 b j (by rw [kn b j (by omega)]; intro q; have := s4 b q; omega)
  · rw [← a104]; exact f2 104 6 s2.1
  · rw [← a104]; exact f2 104 72 s2.2.1
  · rw [← a148]
    funext j
    exact f2 148 j (by rw [kn 148 j (by decide)]; exact s2.2.2)
/-- the model's side keeps its count, its flag and the image -/
theorem rlh_m {T : List Nat} {h h1 h2 : PH} (cs : CS h h1 h2) (f2 : Fk T h2 h1) (s2 : 1006 ∉ T ∧ 1072 ∉ T ∧ 148 ∉ T) (r : RLH h) (e1 : h1 1 1 = h 1 1) (p : PH6 h1) (e37 : h1 37 1 = h 37 1) : RLH h2 := by
  have kn : ∀ b j, b ≠ 104 → kk b j = b := fun b j hb => by unfold kk; rw [if_neg hb]
  have x := cs.2.2.2.1
  have s := cs.2.2.2.2
  have m6 : h2 104 6 = h 104 6 := by rw [← x 104 (by decide)]; exact f2 104 6 s2.1
  have m72 : h2 104 72 = h 104 72 := by rw [← x 104 (by decide)]; exact f2 104 72 s2.2.1
  have m148 : h2 148 = h 148 := by
    rw [← x 148 (by decide)]
    funext j
    exact f2 148 j (by rw [kn 148 j (by decide)]; exact s2.2.2)
  refine ⟨by rw [s 1 (by decide), e1, m6]; exact r.1, ph6_fr (by rw [s 1 (by decide)]) (s 70 (by decide)) (fun k hk => by rw [s (73 + 2 * k) (by omega)]) p, fun q => ?_⟩
  rw [m72] at q
  rw [s 37 (by decide), e37, m148]
  exact r.2.2 q
theorem rlh_first : RLH hI := ⟨rfl, ph6_0 rfl, fun q => absurd rfl q⟩
theorem bc_at (a0 a1 : Nat) (n0 : a1 ≠ a0) (n1 : a1 ≠ a0 + 1) (h : PH) : ∃ g, mB_copyFrom a0 a1 h = some g ∧ (∀ c, c ≠ a0 → c ≠ a0 + 1 → g c = h c) ∧ g a0 1 = h a1 1 := by
  unfold mB_copyFrom
  have hcc : ∀ {ρ : Type} (k : Option ρ), cc 132 132 0 0 132 k = k := fun k => if_neg (by decide)
  rw [hcc, lt_e, lt_e, lt_e, lt_e, lt_e, lt_e, lt_e, lt_e, show ix (0 : Int32) = 0 from rfl, show ix (132 : Int32) = 132 from rfl]
  refine ⟨_, rfl, fun c h1 h2 => ?_, ?_⟩
  · funext j
    rw [up_oc h1, up_oc h1, up_oc h1, up_oc h1, up_oc h1, up_oc h1, up_oc h1, cpy_at, if_neg h2]
  · rw [up_oj (by decide), up_oj (by decide), up_oj (by decide), up_oj (by decide), up_oj (by decide), up_oj (by decide), up_same, cpy_at, if_neg n1]
theorem i6a : ∀ f, f < 6 → ∀ m, m < 7 → irm (nI f + nI m) 6 = nI ((f + m) % 6) := by decide +kernel
theorem i6b : ∀ f, f < 6 → irm (nI f + 1) 6 = nI ((f + 1) % 6) := by decide +kernel
theorem keep_h (p : Int32) (h : PH) (i : Inv h) (r : PH6 h) {g : PH} (e : mP_keep 1 p h = some g) : PH6 g ∧ g 1 = h 1 ∧ g 37 = h 37 := by
  obtain ⟨a, a1, a2, ea⟩ := nat_of (show R 0 5 (h 70 2) from inv_rng i rfl) (by decide)
  obtain ⟨m, m1, m2, em⟩ := nat_of (show R 0 6 (h 70 3) from inv_rng i rfl) (by decide)
  have lt6 : (a + m) % 6 < 6 := Nat.mod_lt _ (by decide)
  have z6 : ∀ {ρ : Type} (k : Option ρ), dz 6 k = k := fun k => dz_nz (by decide)
  have cki : ∀ {ρ : Type} (q : Option ρ), ck (nI ((a + m) % 6)) 6 q = q := fun q => ck_nI lt6 (by decide)
  have ixi : ix (nI ((a + m) % 6)) = (a + m) % 6 := nI_clamp (by omega)
  obtain ⟨g1, q1, q2, q3⟩ := bc_at (73 + 2 * ((a + m) % 6)) 1 (by omega) (by omega) h
  unfold mP_keep at e
  rw [z6, lt_e, ea, em, i6a a (by omega) m (by omega), cki, ixi, q1, bd_e, cki, lt_e] at e
  have k70 : up g1 72 ((a + m) % 6) p 70 = h 70 := by rw [up_cell (by decide), q2 70 (by omega) (by omega)]
  have k1 : up g1 72 ((a + m) % 6) p 1 = h 1 := by rw [up_cell (by decide), q2 1 (by omega) (by omega)]
  have k37 : up g1 72 ((a + m) % 6) p 37 = h 37 := by rw [up_cell (by decide), q2 37 (by omega) (by omega)]
  have kb : ∀ k, k < 6 → up g1 72 ((a + m) % 6) p (73 + 2 * k) 1 = if k = (a + m) % 6 then h 1 1 else h (73 + 2 * k) 1 := fun k hk => by
    rw [up_oc (by omega)]
    by_cases c : k = (a + m) % 6
    · rw [if_pos c, c, q3]
    · rw [if_neg c, q2 _ (by omega) (by omega)]
  generalize up g1 72 ((a + m) % 6) p = g4 at e k70 k1 k37 kb
  have r' : ∀ j, j < m → h (73 + 2 * ((a + j) % 6)) 1 = h 1 1 := fun j hj => by
    have := r j (by rw [em, nI_toInt m2]; omega)
    rw [ea, show (nI a).toNatClampNeg = a from nI_clamp a2] at this
    exact this
  rw [k70, em] at e
  by_cases c : 6 ≤ m
  · have m6 : m = 6 := by omega
    subst m6
    rw [if_pos (by decide), z6, lt_e, ea, i6b a (by omega)] at e
    cases e
    refine ⟨fun j hj => ?_, by rw [up_cell (by decide)]; exact k1, by rw [up_cell (by decide)]; exact k37⟩
    rw [up_oj (by decide), k70, em, nI_toInt (by decide)] at hj
    rw [up_same, show (nI ((a + 1) % 6)).toNatClampNeg = (a + 1) % 6 from nI_clamp (by omega), up_oc (by omega), up_oc (by decide), k1, kb _ (Nat.mod_lt _ (by decide))]
    by_cases c2 : ((a + 1) % 6 + j) % 6 = (a + 6) % 6
    · rw [if_pos c2]
    · rw [if_neg c2, show ((a + 1) % 6 + j) % 6 = (a + (j + 1)) % 6 by omega]
      exact r' (j + 1) (by omega)
  · rw [if_neg (by rw [Int32.le_iff_toInt_le, nI_toInt m2]; simp only [show (6 : Int32).toInt = 6 from rfl]; omega), lt_e, nI_1] at e
    cases e
    refine ⟨fun j hj => ?_, by rw [up_cell (by decide)]; exact k1, by rw [up_cell (by decide)]; exact k37⟩
    rw [up_same, nI_toInt (by omega)] at hj
    rw [up_oj (by decide), k70, ea, show (nI a).toNatClampNeg = a from nI_clamp a2, up_oc (by omega), up_oc (by decide), k1, kb _ (Nat.mod_lt _ (by decide))]
    by_cases c2 : (a + j) % 6 = (a + m) % 6
    · rw [if_pos c2]
    · rw [if_neg c2]
      exact r' j (by omega)
theorem fh_bor {S : List Nat} {h g : PH} (f : Fh S g h) (hS : ∀ b, b ∈ S → ¬ (b = 1 ∨ b = 37 ∨ (73 ≤ b ∧ b ≤ 83 ∧ b % 2 = 1))) : g 1 1 = h 1 1 ∧ g 37 1 = h 37 1 ∧ ∀ k, k < 6 → g (73 + 2 * k) 1 = h (73 + 2 * k) 1 := ⟨f 1 (fun q => hS 1 q (by omega)), f 37 (fun q => hS 37 q (by omega)), fun k hk => f _ (fun q => hS _ q (by omega))⟩
theorem rh_act (a1 a2 a3 : Int32) (h : PH) (i : IM h) (r : RLH h) {rX rm : Int32} {h1 h2 : PH} (e1 : mX_act a1 a2 a3 h = some (rX, h1)) (e2 : mm_act a1 a2 a3 h1 = some (rm, h2)) (cs : CS h h1 h2) : RLH h2 := by
  have key : h1 1 1 = h 1 1 ∧ PH6 h1 ∧ h1 37 1 = h 37 1 := by
    unfold mX_act at e1
    obtain ⟨r1, -, e1⟩ := bd_s e1
    rcases ite_or e1 with ⟨-, e1⟩ | ⟨-, e1⟩
    · cases e1
      exact ⟨rfl, r.2.1, rfl⟩
    · obtain ⟨g2, k2, e1⟩ := bd_s e1
      obtain ⟨g3, k3, e1⟩ := bd_s e1
      cases e1
      obtain ⟨p6, q1, q37⟩ := keep_h _ h i.1 r.2.1 k2
      obtain ⟨w1, w37, wb⟩ := fh_bor (fhS_actByHand 68 a1 a2 a3 g2 k3) (show ∀ b, b ∈ FHdS_actByHand 68 a1 a2 a3 → _ from (by decide : ∀ b, b ∈ FHdS_actByHand 68 0 0 0 → ¬ (b = 1 ∨ b = 37 ∨ (73 ≤ b ∧ b ≤ 83 ∧ b % 2 = 1))))
      have w70 : h1 70 = g2 70 := fpS_actByHand 68 a1 a2 a3 g2 k3 70 (show 70 ∉ FPdS_actByHand 68 a1 a2 a3 from (by decide : 70 ∉ FPdS_actByHand 68 0 0 0))
      exact ⟨by rw [w1, q1], ph6_fr w1 w70 wb p6, by rw [w37, q37]⟩
  exact rlh_m cs (fkm_act a1 a2 a3 h1 e2) (show 1006 ∉ FKdm_act a1 a2 a3 ∧ 1072 ∉ FKdm_act a1 a2 a3 ∧ 148 ∉ FKdm_act a1 a2 a3 from (by decide : 1006 ∉ FKdm_act 0 0 0 ∧ 1072 ∉ FKdm_act 0 0 0 ∧ 148 ∉ FKdm_act 0 0 0)) r key.1 key.2.1 key.2.2
theorem rh_q31 (p1 : Int32) : ∀ (n : Nat) (v2 v3 : Int32) (h : PH) {r : Int32 × PH}, Inv h → PH6 h → mX_quarters_L31 p1 n v2 v3 h = some r → r.2 1 1 = h 1 1 ∧ PH6 r.2 ∧ r.2 37 1 = h 37 1 := by
  intro n
  induction n with
  | zero => intro v2 v3 h r _ _ e; cases e
  | succ n ih =>
    intro v2 v3 h r i p e
    rw [mX_quarters_L31] at e
    rcases ite_or e with ⟨-, e⟩ | ⟨-, e⟩
    · cases e
      exact ⟨rfl, p, rfl⟩
    · obtain ⟨g2, k2, e⟩ := bd_s e
      obtain ⟨r3, g4, k4, e⟩ := bd2_s e
      obtain ⟨x5, -, e⟩ := lt_some e
      obtain ⟨p6, q1, q37⟩ := keep_h _ h i p k2
      have i2 : Inv g2 := by
        obtain ⟨g, eg, ig⟩ := sf_P_keep 1 (h 16 3) (show R 0 150 (h 16 3) from inv_rng i rfl) ⟨rfl, rfl⟩ i
        rw [k2] at eg
        cases eg
        exact ig
      have i4 : Inv g4 := by
        obtain ⟨g, eg, ig⟩ := sf_S_pass 68 ⟨rfl, rfl⟩ i2
        rw [k4] at eg
        cases eg
        exact ig.2
      obtain ⟨w1, w37, wb⟩ := fh_bor (fhS_pass 68 g2 k4) (show ∀ b, b ∈ FHdS_pass 68 → ¬ (b = 1 ∨ b = 37 ∨ (73 ≤ b ∧ b ≤ 83 ∧ b % 2 = 1)) from by decide)
      have w70 : g4 70 = g2 70 := fpS_pass 68 g2 k4 70 (show 70 ∉ FPdS_pass 68 from by decide)
      have w1 : g4 1 1 = g2 1 1 := w1
      have w37 : g4 37 1 = g2 37 1 := w37
      obtain ⟨z1, z2, z3⟩ := ih x5 (v3 + 1) g4 i4 (ph6_fr w1 w70 wb p6) e
      exact ⟨by rw [z1, w1, q1], z2, by rw [z3, w37, q37]⟩
theorem rh_quarters (a1 : Int32) (h : PH) (i : IM h) (r : RLH h) {rX rm : Int32} {h1 h2 : PH} (e1 : mX_quarters a1 h = some (rX, h1)) (e2 : mm_quarters a1 h1 = some (rm, h2)) (cs : CS h h1 h2) : RLH h2 := by
  have key : h1 1 1 = h 1 1 ∧ PH6 h1 ∧ h1 37 1 = h 37 1 := by
    unfold mX_quarters at e1
    obtain ⟨r1, -, e1⟩ := bd_s e1
    rcases ite_or e1 with ⟨-, e1⟩ | ⟨-, e1⟩
    · cases e1
      exact ⟨rfl, r.2.1, rfl⟩
    · rcases ite_or e1 with ⟨-, e1⟩ | ⟨-, e1⟩
      · exact rh_q31 a1 FU 0 0 h i.1 r.2.1 e1
      · cases e1
        exact ⟨rfl, r.2.1, rfl⟩
  exact rlh_m cs (fkm_quarters a1 h1 e2) (show 1006 ∉ FKdm_quarters a1 ∧ 1072 ∉ FKdm_quarters a1 ∧ 148 ∉ FKdm_quarters a1 from (by decide : 1006 ∉ FKdm_quarters 0 ∧ 1072 ∉ FKdm_quarters 0 ∧ 148 ∉ FKdm_quarters 0)) r key.1 key.2.1 key.2.2
theorem rh_undo (h : PH) (i : IM h) (r : RLH h) {rX rm : Int32} {h1 h2 : PH} (e1 : mX_undo h = some (rX, h1)) (e2 : mm_undo h1 = some (rm, h2)) (cs : CS h h1 h2) : RLH h2 := by
  have key : h1 1 1 = h 1 1 ∧ PH6 h1 ∧ h1 37 1 = h 37 1 := by
    unfold mX_undo at e1
    rcases ite_or e1 with ⟨-, e1⟩ | ⟨nz, e1⟩
    · cases e1
      exact ⟨rfl, r.2.1, rfl⟩
    · obtain ⟨a, a1, a2, ea⟩ := nat_of (show R 0 5 (h 70 2) from inv_rng i.1 rfl) (by decide)
      obtain ⟨m, m1, m2, em⟩ := nat_of (show R 0 6 (h 70 3) from inv_rng i.1 rfl) (by decide)
      have m0 : m ≠ 0 := fun q => nz (by rw [em, q]; rfl)
      obtain ⟨m', rfl⟩ : ∃ m', m = m' + 1 := ⟨m - 1, by omega⟩
      obtain ⟨r1, g2, k2, e1⟩ := bd2_s e1
      obtain ⟨g3, k3, e1⟩ := lt_some e1
      cases e1
      unfold mP_goBack at k2
      have z6 : ∀ {ρ : Type} (k : Option ρ), dz 6 k = k := fun k => dz_nz (by decide)
      have mx : imax 0 (nI (m' + 1) - 1) = nI m' := by
        rw [nI_pred]
        unfold imax
        by_cases c : (0 : Int32) < nI m'
        · rw [if_pos c]
        · rw [if_neg c]
          rw [Int32.lt_iff_toInt_lt, nI_toInt (by omega)] at c
          simp only [show (0 : Int32).toInt = 0 from rfl] at c
          have : m' = 0 := by omega
          rw [this]
          rfl
      have cki : ∀ {ρ : Type} (q : Option ρ), ck (nI ((a + m') % 6)) 6 q = q := fun q => ck_nI (Nat.mod_lt _ (by decide)) (by decide)
      have ixi : ix (nI ((a + m') % 6)) = (a + m') % 6 := nI_clamp (by omega)
      have lt6 : (a + m') % 6 < 6 := Nat.mod_lt _ (by decide)
      rw [lt_e, em, mx, z6, lt_e, up_oj (by decide), up_same, ea, i6a a (by omega) m' (by omega), cki, ixi] at k2
      obtain ⟨g4, q1, q2, q3⟩ := bc_at 1 (73 + 2 * ((a + m') % 6)) (by omega) (by omega) (up h 70 3 (nI m'))
      rw [q1, bd_e, cki] at k2
      cases k2
      have r' : ∀ j, j < m' + 1 → h (73 + 2 * ((a + j) % 6)) 1 = h 1 1 := fun j hj => by
        have := r.2.1 j (by rw [em, nI_toInt m2]; omega)
        rw [ea, show (nI a).toNatClampNeg = a from nI_clamp a2] at this
        exact this
      have e11 : g2 1 1 = h 1 1 := by rw [q3, up_oc (by omega)]; exact r' m' (by omega)
      have e70 : g2 70 = up h 70 3 (nI m') 70 := q2 70 (by decide) (by decide)
      subst k3
      refine ⟨by rw [up_oc (by decide)]; exact e11, fun j hj => ?_, by rw [up_oc (by decide), q2 37 (by decide) (by decide), up_oc (by decide)]⟩
      rw [up_oc (by decide), e70, up_same, nI_toInt (by omega)] at hj
      have w70 : (up g2 16 3 (g2 72 ((a + m') % 6))) 70 2 = nI a := by rw [up_oc (by decide), e70, up_oj (by decide)]; exact ea
      rw [w70, show (nI a).toNatClampNeg = a from nI_clamp a2, up_oc (by omega), up_oc (by omega), e11, q2 _ (by omega) (by omega), up_oc (by omega)]
      exact r' j (by omega)
  exact rlh_m cs (fkm_undo h1 e2) (by decide : 1006 ∉ FKdm_undo ∧ 1072 ∉ FKdm_undo ∧ 148 ∉ FKdm_undo) r key.1 key.2.1 key.2.2
theorem fg_70 {h g : PH} (e : mP_forget h = some g) : g = up h 70 3 0 := by
  unfold mP_forget at e
  rw [lt_e] at e
  cases e
  rfl
theorem rh_state (a1 : Int32) (h : PH) (i : IM h) (r : RLH h) {rX rm : Int32} {h1 h2 : PH} (e1 : mX_state a1 h = some (rX, h1)) (e2 : mm_state a1 h1 = some (rm, h2)) (cs : CS h h1 h2) : RLH h2 := by
  have key : h1 1 1 = h 1 1 ∧ PH6 h1 ∧ h1 37 1 = h 37 1 := by
    unfold mX_state at e1
    rw [lt_e, lt_e] at e1
    obtain ⟨g3, k3, e1⟩ := bd_s e1
    cases e1
    rw [fg_70 k3]
    exact ⟨by rw [up_oc (by decide), up_oj (by decide)], ph6_0 up_same, by rw [up_oc (by decide), up_oc (by decide)]⟩
  exact rlh_m cs (fkm_state a1 h1 e2) (show 1006 ∉ FKdm_state a1 ∧ 1072 ∉ FKdm_state a1 ∧ 148 ∉ FKdm_state a1 from (by decide : 1006 ∉ FKdm_state 0 ∧ 1072 ∉ FKdm_state 0 ∧ 148 ∉ FKdm_state 0)) r key.1 key.2.1 key.2.2
theorem rh_set (a1 a2 a3 : Int32) (h : PH) (i : IM h) (r : RLH h) {rX rm : Int32} {h1 h2 : PH} (e1 : mX_set a1 a2 a3 h = some (rX, h1)) (e2 : mm_set a1 a2 a3 h1 = some (rm, h2)) (cs : CS h h1 h2) : RLH h2 := by
  have key : h1 1 1 = h 1 1 ∧ PH6 h1 ∧ h1 37 1 = h 37 1 := by
    unfold mX_set at e1
    refine v_j1 (fun (g : PH) => g 1 1 = h 1 1 → g 37 1 = h 37 1 → h1 1 1 = h 1 1 ∧ PH6 h1 ∧ h1 37 1 = h 37 1) e1 (fun g e1 q1 q37 => ?_) (fun j1 kj e1 => ?_)
    · obtain ⟨g3, k3, e1⟩ := bd_s e1
      cases e1
      rw [fg_70 k3]
      exact ⟨by rw [up_oc (by decide)]; exact q1, ph6_0 up_same, by rw [up_oc (by decide)]; exact q37⟩
    · rcases ite_or e1 with ⟨-, e1⟩ | ⟨-, e1⟩
      · obtain ⟨r4, -, e1⟩ := bd_s e1
        rcases ite_or e1 with ⟨-, e1⟩ | ⟨-, e1⟩
        · cases e1
          exact ⟨rfl, r.2.1, rfl⟩
        · obtain ⟨g5, k5, e1⟩ := lt_some e1
          exact kj _ e1 (by rw [k5, up_oj (by decide)]) (by rw [k5, up_oc (by decide)])
      · obtain ⟨r6, -, e1⟩ := bd_s e1
        rcases ite_or e1 with ⟨-, e1⟩ | ⟨-, e1⟩
        · cases e1
          exact ⟨rfl, r.2.1, rfl⟩
        · obtain ⟨r7, -, e1⟩ := bd_s e1
          rcases ite_or e1 with ⟨-, e1⟩ | ⟨-, e1⟩
          · cases e1
            exact ⟨rfl, r.2.1, rfl⟩
          · obtain ⟨r8, -, e1⟩ := bd_s e1
            obtain ⟨r9, -, e1⟩ := bd_s e1
            rcases ite_or e1 with ⟨-, e1⟩ | ⟨-, e1⟩
            · cases e1
              exact ⟨rfl, r.2.1, rfl⟩
            · obtain ⟨g10, k10, e1⟩ := bd_s e1
              have f := fpB_write 1 a2 a1 a3 h k10
              exact kj _ e1 (by rw [f 1 (show 1 ∉ FPdB_write 1 a2 a1 a3 from (by decide : 1 ∉ FPdB_write 1 0 0 0))]) (by rw [f 37 (show 37 ∉ FPdB_write 1 a2 a1 a3 from (by decide : 37 ∉ FPdB_write 1 0 0 0))])
  exact rlh_m cs (fkm_set a1 a2 a3 h1 e2) (show 1006 ∉ FKdm_set a1 a2 a3 ∧ 1072 ∉ FKdm_set a1 a2 a3 ∧ 148 ∉ FKdm_set a1 a2 a3 from (by decide : 1006 ∉ FKdm_set 0 0 0 ∧ 1072 ∉ FKdm_set 0 0 0 ∧ 148 ∉ FKdm_set 0 0 0)) r key.1 key.2.1 key.2.2
theorem mh52 (p1 p2 p3 : Int32) (K : PH → Option (Int32 × PH)) (r : Int32 × PH) (Q : Prop) (hK : ∀ g, K g = some r → Q) : ∀ (n : Nat) (v : Int32) (h : PH), mm_house_L52 p1 p2 p3 K n v h = some r → Q := by
  intro n
  induction n with
  | zero => intro v h e; cases e
  | succ n ih =>
    intro v h e
    rw [mm_house_L52] at e
    rcases ite_or e with ⟨-, e⟩ | ⟨-, e⟩
    · exact hK _ e
    · obtain ⟨-, e⟩ := ck_s e
      obtain ⟨h5, -, e⟩ := lt_some e
      exact ih _ _ e
theorem hs_num (a1 a2 a3 : Int32) (h : PH) {r : Int32 × PH} (e : mm_house a1 a2 a3 h = some r) (c : ((0 ≤ a1 ∧ a1 ≤ 99) ∧ (0 ≤ a2 ∧ a2 ≤ 9)) ∧ (0 ≤ a3 ∧ a3 ≤ 9)) (c12 : ¬ h 104 6 = 12) : r.1 = r.2 104 6 - 1 := by
  have z01 : ¬ (1 : Int32) = 0 := by decide
  unfold mm_house at e
  rw [lt_e, isIn_y c.1.1, bd_e, if_neg z01, isIn_y c.1.2, bd_e, if_neg z01, isIn_y c.2, bd_e, if_neg z01, if_neg (by rw [up_oj (by decide)]; exact c12)] at e
  refine mh52 a1 a2 a3 _ r _ (fun g e => ?_) FU 0 _ e
  obtain ⟨-, e⟩ := ck_s e
  obtain ⟨h7, -, e⟩ := lt_some e
  obtain ⟨-, e⟩ := ck_s e
  obtain ⟨h8, -, e⟩ := lt_some e
  obtain ⟨-, e⟩ := ck_s e
  obtain ⟨h9, -, e⟩ := lt_some e
  obtain ⟨-, e⟩ := ck_s e
  obtain ⟨h10, -, e⟩ := lt_some e
  obtain ⟨-, e⟩ := ck_s e
  obtain ⟨h11, -, e⟩ := lt_some e
  obtain ⟨-, e⟩ := ck_s e
  obtain ⟨h12, -, e⟩ := lt_some e
  obtain ⟨-, e⟩ := ck_s e
  obtain ⟨h13, -, e⟩ := lt_some e
  obtain ⟨h14, -, e⟩ := lt_some e
  obtain ⟨h15, -, e⟩ := lt_some e
  cases e
  rfl
theorem house_both (a1 a2 a3 : Int32) (h : PH) (i : IM h) (r : RLH h) {rX rm : Int32} {h1 h2 : PH} (e1 : mX_house a1 a2 a3 h = some (rX, h1)) (e2 : mm_house a1 a2 a3 h1 = some (rm, h2)) (cs : CS h h1 h2) : rX = rm ∧ RLH h2 := by
  have z01 : ¬ (1 : Int32) = 0 := by decide
  obtain ⟨n, n1, n2, en⟩ := nat_of (show R 0 12 (h 1 1) from inv_rng i.1 rfl) (by decide)
  have x := cs.2.2.2.1
  have s := cs.2.2.2.2
  have em : h1 104 6 = nI n := by rw [x 104 (by decide), ← r.1]; exact en
  have f2 := fkm_house a1 a2 a3 h1 e2
  have kn : ∀ b j, b ≠ 104 → kk b j = b := fun b j hb => by unfold kk; rw [if_neg hb]
  have m72 : h2 104 72 = h 104 72 := by rw [← x 104 (by decide)]; exact f2 104 72 (show 1072 ∉ FKdm_house a1 a2 a3 from (by decide : 1072 ∉ FKdm_house 0 0 0))
  have m148 : h2 148 = h 148 := by
    rw [← x 148 (by decide)]
    funext j
    exact f2 148 j (by rw [kn 148 j (by decide)]; exact (by decide : 148 ∉ FKdm_house 0 0 0))
  have none_ : rX = -1 → h1 = h → rm = -1 → h2 104 6 = h1 104 6 → rX = rm ∧ RLH h2 := fun q1 q2 q3 q4 => by
    refine ⟨by rw [q1, q3], ?_⟩
    subst q2
    refine ⟨by rw [s 1 (by decide), q4]; exact r.1, ph6_fr (by rw [s 1 (by decide)]) (s 70 (by decide)) (fun k hk => by rw [s (73 + 2 * k) (by omega)]) r.2.1, fun q => ?_⟩
    rw [m72] at q
    rw [s 37 (by decide), m148]
    exact r.2.2 q
  by_cases c : ((0 ≤ a1 ∧ a1 ≤ 99) ∧ (0 ≤ a2 ∧ a2 ≤ 9)) ∧ (0 ≤ a3 ∧ a3 ≤ 9)
  · by_cases c12 : n < 12
    · have n12 : ¬ nI n = 12 := fun q => by
        have : (nI n).toInt = 12 := by rw [q]; rfl
        rw [nI_toInt n2] at this
        omega
      unfold mX_house at e1
      rw [within_y c.1.1, bd_e, jn1_e, if_neg z01, within_y c.1.2, bd_e, if_neg z01, within_y c.2, bd_e, if_neg z01] at e1
      dsimp only at e1
      rw [if_neg z01, en, if_pos (show nI n < 12 from nI_lt (b := 12) c12 (by decide))] at e1
      obtain ⟨g4, k4, e1⟩ := bd_s e1
      rw [fg_70 k4] at e1
      obtain ⟨g6, q1, q2, q3, q4⟩ := bu_at 1 n c12 a1 a2 a3 (up h 70 3 0) (by rw [up_oc (by decide)]; exact en)
      rw [q1, bd2_e] at e1
      cases e1
      have nm := hs_num a1 a2 a3 h1 e2 c (by rw [em]; exact n12)
      obtain ⟨g', w⟩ := mh_at n c12 a1 a2 a3 c.1.1 c.1.2 c.2 h1 em
      rw [w] at e2
      cases e2
      have e6 : h2 104 6 = nI (n + 1) := by
        have nm : nI n = h2 104 6 - 1 := nm
        rw [← nI_1, nm, Int32.sub_add_cancel]
      refine ⟨rfl, by rw [s 1 (by decide), q2, e6], ph6_0 ?_, fun q => ?_⟩
      · rw [s 70 (by decide), q3 70 (by decide) (by decide), up_same]
      · rw [m72] at q
        rw [s 37 (by decide), q3 37 (by decide) (by decide), up_oc (by decide), m148]
        exact r.2.2 q
    · have e12 : nI n = 12 := by rw [show n = 12 by omega]; rfl
      unfold mX_house at e1
      rw [within_y c.1.1, bd_e, jn1_e, if_neg z01, within_y c.1.2, bd_e, if_neg z01, within_y c.2, bd_e, if_neg z01] at e1
      dsimp only at e1
      rw [if_neg z01, en, if_neg (by rw [e12]; decide)] at e1
      unfold mm_house at e2
      rw [lt_e, isIn_y c.1.1, bd_e, if_neg z01, isIn_y c.1.2, bd_e, if_neg z01, isIn_y c.2, bd_e, if_neg z01, if_pos (by rw [up_oj (by decide), em]; exact e12)] at e2
      cases e1
      cases e2
      exact none_ rfl rfl rfl (up_oj (by decide))
  · have x0 : rX = -1 ∧ h1 = h := by
      unfold mX_house at e1
      by_cases c1 : 0 ≤ a1 ∧ a1 ≤ 99
      · rw [within_y c1, bd_e, jn1_e, if_neg z01] at e1
        by_cases c2 : 0 ≤ a2 ∧ a2 ≤ 9
        · rw [within_y c2, bd_e, if_neg z01] at e1
          have c3 : ¬ (0 ≤ a3 ∧ a3 ≤ 9) := fun q => c ⟨⟨c1, c2⟩, q⟩
          rw [within_n c3, bd_e, if_pos rfl] at e1
          dsimp only at e1
          rw [if_pos rfl] at e1
          cases e1
          exact ⟨rfl, rfl⟩
        · rw [within_n c2, bd_e, if_pos rfl] at e1
          dsimp only at e1
          rw [if_pos rfl] at e1
          cases e1
          exact ⟨rfl, rfl⟩
      · rw [within_n c1, bd_e, jn1_e, if_pos rfl] at e1
        dsimp only at e1
        rw [if_pos rfl] at e1
        cases e1
        exact ⟨rfl, rfl⟩
    have y0 : rm = -1 ∧ h2 = up h1 104 0 0 := by
      unfold mm_house at e2
      rw [lt_e] at e2
      by_cases c1 : 0 ≤ a1 ∧ a1 ≤ 99
      · rw [isIn_y c1, bd_e, if_neg z01] at e2
        by_cases c2 : 0 ≤ a2 ∧ a2 ≤ 9
        · rw [isIn_y c2, bd_e, if_neg z01] at e2
          have c3 : ¬ (0 ≤ a3 ∧ a3 ≤ 9) := fun q => c ⟨⟨c1, c2⟩, q⟩
          rw [isIn_n c3, bd_e, if_pos rfl] at e2
          cases e2
          exact ⟨rfl, rfl⟩
        · rw [isIn_n c2, bd_e, if_pos rfl] at e2
          cases e2
          exact ⟨rfl, rfl⟩
      · rw [isIn_n c1, bd_e, if_pos rfl] at e2
        cases e2
        exact ⟨rfl, rfl⟩
    exact none_ x0.1 x0.2 y0.1 (by rw [y0.2, up_oj (by decide)])
theorem rh_house (a1 a2 a3 : Int32) (h : PH) (i : IM h) (r : RLH h) {rX rm : Int32} {h1 h2 : PH} (e1 : mX_house a1 a2 a3 h = some (rX, h1)) (e2 : mm_house a1 a2 a3 h1 = some (rm, h2)) (cs : CS h h1 h2) : RLH h2 := (house_both a1 a2 a3 h i r e1 e2 cs).2
theorem xtext70 (p : Int32) (h : PH) {r : Int32 × PH} (e : mX_text p h = some r) : r.2 70 3 = 0 ∨ r.2 70 = h 70 := by
  unfold mX_text at e
  obtain ⟨h1, k1, e⟩ := bd_s e
  have f1 : h1 70 = h 70 := fpD_forgetFault h k1 70 (by decide : 70 ∉ FPdD_forgetFault)
  obtain ⟨r2, -, e⟩ := bd_s e
  refine v_j2 (fun (x : Int32) (g : PH) => g 70 = h 70 → r.2 70 3 = 0 ∨ r.2 70 = h 70) e (fun x4 h5 e q => ?_) (fun j3 kj e => ?_)
  · obtain ⟨h6, e6, e⟩ := lt_some e
    have z : h6 70 = h 70 := by rw [e6, up_cell (by decide)]; exact q
    rcases ite_or e with ⟨-, e⟩ | ⟨-, e⟩
    · cases e
      exact Or.inr z
    · obtain ⟨r7, h8, e8, e⟩ := bd2_s e
      cases e
      show h8 70 3 = 0 ∨ h8 70 = h 70
      unfold mX_keepText at e8
      rcases ite_or e8 with ⟨-, e8⟩ | ⟨-, e8⟩
      · obtain ⟨a, k, e8⟩ := bd_s e8
        obtain ⟨b, k2, e8⟩ := bd_s e8
        cases e8
        right
        rw [fpR_copyFrom 8 93 a k2 70 (by decide), fpR_copyFrom 6 91 h6 k 70 (by decide)]
        exact z
      · rcases ite_or e8 with ⟨-, e8⟩ | ⟨-, e8⟩
        · obtain ⟨a, k, e8⟩ := bd_s e8
          obtain ⟨b, k2, e8⟩ := bd_s e8
          cases e8
          left
          rw [fg_70 k2, up_same]
        · rcases ite_or e8 with ⟨-, e8⟩ | ⟨-, e8⟩
          · obtain ⟨a, k, e8⟩ := bd_s e8
            obtain ⟨b, k2, e8⟩ := bd_s e8
            cases e8
            left
            rw [fg_70 k2, up_same]
          · obtain ⟨a, k, e8⟩ := bd_s e8
            cases e8
            right
            rw [fpR_copyFrom 14 91 h6 k 70 (by decide)]
            exact z
  · rcases ite_or e with ⟨-, e⟩ | ⟨-, e⟩
    · exact kj _ _ e f1
    · obtain ⟨r9, h10, k10, e⟩ := bd2_s e
      have f10 : h10 70 = h 70 := by
        rw [← f1]
        exact fpD_reads p (h1 1 1) h1 k10 70 (show 70 ∉ FPdD_reads p (h1 1 1) from (by decide : 70 ∉ FPdD_reads 0 0))
      rcases ite_or e with ⟨-, e⟩ | ⟨-, e⟩
      · exact kj _ _ e f10
      · exact kj _ _ e f10
theorem rh_text (a1 : Int32) (h : PH) (i : IM h) (r : RLH h) {rX rm : Int32} {h1 h2 : PH} (e1 : mX_text a1 h = some (rX, h1)) (e2 : mm_text a1 h1 = some (rm, h2)) (cs : CS h h1 h2) : RLH h2 := by
  have f1 := fpX_text a1 h e1
  have g : ∀ b, b = 1 ∨ b = 37 ∨ (73 ≤ b ∧ b ≤ 83) → h1 b = h b := fun b hb => f1 b (show b ∉ FPdX_text a1 from fun q => by
    have : ∀ b, b ∈ FPdX_text 0 → ¬ (b = 1 ∨ b = 37 ∨ (73 ≤ b ∧ b ≤ 83)) := by decide
    exact this b q hb)
  refine rlh_m cs (fkm_text a1 h1 e2) (show 1006 ∉ FKdm_text a1 ∧ 1072 ∉ FKdm_text a1 ∧ 148 ∉ FKdm_text a1 from (by decide : 1006 ∉ FKdm_text 0 ∧ 1072 ∉ FKdm_text 0 ∧ 148 ∉ FKdm_text 0)) r (by rw [g 1 (by omega)]) ?_ (by rw [g 37 (by omega)])
  rcases xtext70 a1 h e1 with q | q
  · exact ph6_0 q
  · exact ph6_fr (by rw [g 1 (by omega)]) q (fun k hk => by rw [g (73 + 2 * k) (by omega)]) r.2.1
theorem rh_image (a1 : Int32) (h : PH) (i : IM h) (rl : RLA h) (r : RLH h) {rX rm : Int32} {h1 h2 : PH} (e1 : mX_image (if a1 = 0 then 0 else 1) h = some (rX, h1)) (e2 : mm_image (if a1 = 0 then 0 else 1) h1 = some (rm, h2)) (cs : CS h h1 h2) : RLH h2 := by
  have x104 := cs.2.2.2.1
  have s104 := cs.2.2.2.2
  by_cases c : a1 = 0
  · rw [if_pos c] at e1 e2
    by_cases cz : h 0 13 = 0
    · unfold mX_image at e1
      rw [if_pos rfl, if_pos cz] at e1
      cases e1
      unfold mm_image at e2
      rw [lt_e, jn0_e, if_pos rfl, if_pos (by rw [up_oj (by decide), ← rl.2.2.1]; exact cz)] at e2
      cases e2
      exact rlh_fr (fun b hb => up_cell (by omega)) (up_oj (by decide)) (up_oj (by decide)) (up_cell (by decide)) r
    · have nz : ¬ h 104 72 = 0 := by rw [← rl.2.2.1]; exact cz
      obtain ⟨g, eg, -, t3, -, t5, t6, t7⟩ := xi_back h i.1 cz
      rw [eg] at e1
      cases e1
      obtain ⟨g', eg', g72, -, u⟩ := kc_image 0 (Or.inl rfl) h1 (Or.inr (by rw [x104 104 (by decide)]; exact nz))
      rw [eg'] at e2
      cases e2
      obtain ⟨u1, u2, -⟩ := u rfl
      have m6 : h2 104 6 = h 148 115 := by have := u1 115 (by decide); rw [x104 148 (by decide)] at this; exact this
      refine ⟨by rw [s104 1 (by decide), t3 1 (by decide) (by decide), m6]; exact r.2.2 nz, ph6_0 (by rw [s104 70 (by decide)]; exact t7), fun _ => ?_⟩
      rw [s104 37 (by decide), t5 37 (by decide) (by decide), u2, x104 148 (by decide)]
      exact r.2.2 nz
  · rw [if_neg c] at e1 e2
    obtain ⟨g, eg, -, t3, -, t5, -⟩ := xi_take 1 (by decide) h i.1
    rw [eg] at e1
    cases e1
    obtain ⟨g', eg', g72, u, -⟩ := kc_image 1 (Or.inr rfl) h1 (Or.inl rfl)
    rw [eg'] at e2
    cases e2
    obtain ⟨u1, u2⟩ := u rfl
    have m6 : h2 104 6 = h 104 6 := by rw [← x104 104 (by decide)]; exact u2 104 6 (by decide) (fun _ => by decide)
    have m115 : h2 148 115 = h 104 6 := by have := u1 115 (by decide); rw [this]; exact congrFun (x104 104 (by decide)) 6
    have ec : ∀ b, b = 1 ∨ b = 70 ∨ (73 ≤ b ∧ b ≤ 83) → h2 b = h b := fun b hb => by rw [s104 b (by omega), t5 b (by omega) (by omega)]
    refine ⟨by rw [ec 1 (by omega), m6]; exact r.1, ph6_fr (by rw [ec 1 (by omega)]) (ec 70 (by omega)) (fun k hk => by rw [ec (73 + 2 * k) (by omega)]) r.2.1, fun _ => ?_⟩
    rw [s104 37 (by decide), t3 1 (by decide) (by decide), m115]
    exact r.1
theorem rh_feed (a1 a2 a3 a4 a5 : Int32) (h : PH) (r : RLH h) {rX rm : Int32} {h1 h2 : PH} (e1 : mX_feed a1 a2 a3 a4 a5 h = some (rX, h1)) (e2 : mm_feed a1 a2 a3 a4 a5 h1 = some (rm, h2)) : RLH h2 := rlh_cs (fpX_feed a1 a2 a3 a4 a5 h e1) (fkm_feed a1 a2 a3 a4 a5 h1 e2) (by decide : ∀ b, b ∈ FPdX_feed 0 0 0 0 0 → ¬ (b = 1 ∨ b = 37 ∨ b = 70 ∨ (73 ≤ b ∧ b ≤ 83))) (by decide : 1006 ∉ FKdm_feed 0 0 0 0 0 ∧ 1072 ∉ FKdm_feed 0 0 0 0 0 ∧ 148 ∉ FKdm_feed 0 0 0 0 0) (by decide : ∀ b, b ∈ FPdX_feed 0 0 0 0 0 → b < 104) (by decide : ∀ b, b ∈ FKdm_feed 0 0 0 0 0 → 104 ≤ b) r
theorem rh_end (a1 : Int32) (h : PH) (r : RLH h) {rX rm : Int32} {h1 h2 : PH} (e1 : mX_end a1 h = some (rX, h1)) (e2 : mm_end a1 h1 = some (rm, h2)) : RLH h2 := rlh_cs (fpX_end a1 h e1) (fkm_end a1 h1 e2) (by decide : ∀ b, b ∈ FPdX_end 0 → ¬ (b = 1 ∨ b = 37 ∨ b = 70 ∨ (73 ≤ b ∧ b ≤ 83))) (by decide : 1006 ∉ FKdm_end 0 ∧ 1072 ∉ FKdm_end 0 ∧ 148 ∉ FKdm_end 0) (by decide : ∀ b, b ∈ FPdX_end 0 → b < 104) (by decide : ∀ b, b ∈ FKdm_end 0 → 104 ≤ b) r
theorem rh_fault (a1 : Int32) (h : PH) (r : RLH h) {rm : Int32} {h2 : PH} (e2 : mm_fault a1 h = some (rm, h2)) : RLH h2 := rlh_cs (S := []) (fun _ _ => rfl) (fkm_fault a1 h e2) (by decide) (by decide : 1006 ∉ FKdm_fault 0 ∧ 1072 ∉ FKdm_fault 0 ∧ 148 ∉ FKdm_fault 0) (by decide) (by decide : ∀ b, b ∈ FKdm_fault 0 → 104 ≤ b) r
theorem rh_of (a1 a2 : Int32) (h : PH) (r : RLH h) {rX rm : Int32} {h1 h2 : PH} (e1 : mX_of a1 a2 h = some (rX, h1)) (e2 : mm_of a1 a2 h1 = some (rm, h2)) : RLH h2 := rlh_cs (fpX_of a1 a2 h e1) (fkm_of a1 a2 h1 e2) (by decide : ∀ b, b ∈ FPdX_of 0 0 → ¬ (b = 1 ∨ b = 37 ∨ b = 70 ∨ (73 ≤ b ∧ b ≤ 83))) (by decide : 1006 ∉ FKdm_of 0 0 ∧ 1072 ∉ FKdm_of 0 0 ∧ 148 ∉ FKdm_of 0 0) (by decide : ∀ b, b ∈ FPdX_of 0 0 → b < 104) (by decide : ∀ b, b ∈ FKdm_of 0 0 → 104 ≤ b) r
theorem rh_book (a1 a2 : Int32) (h : PH) (r : RLH h) {rm : Int32} {h2 : PH} (e2 : mm_book a1 a2 h = some (rm, h2)) : RLH h2 := rlh_cs (S := []) (fun _ _ => rfl) (fkm_book a1 a2 h e2) (by decide) (by decide : 1006 ∉ FKdm_book 0 0 ∧ 1072 ∉ FKdm_book 0 0 ∧ 148 ∉ FKdm_book 0 0) (by decide) (by decide : ∀ b, b ∈ FKdm_book 0 0 → 104 ≤ b) r
theorem rh_goes (a1 a2 : Int32) (h : PH) (r : RLH h) {rX rm : Int32} {h1 h2 : PH} (e1 : mX_goes a1 a2 h = some (rX, h1)) (e2 : mm_goes a1 a2 h1 = some (rm, h2)) : RLH h2 := rlh_cs (fpX_goes a1 a2 h e1) (fkm_goes a1 a2 h1 e2) (by decide : ∀ b, b ∈ FPdX_goes 0 0 → ¬ (b = 1 ∨ b = 37 ∨ b = 70 ∨ (73 ≤ b ∧ b ≤ 83))) (by decide : 1006 ∉ FKdm_goes 0 0 ∧ 1072 ∉ FKdm_goes 0 0 ∧ 148 ∉ FKdm_goes 0 0) (by decide : ∀ b, b ∈ FPdX_goes 0 0 → b < 104) (by decide : ∀ b, b ∈ FKdm_goes 0 0 → 104 ≤ b) r
theorem rh_stands (a1 : Int32) (h : PH) (r : RLH h) {rX rm : Int32} {h1 h2 : PH} (e1 : mX_stands a1 h = some (rX, h1)) (e2 : mm_stands a1 h1 = some (rm, h2)) : RLH h2 := rlh_cs (fpX_stands a1 h e1) (fkm_stands a1 h1 e2) (by decide : ∀ b, b ∈ FPdX_stands 0 → ¬ (b = 1 ∨ b = 37 ∨ b = 70 ∨ (73 ≤ b ∧ b ≤ 83))) (by decide : 1006 ∉ FKdm_stands 0 ∧ 1072 ∉ FKdm_stands 0 ∧ 148 ∉ FKdm_stands 0) (by decide : ∀ b, b ∈ FPdX_stands 0 → b < 104) (by decide : ∀ b, b ∈ FKdm_stands 0 → 104 ≤ b) r
theorem rh_hears (a1 a2 : Int32) (h : PH) (r : RLH h) {rX rm : Int32} {h1 h2 : PH} (e1 : mX_hears a1 a2 h = some (rX, h1)) (e2 : mm_hears a1 a2 h1 = some (rm, h2)) : RLH h2 := rlh_cs (fpX_hears a1 a2 h e1) (fkm_hears a1 a2 h1 e2) (by decide : ∀ b, b ∈ FPdX_hears 0 0 → ¬ (b = 1 ∨ b = 37 ∨ b = 70 ∨ (73 ≤ b ∧ b ≤ 83))) (by decide : 1006 ∉ FKdm_hears 0 0 ∧ 1072 ∉ FKdm_hears 0 0 ∧ 148 ∉ FKdm_hears 0 0) (by decide : ∀ b, b ∈ FPdX_hears 0 0 → b < 104) (by decide : ∀ b, b ∈ FKdm_hears 0 0 → 104 ≤ b) r
theorem rh_heard (a1 a2 : Int32) (h : PH) (r : RLH h) {rX rm : Int32} {h1 h2 : PH} (e1 : mX_heard a1 a2 h = some (rX, h1)) (e2 : mm_heard a1 a2 h1 = some (rm, h2)) : RLH h2 := rlh_cs (fpX_heard a1 a2 h e1) (fkm_heard a1 a2 h1 e2) (by decide : ∀ b, b ∈ FPdX_heard 0 0 → ¬ (b = 1 ∨ b = 37 ∨ b = 70 ∨ (73 ≤ b ∧ b ≤ 83))) (by decide : 1006 ∉ FKdm_heard 0 0 ∧ 1072 ∉ FKdm_heard 0 0 ∧ 148 ∉ FKdm_heard 0 0) (by decide : ∀ b, b ∈ FPdX_heard 0 0 → b < 104) (by decide : ∀ b, b ∈ FKdm_heard 0 0 → 104 ≤ b) r
theorem rh_ants (a1 a2 : Int32) (h : PH) (r : RLH h) {rX rm : Int32} {h1 h2 : PH} (e1 : mX_ants a1 a2 h = some (rX, h1)) (e2 : mm_ants a1 a2 h1 = some (rm, h2)) : RLH h2 := rlh_cs (fpX_ants a1 a2 h e1) (fkm_ants a1 a2 h1 e2) (by decide : ∀ b, b ∈ FPdX_ants 0 0 → ¬ (b = 1 ∨ b = 37 ∨ b = 70 ∨ (73 ≤ b ∧ b ≤ 83))) (by decide : 1006 ∉ FKdm_ants 0 0 ∧ 1072 ∉ FKdm_ants 0 0 ∧ 148 ∉ FKdm_ants 0 0) (by decide : ∀ b, b ∈ FPdX_ants 0 0 → b < 104) (by decide : ∀ b, b ∈ FKdm_ants 0 0 → 104 ≤ b) r
theorem rh_piece (a1 : Int32) (h : PH) (r : RLH h) {rX rm : Int32} {h1 h2 : PH} (e1 : mX_piece a1 h = some (rX, h1)) (e2 : mm_piece a1 h1 = some (rm, h2)) : RLH h2 := rlh_cs (fpX_piece a1 h e1) (fkm_piece a1 h1 e2) (by decide : ∀ b, b ∈ FPdX_piece 0 → ¬ (b = 1 ∨ b = 37 ∨ b = 70 ∨ (73 ≤ b ∧ b ≤ 83))) (by decide : 1006 ∉ FKdm_piece 0 ∧ 1072 ∉ FKdm_piece 0 ∧ 148 ∉ FKdm_piece 0) (by decide : ∀ b, b ∈ FPdX_piece 0 → b < 104) (by decide : ∀ b, b ∈ FKdm_piece 0 → 104 ≤ b) r
theorem rh_plate (a1 a2 : Int32) (h : PH) (r : RLH h) {rm : Int32} {h2 : PH} (e2 : mm_plate a1 a2 h = some (rm, h2)) : RLH h2 := rlh_cs (S := []) (fun _ _ => rfl) (fkm_plate a1 a2 h e2) (by decide) (by decide : 1006 ∉ FKdm_plate 0 0 ∧ 1072 ∉ FKdm_plate 0 0 ∧ 148 ∉ FKdm_plate 0 0) (by decide) (by decide : ∀ b, b ∈ FKdm_plate 0 0 → 104 ≤ b) r
theorem rh_dough (a1 : Int32) (h : PH) (r : RLH h) {rX rm : Int32} {h1 h2 : PH} (e1 : mX_dough a1 h = some (rX, h1)) (e2 : mm_dough a1 h1 = some (rm, h2)) : RLH h2 := rlh_cs (fpX_dough a1 h e1) (fkm_dough a1 h1 e2) (by decide : ∀ b, b ∈ FPdX_dough 0 → ¬ (b = 1 ∨ b = 37 ∨ b = 70 ∨ (73 ≤ b ∧ b ≤ 83))) (by decide : 1006 ∉ FKdm_dough 0 ∧ 1072 ∉ FKdm_dough 0 ∧ 148 ∉ FKdm_dough 0) (by decide : ∀ b, b ∈ FPdX_dough 0 → b < 104) (by decide : ∀ b, b ∈ FKdm_dough 0 → 104 ≤ b) r
theorem rh_pans (a1 a2 : Int32) (h : PH) (r : RLH h) {rX rm : Int32} {h1 h2 : PH} (e1 : mX_pans a1 a2 h = some (rX, h1)) (e2 : mm_pans a1 a2 h1 = some (rm, h2)) : RLH h2 := rlh_cs (fpX_pans a1 a2 h e1) (fkm_pans a1 a2 h1 e2) (by decide : ∀ b, b ∈ FPdX_pans 0 0 → ¬ (b = 1 ∨ b = 37 ∨ b = 70 ∨ (73 ≤ b ∧ b ≤ 83))) (by decide : 1006 ∉ FKdm_pans 0 0 ∧ 1072 ∉ FKdm_pans 0 0 ∧ 148 ∉ FKdm_pans 0 0) (by decide : ∀ b, b ∈ FPdX_pans 0 0 → b < 104) (by decide : ∀ b, b ∈ FKdm_pans 0 0 → 104 ≤ b) r
theorem rh_mortgage (a1 a2 a3 a4 : Int32) (h : PH) (r : RLH h) {rm : Int32} {h2 : PH} (e2 : mm_mortgage a1 a2 a3 a4 h = some (rm, h2)) : RLH h2 := rlh_cs (S := []) (fun _ _ => rfl) (fkm_mortgage a1 a2 a3 a4 h e2) (by decide) (by decide : 1006 ∉ FKdm_mortgage 0 0 0 0 ∧ 1072 ∉ FKdm_mortgage 0 0 0 0 ∧ 148 ∉ FKdm_mortgage 0 0 0 0) (by decide) (by decide : ∀ b, b ∈ FKdm_mortgage 0 0 0 0 → 104 ≤ b) r
theorem rh_mark (a1 : Int32) (h : PH) (r : RLH h) {rX rm : Int32} {h1 h2 : PH} (e1 : mX_mark a1 h = some (rX, h1)) (e2 : mm_mark a1 h1 = some (rm, h2)) : RLH h2 := rlh_cs (fpX_mark a1 h e1) (fkm_mark a1 h1 e2) (by decide : ∀ b, b ∈ FPdX_mark 0 → ¬ (b = 1 ∨ b = 37 ∨ b = 70 ∨ (73 ≤ b ∧ b ≤ 83))) (by decide : 1006 ∉ FKdm_mark 0 ∧ 1072 ∉ FKdm_mark 0 ∧ 148 ∉ FKdm_mark 0) (by decide : ∀ b, b ∈ FPdX_mark 0 → b < 104) (by decide : ∀ b, b ∈ FKdm_mark 0 → 104 ≤ b) r
theorem rh_measures (a1 : Int32) (h : PH) (r : RLH h) {rm : Int32} {h2 : PH} (e2 : mm_measures a1 h = some (rm, h2)) : RLH h2 := rlh_cs (S := []) (fun _ _ => rfl) (fkm_measures a1 h e2) (by decide) (by decide : 1006 ∉ FKdm_measures 0 ∧ 1072 ∉ FKdm_measures 0 ∧ 148 ∉ FKdm_measures 0) (by decide) (by decide : ∀ b, b ∈ FKdm_measures 0 → 104 ≤ b) r
theorem rh_bite (a1 a2 : Int32) (h : PH) (r : RLH h) {rX rm : Int32} {h1 h2 : PH} (e1 : mX_bite a1 a2 h = some (rX, h1)) (e2 : mm_bite a1 a2 h1 = some (rm, h2)) : RLH h2 := rlh_cs (fpX_bite a1 a2 h e1) (fkm_bite a1 a2 h1 e2) (by decide : ∀ b, b ∈ FPdX_bite 0 0 → ¬ (b = 1 ∨ b = 37 ∨ b = 70 ∨ (73 ≤ b ∧ b ≤ 83))) (by decide : 1006 ∉ FKdm_bite 0 0 ∧ 1072 ∉ FKdm_bite 0 0 ∧ 148 ∉ FKdm_bite 0 0) (by decide : ∀ b, b ∈ FPdX_bite 0 0 → b < 104) (by decide : ∀ b, b ∈ FKdm_bite 0 0 → 104 ≤ b) r
theorem rh_whose (a1 a2 : Int32) (h : PH) (r : RLH h) {rm : Int32} {h2 : PH} (e2 : mm_whose a1 a2 h = some (rm, h2)) : RLH h2 := rlh_cs (S := []) (fun _ _ => rfl) (fkm_whose a1 a2 h e2) (by decide) (by decide : 1006 ∉ FKdm_whose 0 0 ∧ 1072 ∉ FKdm_whose 0 0 ∧ 148 ∉ FKdm_whose 0 0) (by decide) (by decide : ∀ b, b ∈ FKdm_whose 0 0 → 104 ≤ b) r
theorem rh_crumb (a1 : Int32) (h : PH) (r : RLH h) {rX rm : Int32} {h1 h2 : PH} (e1 : mX_crumb a1 h = some (rX, h1)) (e2 : mm_crumb a1 h1 = some (rm, h2)) : RLH h2 := rlh_cs (fpX_crumb a1 h e1) (fkm_crumb a1 h1 e2) (by decide : ∀ b, b ∈ FPdX_crumb 0 → ¬ (b = 1 ∨ b = 37 ∨ b = 70 ∨ (73 ≤ b ∧ b ≤ 83))) (by decide : 1006 ∉ FKdm_crumb 0 ∧ 1072 ∉ FKdm_crumb 0 ∧ 148 ∉ FKdm_crumb 0) (by decide : ∀ b, b ∈ FPdX_crumb 0 → b < 104) (by decide : ∀ b, b ∈ FKdm_crumb 0 → 104 ≤ b) r
theorem rh_crumbs (a1 : Int32) (h : PH) (r : RLH h) {rX rm : Int32} {h1 h2 : PH} (e1 : mX_crumbs a1 h = some (rX, h1)) (e2 : mm_crumbs a1 h1 = some (rm, h2)) : RLH h2 := rlh_cs (fpX_crumbs a1 h e1) (fkm_crumbs a1 h1 e2) (by decide : ∀ b, b ∈ FPdX_crumbs 0 → ¬ (b = 1 ∨ b = 37 ∨ b = 70 ∨ (73 ≤ b ∧ b ≤ 83))) (by decide : 1006 ∉ FKdm_crumbs 0 ∧ 1072 ∉ FKdm_crumbs 0 ∧ 148 ∉ FKdm_crumbs 0) (by decide : ∀ b, b ∈ FPdX_crumbs 0 → b < 104) (by decide : ∀ b, b ∈ FKdm_crumbs 0 → 104 ≤ b) r
theorem rh_loaf (a1 a2 : Int32) (h : PH) (r : RLH h) {rX rm : Int32} {h1 h2 : PH} (e1 : mX_loaf a1 a2 h = some (rX, h1)) (e2 : mm_loaf a1 a2 h1 = some (rm, h2)) : RLH h2 := rlh_cs (fpX_loaf a1 a2 h e1) (fkm_loaf a1 a2 h1 e2) (by decide : ∀ b, b ∈ FPdX_loaf 0 0 → ¬ (b = 1 ∨ b = 37 ∨ b = 70 ∨ (73 ≤ b ∧ b ≤ 83))) (by decide : 1006 ∉ FKdm_loaf 0 0 ∧ 1072 ∉ FKdm_loaf 0 0 ∧ 148 ∉ FKdm_loaf 0 0) (by decide : ∀ b, b ∈ FPdX_loaf 0 0 → b < 104) (by decide : ∀ b, b ∈ FKdm_loaf 0 0 → 104 ≤ b) r
theorem rh_ovens (a1 : Int32) (h : PH) (r : RLH h) {rm : Int32} {h2 : PH} (e2 : mm_ovens a1 h = some (rm, h2)) : RLH h2 := rlh_cs (S := []) (fun _ _ => rfl) (fkm_ovens a1 h e2) (by decide) (by decide : 1006 ∉ FKdm_ovens 0 ∧ 1072 ∉ FKdm_ovens 0 ∧ 148 ∉ FKdm_ovens 0) (by decide) (by decide : ∀ b, b ∈ FKdm_ovens 0 → 104 ≤ b) r
theorem rh_alone (a1 : Int32) (h : PH) (r : RLH h) {rX rm : Int32} {h1 h2 : PH} (e1 : mX_alone a1 h = some (rX, h1)) (e2 : mm_alone a1 h1 = some (rm, h2)) : RLH h2 := rlh_cs (fpX_alone a1 h e1) (fkm_alone a1 h1 e2) (by decide : ∀ b, b ∈ FPdX_alone 0 → ¬ (b = 1 ∨ b = 37 ∨ b = 70 ∨ (73 ≤ b ∧ b ≤ 83))) (by decide : 1006 ∉ FKdm_alone 0 ∧ 1072 ∉ FKdm_alone 0 ∧ 148 ∉ FKdm_alone 0) (by decide : ∀ b, b ∈ FPdX_alone 0 → b < 104) (by decide : ∀ b, b ∈ FKdm_alone 0 → 104 ≤ b) r
theorem rh_heir (a1 a2 : Int32) (h : PH) (r : RLH h) {rX rm : Int32} {h1 h2 : PH} (e1 : mX_heir a1 a2 h = some (rX, h1)) (e2 : mm_heir a1 a2 h1 = some (rm, h2)) : RLH h2 := rlh_cs (fpX_heir a1 a2 h e1) (fkm_heir a1 a2 h1 e2) (by decide : ∀ b, b ∈ FPdX_heir 0 0 → ¬ (b = 1 ∨ b = 37 ∨ b = 70 ∨ (73 ≤ b ∧ b ≤ 83))) (by decide : 1006 ∉ FKdm_heir 0 0 ∧ 1072 ∉ FKdm_heir 0 0 ∧ 148 ∉ FKdm_heir 0 0) (by decide : ∀ b, b ∈ FPdX_heir 0 0 → b < 104) (by decide : ∀ b, b ∈ FKdm_heir 0 0 → 104 ≤ b) r
theorem rh_line (a1 a2 : Int32) (h : PH) (r : RLH h) {rm : Int32} {h2 : PH} (e2 : mm_line a1 a2 h = some (rm, h2)) : RLH h2 := rlh_cs (S := []) (fun _ _ => rfl) (fkm_line a1 a2 h e2) (by decide) (by decide : 1006 ∉ FKdm_line 0 0 ∧ 1072 ∉ FKdm_line 0 0 ∧ 148 ∉ FKdm_line 0 0) (by decide) (by decide : ∀ b, b ∈ FKdm_line 0 0 → 104 ≤ b) r
theorem rh_window (a1 : Int32) (h : PH) (r : RLH h) {rm : Int32} {h2 : PH} (e2 : mm_window a1 h = some (rm, h2)) : RLH h2 := rlh_cs (S := []) (fun _ _ => rfl) (fkm_window a1 h e2) (by decide) (by decide : 1006 ∉ FKdm_window 0 ∧ 1072 ∉ FKdm_window 0 ∧ 148 ∉ FKdm_window 0) (by decide) (by decide : ∀ b, b ∈ FKdm_window 0 → 104 ≤ b) r
theorem rh_member (a1 a2 : Int32) (h : PH) (r : RLH h) {rX rm : Int32} {h1 h2 : PH} (e1 : mX_member a1 a2 h = some (rX, h1)) (e2 : mm_member a1 a2 h1 = some (rm, h2)) : RLH h2 := rlh_cs (fpX_member a1 a2 h e1) (fkm_member a1 a2 h1 e2) (by decide : ∀ b, b ∈ FPdX_member 0 0 → ¬ (b = 1 ∨ b = 37 ∨ b = 70 ∨ (73 ≤ b ∧ b ≤ 83))) (by decide : 1006 ∉ FKdm_member 0 0 ∧ 1072 ∉ FKdm_member 0 0 ∧ 148 ∉ FKdm_member 0 0) (by decide : ∀ b, b ∈ FPdX_member 0 0 → b < 104) (by decide : ∀ b, b ∈ FKdm_member 0 0 → 104 ≤ b) r
theorem rh_council (a1 : Int32) (h : PH) (r : RLH h) {rm : Int32} {h2 : PH} (e2 : mm_council a1 h = some (rm, h2)) : RLH h2 := rlh_cs (S := []) (fun _ _ => rfl) (fkm_council a1 h e2) (by decide) (by decide : 1006 ∉ FKdm_council 0 ∧ 1072 ∉ FKdm_council 0 ∧ 148 ∉ FKdm_council 0) (by decide) (by decide : ∀ b, b ∈ FKdm_council 0 → 104 ≤ b) r
theorem rh_game (a1 a2 : Int32) (h : PH) (r : RLH h) {rX rm : Int32} {h1 h2 : PH} (e1 : mX_game a1 a2 h = some (rX, h1)) (e2 : mm_game a1 a2 h1 = some (rm, h2)) : RLH h2 := rlh_cs (fpX_game a1 a2 h e1) (fkm_game a1 a2 h1 e2) (by decide : ∀ b, b ∈ FPdX_game 0 0 → ¬ (b = 1 ∨ b = 37 ∨ b = 70 ∨ (73 ≤ b ∧ b ≤ 83))) (by decide : 1006 ∉ FKdm_game 0 0 ∧ 1072 ∉ FKdm_game 0 0 ∧ 148 ∉ FKdm_game 0 0) (by decide : ∀ b, b ∈ FPdX_game 0 0 → b < 104) (by decide : ∀ b, b ∈ FKdm_game 0 0 → 104 ≤ b) r
theorem rh_look (a1 : Int32) (h : PH) (r : RLH h) {rm : Int32} {h2 : PH} (e2 : mm_look a1 h = some (rm, h2)) : RLH h2 := rlh_cs (S := []) (fun _ _ => rfl) (fkm_look a1 h e2) (by decide) (by decide : 1006 ∉ FKdm_look 0 ∧ 1072 ∉ FKdm_look 0 ∧ 148 ∉ FKdm_look 0) (by decide) (by decide : ∀ b, b ∈ FKdm_look 0 → 104 ≤ b) r
theorem ag_house (a1 a2 a3 : Int32) (h : PH) (i : IM h) (r : RLH h) {rX rm : Int32} {h1 h2 : PH} (e1 : mX_house a1 a2 a3 h = some (rX, h1)) (e2 : mm_house a1 a2 a3 h1 = some (rm, h2)) (cs : CS h h1 h2) : rX = rm := (house_both a1 a2 a3 h i r e1 e2 cs).1
/-- whether one may set: the same on both sides -/
theorem xset_0 (a1 a2 a3 : Int32) (h : PH) (n : Nat) (hn : n ≤ 12) (en : h 1 1 = nI n) {r : Int32 × PH} (e : mX_set a1 a2 a3 h = some r) : r.1 = if (a1 = 8 ∧ (0 ≤ a3 ∧ a3 ≤ 9)) ∨ (¬ a1 = 8 ∧ (0 ≤ a1 ∧ a1 ≤ 7) ∧ (¬ a2 < 0 ∧ ¬ nI n ≤ a2) ∧ (0 ≤ a3 ∧ a3 ≤ (if a1 < 4 ∨ a1 = 7 then 99 else 9))) then 1 else 0 := by
  have z01 : ¬ (1 : Int32) = 0 := by decide
  have fin : ∀ g : PH, (bd (mP_forget g) fun h3 => some ((1 : Int32), h3)) = some r → r.1 = 1 := fun g e => by
    obtain ⟨g3, -, e⟩ := bd_s e
    cases e
    rfl
  unfold mX_set at e
  rw [jn1_e] at e
  by_cases c8 : a1 = 8
  · rw [if_pos c8] at e
    by_cases c3 : 0 ≤ a3 ∧ a3 ≤ 9
    · rw [within_y c3, bd_e, if_neg z01, lt_e] at e
      rw [if_pos (Or.inl ⟨c8, c3⟩)]
      exact fin _ e
    · rw [within_n c3, bd_e, if_pos rfl] at e
      rw [if_neg (by
        intro q
        rcases q with q | q
        · exact c3 q.2
        · exact q.1 c8)]
      cases e
      rfl
  · rw [if_neg c8] at e
    by_cases c7 : 0 ≤ a1 ∧ a1 ≤ 7
    · rw [within_y c7, bd_e, if_neg z01] at e
      unfold mB_has at e
      rw [en] at e
      by_cases c2 : ¬ a2 < 0 ∧ ¬ nI n ≤ a2
      · rw [if_neg c2.1, if_neg c2.2, bd_e, if_neg z01] at e
        have ms : mX_mostToSet a1 h = some (if a1 < 4 ∨ a1 = 7 then 99 else 9) := by
          unfold mX_mostToSet
          by_cases c4 : a1 < 4
          · rw [if_pos c4, if_pos (Or.inl c4)]
          · rw [if_neg c4]
            by_cases c77 : a1 = 7
            · rw [if_pos c77, if_pos (Or.inr c77)]
            · rw [if_neg c77, if_neg (fun q => by rcases q with q | q; exact c4 q; exact c77 q)]
        rw [ms, bd_e] at e
        by_cases c3 : 0 ≤ a3 ∧ a3 ≤ (if a1 < 4 ∨ a1 = 7 then 99 else 9)
        · rw [within_y c3, bd_e, if_neg z01] at e
          rw [if_pos (Or.inr ⟨c8, c7, c2, c3⟩)]
          obtain ⟨g10, -, e⟩ := bd_s e
          exact fin _ e
        · rw [within_n c3, bd_e, if_pos rfl] at e
          rw [if_neg (by
            intro q
            rcases q with q | q
            · exact c8 q.1
            · exact c3 q.2.2.2)]
          cases e
          rfl
      · have e0 : (bd (if a2 < 0 then some (0 : Int32) else if nI n ≤ a2 then some 0 else some 1) fun r7 => if r7 = 0 then some ((0 : Int32), h) else bd (mX_mostToSet a1 h) fun r8 => bd (mX_within a3 0 r8 h) fun r9 => if r9 = 0 then some (0, h) else bd (mB_write 1 a2 a1 a3 h) fun h10 => bd (mP_forget h10) fun h3 => some (1, h3)) = some (0, h) := by
          by_cases d1 : a2 < 0
          · rw [if_pos d1, bd_e, if_pos rfl]
          · rw [if_neg d1, if_pos (Classical.byContradiction fun d2 => c2 ⟨d1, d2⟩), bd_e, if_pos rfl]
        rw [if_neg (by
          intro q
          rcases q with q | q
          · exact c8 q.1
          · exact c2 q.2.2.1)]
        have e := e0.symm.trans e
        cases e
        rfl
    · rw [within_n c7, bd_e, if_pos rfl] at e
      rw [if_neg (by
        intro q
        rcases q with q | q
        · exact c8 q.1
        · exact c7 q.2.1)]
      cases e
      rfl
theorem can_st (a1 a2 a3 : Int32) (h : PH) (n : Nat) (hn : n ≤ 12) (en : h 104 6 = nI n) : mm_canSet a1 a2 a3 h = some (if (a1 = 8 ∧ (0 ≤ a3 ∧ a3 ≤ 9)) ∨ (¬ a1 = 8 ∧ (0 ≤ a1 ∧ a1 ≤ 7) ∧ (¬ a2 < 0 ∧ ¬ nI n ≤ a2) ∧ (0 ≤ a3 ∧ a3 ≤ (if a1 < 4 ∨ a1 = 7 then 99 else 9))) then 1 else 0) := by
  have z01 : ¬ (1 : Int32) = 0 := by decide
  unfold mm_canSet
  by_cases c8 : a1 = 8
  · rw [if_pos c8]
    by_cases c3 : 0 ≤ a3 ∧ a3 ≤ 9
    · rw [isIn_y c3, bd_e, if_pos (Or.inl ⟨c8, c3⟩)]
      rfl
    · rw [isIn_n c3, bd_e, if_neg (by
        intro q
        rcases q with q | q
        · exact c3 q.2
        · exact q.1 c8)]
      rfl
  · rw [if_neg c8]
    by_cases c7 : 0 ≤ a1 ∧ a1 ≤ 7
    · rw [isIn_y c7, bd_e, if_neg z01]
      unfold mm_isHouse
      rw [en]
      by_cases c2 : ¬ a2 < 0 ∧ ¬ nI n ≤ a2
      · rw [if_neg c2.1, if_neg c2.2, bd_e, if_neg z01, isIn_eq, bd_e, jn1_e]
        have ms : ∀ k : Int32 → Option Int32, (if (if 4 ≤ a1 ∧ a1 ≤ 6 then (1 : Int32) else 0) = 0 then k 99 else k 9) = k (if a1 < 4 ∨ a1 = 7 then 99 else 9) := fun k => by
          by_cases c46 : 4 ≤ a1 ∧ a1 ≤ 6
          · have n1 : ¬ (a1 < 4 ∨ a1 = 7) := fun q => by
              rcases q with q | q
              · exact absurd c46.1 (Int32.not_le.mpr q)
              · rw [q] at c46; exact absurd c46.2 (by decide)
            rw [if_pos c46, if_neg z01, if_neg n1]
          · have y1 : a1 < 4 ∨ a1 = 7 := by
              by_cases c4 : a1 < 4
              · exact Or.inl c4
              · right
                have l4 : 4 ≤ a1 := Int32.not_lt.mp c4
                have l6 : 6 < a1 := Int32.not_le.mp (fun q => c46 ⟨l4, q⟩)
                have l7 := c7.2
                rw [Int32.lt_iff_toInt_lt] at l6
                rw [Int32.le_iff_toInt_le] at l7
                simp only [show (6 : Int32).toInt = 6 from rfl, show (7 : Int32).toInt = 7 from rfl] at l6 l7
                exact Int32.toInt_inj.mp (by rw [show (7 : Int32).toInt = 7 from rfl]; omega)
            rw [if_neg c46, if_pos rfl, if_pos y1]
        rw [ms (fun x6 => bd (mm_isIn a3 0 x6 h) fun r7 => if r7 = 0 then some 0 else some 1)]
        by_cases c3 : 0 ≤ a3 ∧ a3 ≤ (if a1 < 4 ∨ a1 = 7 then 99 else 9)
        · rw [isIn_y c3, bd_e, if_neg z01, if_pos (Or.inr ⟨c8, c7, c2, c3⟩)]
        · rw [isIn_n c3, bd_e, if_pos rfl, if_neg (by
            intro q
            rcases q with q | q
            · exact c8 q.1
            · exact c3 q.2.2.2)]
      · have e0 : ∀ k : Int32 → Option Int32, k 0 = some 0 → bd (if a2 < 0 then some (0 : Int32) else if nI n ≤ a2 then some 0 else some 1) k = some 0 := fun k hk => by
          by_cases d1 : a2 < 0
          · rw [if_pos d1, bd_e]; exact hk
          · rw [if_neg d1, if_pos (Classical.byContradiction fun d2 => c2 ⟨d1, d2⟩), bd_e]; exact hk
        rw [e0 _ (if_pos rfl), if_neg (by
          intro q
          rcases q with q | q
          · exact c8 q.1
          · exact c2 q.2.2.1)]
    · rw [isIn_n c7, bd_e, if_pos rfl, if_neg (by
        intro q
        rcases q with q | q
        · exact c8 q.1
        · exact c7 q.2.1)]
theorem mset_1 (a1 a2 a3 : Int32) (h : PH) {r : Int32 × PH} {c : Int32} (hc : mm_canSet a1 a2 a3 (up h 104 0 0) = some c) (e : mm_set a1 a2 a3 h = some r) : r.1 = if c = 0 then 0 else 1 := by
  unfold mm_set at e
  rw [lt_e, hc, bd_e] at e
  by_cases c0 : c = 0
  · rw [if_pos c0] at e ⊢
    cases e
    rfl
  · rw [if_neg c0] at e ⊢
    refine v_j1 (fun (_ : PH) => r.1 = 1) e (fun h4 e => ?_) (fun j3 k3 e => ?_)
    · refine v_j1 (fun (_ : PH) => r.1 = 1) e (fun h6 e => ?_) (fun j5 k5 e => ?_)
      · refine v_j1 (fun (_ : PH) => r.1 = 1) e (fun h8 e => ?_) (fun j7 k7 e => ?_)
        · refine v_j1 (fun (_ : PH) => r.1 = 1) e (fun h10 e => ?_) (fun j9 k9 e => ?_)
          · refine v_j1 (fun (_ : PH) => r.1 = 1) e (fun h12 e => ?_) (fun j11 k11 e => ?_)
            · refine v_j1 (fun (_ : PH) => r.1 = 1) e (fun h14 e => ?_) (fun j13 k13 e => ?_)
              · obtain ⟨h15, -, e⟩ := lt_some e
                cases e
                rfl
              · rcases ite_or e with ⟨-, e⟩ | ⟨-, e⟩
                · obtain ⟨-, e⟩ := ck_s e
                  obtain ⟨h16, -, e⟩ := lt_some e
                  exact k13 _ e
                · exact k13 _ e
            · rcases ite_or e with ⟨-, e⟩ | ⟨-, e⟩
              · obtain ⟨-, e⟩ := ck_s e
                obtain ⟨h16, -, e⟩ := lt_some e
                exact k11 _ e
              · exact k11 _ e
          · rcases ite_or e with ⟨-, e⟩ | ⟨-, e⟩
            · obtain ⟨-, e⟩ := ck_s e
              obtain ⟨h16, -, e⟩ := lt_some e
              exact k9 _ e
            · exact k9 _ e
        · rcases ite_or e with ⟨-, e⟩ | ⟨-, e⟩
          · obtain ⟨-, e⟩ := ck_s e
            obtain ⟨h16, -, e⟩ := lt_some e
            exact k7 _ e
          · exact k7 _ e
      · rcases ite_or e with ⟨-, e⟩ | ⟨-, e⟩
        · obtain ⟨-, e⟩ := ck_s e
          obtain ⟨h16, -, e⟩ := lt_some e
          exact k5 _ e
        · exact k5 _ e
    · rcases ite_or e with ⟨-, e⟩ | ⟨-, e⟩
      · exact k3 _ e
      · obtain ⟨h21, -, e⟩ := bd_s e
        exact k3 _ e
theorem it01 (P : Prop) [Decidable P] : (if P then (1 : Int32) else 0) = if (if P then (1 : Int32) else 0) = 0 then 0 else 1 := by
  by_cases c : P
  · rw [if_pos c, if_neg (by decide)]
  · rw [if_neg c, if_pos rfl]
theorem ag_set (a1 a2 a3 : Int32) (h : PH) (i : IM h) (r : RLH h) {rX rm : Int32} {h1 h2 : PH} (e1 : mX_set a1 a2 a3 h = some (rX, h1)) (e2 : mm_set a1 a2 a3 h1 = some (rm, h2)) (cs : CS h h1 h2) : rX = rm := by
  obtain ⟨n, n1, n2, en⟩ := nat_of (show R 0 12 (h 1 1) from inv_rng i.1 rfl) (by decide)
  have em : up h1 104 0 0 104 6 = nI n := by rw [up_oj (by decide), cs.2.2.2.1 104 (by decide), ← r.1]; exact en
  have w1 := xset_0 a1 a2 a3 h n (by omega) en e1
  have w2 := mset_1 a1 a2 a3 h1 (can_st a1 a2 a3 (up h1 104 0 0) n (by omega) em) e2
  have w1 : rX = _ := w1
  have w2 : rm = _ := w2
  rw [w1, w2]
  exact it01 _
end
section
/-! WORDS: the same letters are the same word on both sides -/
def bLt (c : Nat) : Bool := (decide (97 ≤ c) && decide (c ≤ 122)) || (decide (65 ≤ c) && decide (c ≤ 90))
def bDg (c : Nat) : Bool := decide (48 ≤ c) && decide (c ≤ 57)
def bBk (c : Nat) : Bool := decide (c = 32) || decide (c = 10)
def bSg (c : Nat) : Bool := decide (c ∈ [59, 43, 45, 42, 47, 40, 41, 60, 61, 62])
theorem bLt_32 {c : Nat} (h : bLt c = true) : c ≠ 32 := by
  intro e; subst e; exact absurd h (by decide)
def blk (B : Nat → Nat) (q e : Nat) : List Nat := (List.range (e - q)).map (fun i => B (q + i))
theorem blk_len (B : Nat → Nat) (q e : Nat) : (blk B q e).length = e - q := by unfold blk; simp
theorem blk_at (B : Nat → Nat) (q e i : Nat) (h : i < e - q) : (blk B q e).getD i 0 = B (q + i) := by unfold blk; simp [h]
theorem ext0 : ∀ (w v : List Nat), w.length = v.length → (∀ i, i < w.length → w.getD i 0 = v.getD i 0) → w = v := by
  intro w
  induction w with
  | nil =>
    intro v hl _
    cases v with
    | nil => rfl
    | cons b v => simp at hl
  | cons a w ih =>
    intro v hl h
    cases v with
    | nil => simp at hl
    | cons b v =>
      have h0 : a = b := h 0 (by simp)
      rw [h0, ih v (by simpa using hl) (fun i hi => h (i + 1) (by simp; omega))]
theorem blk_eq {B : Nat → Nat} {q e : Nat} {w : List Nat} (hl : w.length = e - q) (hw : ∀ i, i < w.length → w.getD i 0 = B (q + i)) : w = blk B q e :=
  ext0 w _ (by rw [blk_len, hl]) (fun i hi => by rw [hw i hi, blk_at B q e i (by omega)])
theorem blk_ne {B : Nat → Nat} {q e : Nat} {w : List Nat} (hl : w.length = e - q) (hw : ¬ w = blk B q e) : ∃ i, i < w.length ∧ w.getD i 0 ≠ B (q + i) := by
  apply Classical.byContradiction
  intro n
  apply hw
  refine blk_eq hl (fun i hi => ?_)
  apply Classical.byContradiction
  intro m
  exact n ⟨i, hi, m⟩
def wI (b : List Nat) : List (List Nat) → Nat → Int32
  | [], _ => -1
  | w :: ws, j => if w = b then nI j else wI b ws (j + 1)
/-- a text that spells the words, from st on, blanks between them -/
def spwB (ch : Nat → Nat) (len : Nat) : List (List Nat) → Nat → Bool
  | [], st => decide (st = len + 1)
  | w :: ws, st => (List.range w.length).all (fun i => decide (st + i < len ∧ ch (st + i) = w.getD i 0 ∧ ch (st + i) ≠ 32)) && decide (st + w.length = len ∨ (st + w.length < len ∧ ch (st + w.length) = 32)) && spwB ch len ws (st + w.length + 1)
theorem spwB_c {ch : Nat → Nat} {len : Nat} {w : List Nat} {ws : List (List Nat)} {st : Nat} (h : spwB ch len (w :: ws) st = true) : (∀ i, i < w.length → st + i < len ∧ ch (st + i) = w.getD i 0 ∧ ch (st + i) ≠ 32) ∧ (st + w.length = len ∨ (st + w.length < len ∧ ch (st + w.length) = 32)) ∧ spwB ch len ws (st + w.length + 1) = true := by
  rw [spwB, Bool.and_eq_true, Bool.and_eq_true] at h
  exact ⟨fun i hi => of_decide_eq_true (List.all_eq_true.mp h.1.1 i (List.mem_range.mpr hi)), of_decide_eq_true h.1.2, h.2⟩
/-- the class's four lists, the model's one -/
def W27 : List (List Nat) := [[114, 101, 110, 116], [103, 110, 97, 119, 115], [109, 101, 108, 116, 115], [119, 104, 101, 110], [111, 114], [97, 110, 100], [110, 111, 116], [119, 97, 108, 108], [115, 117, 109], [97, 108, 109, 111, 110, 100, 115], [116, 101, 101, 116, 104], [104, 97, 114, 100], [105, 99, 105, 110, 103], [108, 111, 100, 103, 101, 114, 115], [100, 111, 111, 114], [97, 103, 101], [114, 97, 105, 110], [102, 114, 111, 115, 116], [113, 117, 97, 114, 116, 101, 114], [105, 110], [116, 104, 97, 119], [105, 99, 101], [98, 97, 107, 101], [119, 101, 100], [114, 97, 122, 101], [104, 111, 117, 115, 101], [110, 101, 120, 116]]
def wvL : List (List Nat) := [[0, 1, 2, 3, 4, 5, 6, 7, 8, 9, 10, 11, 12, 13, 14, 15, 16, 17, 18], [19, 16, 17, 20], [19, 21, 22, 23, 24], [25, 26]]
def wv (s : Nat) : List Nat := wvL.getD s []
def Wk (s : Nat) : List (List Nat) := (wv s).map (fun m => W27.getD m [])
def chC (s j : Nat) : Nat := (sby s j).toInt.toNat
def chM (j : Nat) : Nat := (wdX.getD j 0).toNat
theorem sp_c : ∀ s, s < 4 → spwB (chC s) (sln s) (Wk s) 0 = true := by decide +kernel
theorem sp_m : spwB chM 140 W27 1 = true := by decide +kernel
theorem chM_140 : chM 140 = 32 := by decide +kernel
theorem nc_ch : ∀ s, s < 4 → ∀ j, j < sln s → nc (nc (i2c ((sby s j) &&& 255))) = nI (chC s j) ∧ chC s j < 256 := by decide +kernel
theorem wdX_n : ∀ j, j < 141 → wdX.getD j 0 = ((chM j : Nat) : Int) ∧ chM j < 256 := by decide +kernel
theorem ch_at (s : Nat) (hs : s < 4) (j : Nat) (hj : j < sln s) (h : PH) : mG_charAt s (nI j) h = some (nI (chC s j)) := by
  have l1 := sln_lt s (by omega)
  unfold mG_charAt
  rw [show mG_isLatin1 s h = some 1 from rfl, bd_e, if_neg (by decide)]
  have c1 : ¬ nI j < 0 := nI_pos (by omega)
  have c2 : nI j < Int32.ofNat (sln s) := nI_lt hj (by omega)
  unfold mH_charAt mG_checkIndex mQ_checkIndex jn0
  simp only [if_neg c1, if_pos c2, bd_e]
  rw [ck_nI hj (by omega), bd_e, show ix (nI j) = j from nI_clamp (by omega), (nc_ch s hs j hj).1]
theorem wd_ch {h : PH} (i : IM h) (j : Nat) (hj : j < 141) : h 112 j = nI (chM j) := by
  apply Int32.toInt_inj.mp
  rw [wd_at1 i j hj, nI_toInt (by have := (wdX_n j hj).2; omega)]
  exact (wdX_n j hj).1
/-- the class's tape: L bytes B -/
def TC (B : Nat → Nat) (L : Nat) (h : PH) : Prop := L ≤ 400 ∧ h 85 4 = nI L ∧ ∀ j, j < L → (h 86 j &&& 255) = nI (B j) ∧ B j < 256
theorem by_in {B : Nat → Nat} {L : Nat} {h : PH} (t : TC B L h) {p : Nat} (hp : p < L) : mA_byteAt (nI p) h = some (nI (B p)) := by
  obtain ⟨t1, t2, t3⟩ := t
  unfold mA_byteAt
  rw [if_neg (nI_pos (by omega)), t2, if_neg (nI_ge hp (by omega)), if_neg (show ¬ (400 : Int32) ≤ nI p from nI_ge (b := 400) (by omega) (by omega)), ck_nI (by omega) (by decide), show ix (nI p) = p from nI_clamp (by omega), (t3 p hp).1]
theorem same_y {B : Nat → Nat} {L : Nat} {h : PH} (t : TC B L h) (s : Nat) (hs : s < 4) (st q e : Nat) (he : e ≤ L) (hst : st + (e - q) ≤ sln s) (hq : q ≤ e) (m : ∀ i, i < e - q → chC s (st + i) = B (q + i)) : ∀ (n d : Nat), e - q < n + d → d ≤ e - q → mA_isSame_L3 s (nI st) (nI q) (nI e) h n (nI (q + d)) = some 1 := by
  intro n
  have l1 := sln_lt s (by omega)
  have tL := t.1
  induction n with
  | zero => intro d h1 h2; omega
  | succ n ih =>
    intro d h1 h2
    rw [mA_isSame_L3]
    by_cases c : d = e - q
    · rw [if_pos (nI_le (show e ≤ q + d by omega) (by omega))]
    · rw [if_neg (nI_ge (show q + d < e by omega) (by omega)), lt_e, nI_add, nI_sub (by omega), show st + (q + d) - q = st + d by omega, G_len s (by omega), bd_e, if_neg (nI_ge (show st + d < sln s by omega) (by omega)), ch_at s hs (st + d) (by omega), bd_e, by_in t (show q + d < L by omega), bd_e, m d (by omega), if_pos rfl, nI_1]
      exact ih (d + 1) (by omega) (by omega)
theorem same_n {B : Nat → Nat} {L : Nat} {h : PH} (t : TC B L h) (s : Nat) (hs : s < 4) (st q e : Nat) (he : e ≤ L) (hst : st + (e - q) ≤ sln s) (hq : q ≤ e) (x : Nat) (hx : x < e - q) (m : chC s (st + x) ≠ B (q + x)) : ∀ (n d : Nat), e - q < n + d → d ≤ x → mA_isSame_L3 s (nI st) (nI q) (nI e) h n (nI (q + d)) = some 0 := by
  intro n
  have l1 := sln_lt s (by omega)
  have tL := t.1
  induction n with
  | zero => intro d h1 h2; omega
  | succ n ih =>
    intro d h1 h2
    have b1 := (nc_ch s hs (st + d) (by omega)).2
    have b2 := (t.2.2 (q + d) (by omega)).2
    rw [mA_isSame_L3, if_neg (nI_ge (show q + d < e by omega) (by omega)), lt_e, nI_add, nI_sub (by omega), show st + (q + d) - q = st + d by omega, G_len s (by omega), bd_e, if_neg (nI_ge (show st + d < sln s by omega) (by omega)), ch_at s hs (st + d) (by omega), bd_e, by_in t (show q + d < L by omega), bd_e]
    by_cases c : chC s (st + d) = B (q + d)
    · have dx : d ≠ x := fun z => m (by rw [← z]; exact c)
      rw [c, if_pos rfl, nI_1]
      exact ih (d + 1) (by omega) (by omega)
    · rw [if_neg (fun z => c ((nI_eq (by omega) (by omega)).mp z))]
theorem wn_go {B : Nat → Nat} {L : Nat} {h : PH} (t : TC B L h) (s : Nat) (hs : s < 4) (q e : Nat) (he : e ≤ L) (hq : q < e) : ∀ (n : Nat) (w : List Nat) (ws : List (List Nat)) (j st c : Nat), sln s + 1 < n + (st + c) → c ≤ w.length → spwB (chC s) (sln s) (w :: ws) st = true → mA_wordNumber_L9 s (nI q) (nI e) h n (nI j) (nI st) (nI (st + c)) = some (wI (blk B q e) (w :: ws) j) := by
  intro n
  have l1 := sln_lt s (by omega)
  have tL := t.1
  induction n with
  | zero =>
    intro w ws j st c h1 h2 h3
    obtain ⟨p1, p2, p3⟩ := spwB_c h3
    omega
  | succ n ih =>
    intro w ws j st c h1 h2 h3
    obtain ⟨p1, p2, p3⟩ := spwB_c h3
    have hle : st + w.length ≤ sln s := by omega
    rw [mA_wordNumber_L9, G_len s (by omega), bd_e, if_neg (nI_nlt (show st + c ≤ sln s by omega) (by omega)), bd_e, jn0_e]
    by_cases cc : c = w.length
    · subst cc
      have key : (if nI (st + w.length) - nI st = nI e - nI q then bd (mA_isSame s (nI st) (nI q) (nI e) h) fun r4 => if r4 = 0 then lt (nI (st + w.length) + 1) fun x5 => mA_wordNumber_L9 s (nI q) (nI e) h n (nI j + 1) x5 (nI (st + w.length) + 1) else some (nI j) else lt (nI (st + w.length) + 1) fun x6 => mA_wordNumber_L9 s (nI q) (nI e) h n (nI j + 1) x6 (nI (st + w.length) + 1)) = some (wI (blk B q e) (w :: ws) j) := by
        rw [nI_sub (by omega), nI_sub (by omega), show st + w.length - st = w.length by omega]
        have next : ¬ w = blk B q e → (lt (nI (st + w.length) + 1) fun x5 => mA_wordNumber_L9 s (nI q) (nI e) h n (nI j + 1) x5 (nI (st + w.length) + 1)) = some (wI (blk B q e) (w :: ws) j) := fun ne => by
          rw [lt_e, nI_1, nI_1, wI, if_neg ne]
          cases ws with
          | nil =>
            rw [spwB] at p3
            have p3 := of_decide_eq_true p3
            cases n with
            | zero => omega
            | succ n => rw [mA_wordNumber_L9, G_len s (by omega), bd_e, if_pos (nI_lt (show sln s < st + w.length + 1 by omega) (by omega)), wI]
          | cons w2 ws2 =>
            have := ih w2 ws2 (j + 1) (st + w.length + 1) 0 (by omega) (by omega) p3
            rw [Nat.add_zero] at this
            exact this
        by_cases lw : w.length = e - q
        · rw [if_pos (by rw [lw])]
          by_cases eq : w = blk B q e
          · have sm := same_y t s hs st q e he (by omega) (by omega) (fun i hi => by rw [(p1 i (by omega)).2.1, eq, blk_at B q e i hi]) FU 0 (by unfold FU; omega) (by omega)
            rw [Nat.add_zero] at sm
            have sm : mA_isSame s (nI st) (nI q) (nI e) h = some 1 := sm
            rw [sm, bd_e, if_neg (by decide), wI, if_pos eq]
          · obtain ⟨x, x1, x2⟩ := blk_ne lw eq
            have sm := same_n t s hs st q e he (by omega) (by omega) x (by omega) (by rw [(p1 x x1).2.1]; exact x2) FU 0 (by unfold FU; omega) (by omega)
            rw [Nat.add_zero] at sm
            have sm : mA_isSame s (nI st) (nI q) (nI e) h = some 0 := sm
            rw [sm, bd_e, if_pos rfl]
            exact next eq
        · rw [if_neg (fun z => lw ((nI_eq (by omega) (by omega)).mp z))]
          exact next (fun z => lw (by rw [z, blk_len]))
      by_cases c2 : st + w.length = sln s
      · rw [if_pos (by rw [c2])]
        exact key
      · rw [if_neg (fun z => c2 ((nI_eq (by omega) (by omega)).mp z)), ch_at s hs _ (by omega), bd_e]
        rcases p2 with p2 | p2
        · exact absurd p2 c2
        · rw [p2.2, if_pos (show nI 32 = (32 : Int32) from rfl)]
          exact key
    · obtain ⟨a1, a2, a3⟩ := p1 c (by omega)
      have b1 := (nc_ch s hs (st + c) a1).2
      rw [if_neg (fun z => by have := (nI_eq (by omega) (by omega)).mp z; omega), ch_at s hs _ a1, bd_e, if_neg (show ¬ nI (chC s (st + c)) = (32 : Int32) from fun z => a3 ((nI_eq (b := 32) (by omega) (by decide)).mp z)), nI_1]
      exact ih w ws j st (c + 1) (by omega) (by omega) h3
theorem wnC_at {B : Nat → Nat} {L : Nat} {h : PH} (t : TC B L h) (s : Nat) (hs : s < 4) (q e : Nat) (he : e ≤ L) (hq : q < e) : mA_wordNumber s (nI q) (nI e) h = some (wI (blk B q e) (Wk s) 0) := by
  have sp := sp_c s hs
  have l1 := sln_lt s (by omega)
  have ne : Wk s ≠ [] := by
    have : ∀ s, s < 4 → Wk s ≠ [] := by decide
    exact this s hs
  cases eW : Wk s with
  | nil => exact absurd eW ne
  | cons w ws =>
    rw [eW] at sp
    have := wn_go t s hs q e he hq FU w ws 0 0 0 (by unfold FU; omega) (by omega) sp
    rw [Nat.add_zero, nI_0] at this
    exact this
/-- the model's tape -/
def TM (B : Nat → Nat) (L : Nat) (h : PH) : Prop := L ≤ 400 ∧ h 104 11 = nI L ∧ (∀ j, j < L → h 111 j = nI (B j) ∧ B j < 256) ∧ ∀ j, j < 141 → h 112 j = nI (chM j)
theorem wa_20 {B : Nat → Nat} {L : Nat} {h : PH} (t : TM B L h) (q e k : Nat) (he : e ≤ L) (hq : q ≤ e) (p3 : Int32) (w : List Nat) (hl : ∀ i, i < e - q → B (q + i) ≠ 32) (p1 : ∀ i, i < w.length → k + 1 + i < 140 ∧ chM (k + 1 + i) = w.getD i 0 ∧ chM (k + 1 + i) ≠ 32) (p2 : k + 1 + w.length ≤ 140 ∧ chM (k + 1 + w.length) = 32) (k0 : Int32 → Option Int32) : ∀ (n c : Nat), e - q < n + c → c ≤ e - q → c ≤ w.length → (∀ i, i < c → w.getD i 0 = B (q + i)) → ∃ x, mm_wordAt_L20 (nI q) (nI e) p3 (nI k) h k0 n (nI c) = k0 (nI x) ∧ x ≤ e - q ∧ x ≤ w.length ∧ (∀ i, i < x → w.getD i 0 = B (q + i)) ∧ (x < e - q → x < w.length → w.getD x 0 ≠ B (q + x)) := by
  intro n
  have tL := t.1
  induction n with
  | zero => intro c h1 h2; omega
  | succ n ih =>
    intro c h1 h2 h3 hm
    rw [mm_wordAt_L20, nI_add]
    by_cases c1 : c = e - q
    · rw [if_pos (nI_le (show e ≤ q + c by omega) (by omega))]
      exact ⟨c, rfl, h2, h3, hm, fun z => absurd z (by omega)⟩
    · have b2 := (t.2.2.1 (q + c) (by omega)).2
      rw [if_neg (nI_ge (show q + c < e by omega) (by omega)), nI_1, nI_add, ck_nI (show k + 1 + c < 141 by omega) (by decide), ck_nI (show q + c < 400 by omega) (by decide), show ix (nI (k + 1 + c)) = k + 1 + c from nI_clamp (by omega), show ix (nI (q + c)) = q + c from nI_clamp (by omega), t.2.2.2 (k + 1 + c) (by omega), (t.2.2.1 (q + c) (by omega)).1]
      have b1 := (wdX_n (k + 1 + c) (by omega)).2
      by_cases c2 : chM (k + 1 + c) = B (q + c)
      · rw [if_pos (by rw [c2]), lt_e, nI_1]
        have lw : c < w.length := by
          apply Classical.byContradiction
          intro z
          have : c = w.length := by omega
          rw [this, p2.2] at c2
          exact hl w.length (by omega) (by rw [← c2])
        refine ih (c + 1) (by omega) (by omega) lw (fun i hi => ?_)
        by_cases z : i = c
        · rw [z, ← (p1 c lw).2.1]; exact c2
        · exact hm i (by omega)
      · rw [if_neg (fun z => c2 ((nI_eq (by omega) (by omega)).mp z))]
        exact ⟨c, rfl, h2, h3, hm, fun _ z => by rw [← (p1 c z).2.1]; exact c2⟩
theorem wa_94 {B : Nat → Nat} {L : Nat} {h : PH} (t : TM B L h) (p1 p2 p3 : Int32) (k0 : Int32 → Option Int32) (st l : Nat) (hl : st + l ≤ 140) (a : ∀ i, i < l → chM (st + i) ≠ 32) (b : chM (st + l) = 32) : ∀ (n c : Nat), l < n + c → c ≤ l → mm_wordAt_L94 p1 p2 p3 h k0 n (nI (st + c)) = k0 (nI (st + l)) := by
  intro n
  induction n with
  | zero => intro c h1 h2; omega
  | succ n ih =>
    intro c h1 h2
    rw [mm_wordAt_L94, ck_nI (show st + c < 141 by omega) (by decide), show ix (nI (st + c)) = st + c from nI_clamp (by omega), t.2.2.2 _ (by omega)]
    by_cases z : c = l
    · subst z
      rw [b, if_pos (show nI 32 = (32 : Int32) from rfl)]
    · have b1 := (wdX_n (st + c) (by omega)).2
      rw [if_neg (show ¬ nI (chM (st + c)) = (32 : Int32) from fun q => a c (by omega) ((nI_eq (b := 32) (by omega) (by decide)).mp q)), lt_e, nI_1]
      exact ih (c + 1) (by omega) (by omega)
theorem wa_5 {B : Nat → Nat} {L : Nat} {h : PH} (t : TM B L h) (q e : Nat) (he : e ≤ L) (hq : q < e) (hl : ∀ i, i < e - q → B (q + i) ≠ 32) : ∀ (n : Nat) (ws : List (List Nat)) (j k : Nat), 141 < n + k → k ≤ 140 → chM k = 32 → spwB chM 140 ws (k + 1) = true → mm_wordAt_L5 (nI q) (nI e) h n (nI j - 1) (nI k) = some (wI (blk B q e) ws j) := by
  intro n
  have tL := t.1
  induction n with
  | zero => intro ws j k h1 h2; omega
  | succ n ih =>
    intro ws j k h1 h2 h32 h3
    rw [mm_wordAt_L5]
    cases ws with
    | nil =>
      rw [spwB] at h3
      have h3 := of_decide_eq_true h3
      rw [if_pos (show (140 : Int32) ≤ nI k from nI_le (a := 140) (by omega) (by omega)), wI]
    | cons w ws =>
      obtain ⟨p1, p2, p3⟩ := spwB_c h3
      have hk : k + 1 + w.length ≤ 140 := by omega
      have p2' : chM (k + 1 + w.length) = 32 := by
        rcases p2 with p2 | p2
        · rw [p2]; exact chM_140
        · exact p2.2
      have e1 : nI j - 1 + 1 = nI j := by rw [Int32.sub_add_cancel]
      rw [if_neg (show ¬ (140 : Int32) ≤ nI k from nI_ge (b := 140) (by omega) (by decide)), lt_e, e1]
      obtain ⟨x, q1, q2, q3, q4, q5⟩ := wa_20 t q e k he (by omega) (nI j) w hl p1 ⟨hk, p2'⟩ (fun (x3 : Int32) =>
        jn0 (lt (nI k + 1) fun x5 =>
          mm_wordAt_L94 (nI q) (nI e) (nI j) h (fun (x7 : Int32) =>
            mm_wordAt_L5 (nI q) (nI e) h n (nI j) x7) FU x5) fun j4 =>
        if (nI q + x3) = nI e then
          ck ((nI k + 1) + x3) 141 <|
          if (h 112 (ix ((nI k + 1) + x3))) = 32 then
            some (nI j)
          else
            j4
        else
          j4) FU 0 (by unfold FU; omega) (by omega) (by omega) (fun i hi => absurd hi (by omega))
      rw [nI_0] at q1
      rw [q1, jn0_e, lt_e, nI_1, nI_add, nI_add]
      have next : ¬ w = blk B q e → mm_wordAt_L94 (nI q) (nI e) (nI j) h (fun (x7 : Int32) => mm_wordAt_L5 (nI q) (nI e) h n (nI j) x7) FU (nI (k + 1)) = some (wI (blk B q e) (w :: ws) j) := fun ne => by
        have a := wa_94 t (nI q) (nI e) (nI j) (fun (x7 : Int32) => mm_wordAt_L5 (nI q) (nI e) h n (nI j) x7) (k + 1) w.length hk (fun i hi => (p1 i hi).2.2) p2' FU 0 (by unfold FU; omega) (by omega)
        rw [Nat.add_zero] at a
        rw [a]
        have := ih ws (j + 1) (k + 1 + w.length) (by omega) hk p2' p3
        rw [nI_pred] at this
        rw [this, wI, if_neg ne]
      by_cases c1 : q + x = e
      · rw [if_pos (by rw [c1]), ck_nI (show k + 1 + x < 141 by omega) (by decide), show ix (nI (k + 1 + x)) = k + 1 + x from nI_clamp (by omega), t.2.2.2 _ (by omega)]
        have b1 := (wdX_n (k + 1 + x) (by omega)).2
        by_cases c2 : x = w.length
        · rw [c2, p2', if_pos (show nI 32 = (32 : Int32) from rfl), wI, if_pos (blk_eq (by omega) (fun i hi => q4 i (by omega)))]
        · rw [if_neg (show ¬ nI (chM (k + 1 + x)) = (32 : Int32) from fun z => (p1 x (by omega)).2.2 ((nI_eq (b := 32) (by omega) (by decide)).mp z))]
          exact next (fun z => c2 (by have := blk_len B q e; rw [← z] at this; omega))
      · rw [if_neg (fun z => c1 ((nI_eq (by omega) (by omega)).mp z))]
        refine next (fun z => ?_)
        have l := blk_len B q e
        rw [← z] at l
        have := q5 (by omega) (by omega)
        rw [z, blk_at B q e x (by omega)] at this
        exact this rfl
theorem wa_at {B : Nat → Nat} {L : Nat} {h : PH} (t : TM B L h) (q e : Nat) (he : e ≤ L) (hq : q < e) (hl : ∀ i, i < e - q → B (q + i) ≠ 32) : mm_wordAt (nI q) (nI e) h = some (wI (blk B q e) W27 0) := by
  have := wa_5 t q e he hq hl FU W27 0 0 (by unfold FU; omega) (by omega) (by decide +kernel) sp_m
  rw [nI_0] at this
  exact this
/-- what the one list says, the other says -/
theorem wI_hit (b : List Nat) : ∀ (ws : List (List Nat)) (j m : Nat), m < ws.length → ws.getD m [] = b → (∀ i, i < m → ws.getD i [] ≠ b) → wI b ws j = nI (j + m) := by
  intro ws
  induction ws with
  | nil => intro j m h; simp at h
  | cons w ws ih =>
    intro j m h1 h2 h3
    rw [wI]
    cases m with
    | zero =>
      have h2 : w = b := h2
      rw [if_pos h2]; rfl
    | succ m =>
      have h30 : ¬ w = b := h3 0 (by omega)
      rw [if_neg h30, ih (j + 1) m (by simpa using h1) h2 (fun i hi => h3 (i + 1) (by omega)), show j + 1 + m = j + (m + 1) by omega]
theorem wI_miss (b : List Nat) : ∀ (ws : List (List Nat)) (j : Nat), (∀ i, i < ws.length → ws.getD i [] ≠ b) → wI b ws j = -1 := by
  intro ws
  induction ws with
  | nil => intro j h; rw [wI]
  | cons w ws ih =>
    intro j h
    have h0 : ¬ w = b := h 0 (by simp)
    rw [wI, if_neg h0, ih (j + 1) (fun i hi => h (i + 1) (by simpa using hi))]
theorem w27_d : ∀ m, m < 27 → ∀ i, i < m → W27.getD i [] ≠ W27.getD m [] := by decide +kernel
theorem wk_d : ∀ s, s < 4 → ∀ w, w < (Wk s).length → (Wk s).getD w [] = W27.getD ((wv s).getD w 99) [] ∧ (wv s).getD w 99 < 27 ∧ ∀ i, i < w → (Wk s).getD i [] ≠ (Wk s).getD w [] := by decide +kernel
theorem wk_l : ∀ s, s < 4 → (Wk s).length = (wv s).length ∧ (wv s).length < 20 := by decide +kernel
/-- a word's number on both sides: none of the 27; one that the text's own list lacks; one that it has -/
theorem word_rel (s : Nat) (hs : s < 4) (b : List Nat) : (wI b W27 0 = -1 ∧ wI b (Wk s) 0 = -1) ∨ ∃ m, m < 27 ∧ wI b W27 0 = nI m ∧ ((wI b (Wk s) 0 = -1 ∧ ∀ w, w < (wv s).length → (wv s).getD w 99 ≠ m) ∨ ∃ w, w < (wv s).length ∧ (wv s).getD w 99 = m ∧ wI b (Wk s) 0 = nI w) := by
  obtain ⟨l1, l2⟩ := wk_l s hs
  by_cases c : ∃ m, m < 27 ∧ W27.getD m [] = b
  · obtain ⟨m, m1, m2⟩ := c
    refine Or.inr ⟨m, m1, ?_, ?_⟩
    · have := wI_hit b W27 0 m m1 m2 (fun i hi => by rw [← m2]; exact w27_d m m1 i hi)
      rw [Nat.zero_add] at this
      exact this
    · by_cases d : ∃ w, w < (wv s).length ∧ (wv s).getD w 99 = m
      · obtain ⟨w, w1, w2⟩ := d
        obtain ⟨k1, k2, k3⟩ := wk_d s hs w (by omega)
        have e : (Wk s).getD w [] = b := by rw [k1, w2, m2]
        have := wI_hit b (Wk s) 0 w (by omega) e (fun i hi => by rw [← e]; exact k3 i hi)
        rw [Nat.zero_add] at this
        exact Or.inr ⟨w, w1, w2, this⟩
      · refine Or.inl ⟨wI_miss b (Wk s) 0 (fun i hi z => ?_), fun w w1 w2 => d ⟨w, w1, w2⟩⟩
        obtain ⟨k1, k2, k3⟩ := wk_d s hs i hi
        rw [k1] at z
        have u : ∀ x y, x < 27 → y < 27 → W27.getD x [] = W27.getD y [] → x = y := fun x y hx hy hz => by
          rcases Nat.lt_trichotomy x y with g | g | g
          · exact absurd hz (w27_d y hy x g)
          · exact g
          · exact absurd hz.symm (w27_d x hx y g)
        exact d ⟨i, by omega, u _ _ k2 m1 (by rw [z, m2])⟩
  · refine Or.inl ⟨wI_miss b W27 0 (fun i hi z => c ⟨i, hi, z⟩), wI_miss b (Wk s) 0 (fun i hi z => ?_)⟩
    obtain ⟨k1, k2, k3⟩ := wk_d s hs i hi
    exact c ⟨_, k2, by rw [← k1]; exact z⟩
end
