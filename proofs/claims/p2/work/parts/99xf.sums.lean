/-! CODES on both sides; UNITS, SUMS -/
def CC (C : List (Nat × Nat)) (h : PH) : Prop := h 93 0 = 400 ∧ h 93 1 = 2 ∧ h 93 3 = nI C.length ∧ ∀ j k v, C[j]? = some (k, v) → h 94 (2 * j) = nI k ∧ h 94 (2 * j + 1) = nI v
def MC (C : List (Nat × Nat)) (h : PH) : Prop := h 104 25 = nI C.length ∧ ∀ j k v, C[j]? = some (k, v) → h 118 (800 + j) = nI k ∧ h 119 (800 + j) = nI v
theorem app_at {C : List (Nat × Nat)} {k v j k' v' : Nat} (h : (C ++ [(k, v)])[j]? = some (k', v')) : (j < C.length ∧ C[j]? = some (k', v')) ∨ (j = C.length ∧ k' = k ∧ v' = v) := by
  by_cases z : j < C.length
  · rw [List.getElem?_append_left z] at h
    exact Or.inl ⟨z, h⟩
  · rw [List.getElem?_append_right (by omega)] at h
    obtain ⟨a, _⟩ := List.getElem?_eq_some_iff.mp h
    have a : j - C.length < 1 := a
    rw [show j - C.length = 0 by omega] at h
    have h : some (k, v) = some (k', v') := h
    cases h
    exact Or.inr ⟨by omega, rfl, rfl⟩
theorem cc_add {C : List (Nat × Nat)} {h : PH} (c : CC C h) (hl : C.length < 400) (k v : Nat) : ∃ g, mR_add 93 (nI k) (nI v) 0 0 0 h = some (1, g) ∧ CC (C ++ [(k, v)]) g ∧ ∀ b, b ≠ 93 → b ≠ 94 → g b = h b := by
  obtain ⟨c0, c1, c3, c4⟩ := c
  generalize hn : C.length = n at c3 hl
  have k1 : up h 94 (2 * n) (nI k) 93 1 = 2 := by rw [up_oc (by decide)]; exact c1
  have k2 : up (up h 94 (2 * n) (nI k)) 94 (2 * n + 1) (nI v) 93 1 = 2 := by rw [up_oc (by decide)]; exact k1
  have k3 : up (up h 94 (2 * n) (nI k)) 94 (2 * n + 1) (nI v) 93 3 = nI n := by rw [up_oc (by decide), up_oc (by decide)]; exact c3
  have add : mR_add 93 (nI k) (nI v) 0 0 0 h = some (1, up (up (up h 94 (2 * n) (nI k)) 94 (2 * n + 1) (nI v)) 93 3 (nI (n + 1))) := by
    unfold mR_add
    rw [c3, c0, if_pos (show nI n < (400 : Int32) from nI_lt (b := 400) hl (by decide)), lt_e, c1, show nI n * (2 : Int32) = nI (n * 2) from nI_mul n 2, Nat.mul_comm n 2, show ln (93 + 1) = 800 from rfl, ck_nI (by omega) (by decide), lt_e, show ix (nI (2 * n)) = 2 * n from nI_clamp (by omega), jn1_e, if_neg (by rw [k1]; decide), nI_1, ck_nI (by omega) (by decide), lt_e, show ix (nI (2 * n + 1)) = 2 * n + 1 from nI_clamp (by omega)]
    dsimp only
    rw [jn1_e, if_pos (by rw [k2]; decide)]
    dsimp only
    rw [jn1_e, if_pos (by rw [k2]; decide)]
    dsimp only
    rw [jn1_e, if_pos (by rw [k2]; decide)]
    dsimp only
    rw [lt_e, k3, nI_1]
  refine ⟨_, add, ⟨?_, ?_, ?_, fun j k' v' hj => ?_⟩, fun b b1 b2 => ?_⟩
  · rw [up_oj (by decide), up_oc (by decide), up_oc (by decide)]; exact c0
  · rw [up_oj (by decide)]; exact k2
  · rw [up_same, List.length_append, hn]; rfl
  · rcases app_at hj with ⟨z, z2⟩ | ⟨z, z2, z3⟩
    · constructor
      · rw [up_oc (by decide), up_oj (by omega), up_oj (by omega)]
        exact (c4 j k' v' z2).1
      · rw [up_oc (by decide), up_oj (by omega), up_oj (by omega)]
        exact (c4 j k' v' z2).2
    · rw [z, hn, z2, z3]
      constructor
      · rw [up_oc (by decide), up_oj (by omega), up_same]
      · rw [up_oc (by decide), up_same]
  · funext j
    rw [up_oc b1, up_oc b2, up_oc b2]
theorem mc_add {C : List (Nat × Nat)} {h : PH} (c : MC C h) (hl : C.length < 400) (k v : Nat) : mm_emits (nI k) (nI v) h = some (emO h C.length (nI k) (nI v)) ∧ MC (C ++ [(k, v)]) (emO h C.length (nI k) (nI v)) := by
  refine ⟨emits_at h C.length hl c.1 _ _, ?_, fun j k' v' hj => ?_⟩
  · rw [emO_c, List.length_append]; rfl
  · rcases app_at hj with ⟨z, z2⟩ | ⟨z, z2, z3⟩
    · obtain ⟨a, b⟩ := emO_lo (h := h) (c := C.length) (x := nI k) (v := nI v) j z
      rw [a, b]
      exact c.2 j k' v' z2
    · rw [z, z2, z3]
      exact emO_op
def FC (h g : PH) : Prop := (∀ b, b ≠ 90 → b ≠ 93 → b ≠ 94 → g b = h b) ∧ g 90 8 = h 90 8
def FX (h g : PH) : Prop := (∀ b, b ≠ 104 → b ≠ 118 → b ≠ 119 → g b = h b) ∧ ∀ j, j ≠ 12 → j ≠ 13 → j ≠ 14 → j ≠ 15 → j ≠ 25 → j ≠ 29 → j ≠ 30 → g 104 j = h 104 j
theorem fc_r (h : PH) : FC h h := ⟨fun _ _ _ _ => rfl, rfl⟩
theorem fx_r (h : PH) : FX h h := ⟨fun _ _ _ _ => rfl, fun _ _ _ _ _ _ _ _ => rfl⟩
theorem fc_t {h g f : PH} (a : FC h g) (b : FC g f) : FC h f := ⟨fun x x1 x2 x3 => by rw [b.1 x x1 x2 x3, a.1 x x1 x2 x3], by rw [b.2, a.2]⟩
theorem fx_t {h g f : PH} (a : FX h g) (b : FX g f) : FX h f := ⟨fun x x1 x2 x3 => by rw [b.1 x x1 x2 x3, a.1 x x1 x2 x3], fun j j1 j2 j3 j4 j5 j6 j7 => by rw [b.2 j j1 j2 j3 j4 j5 j6 j7, a.2 j j1 j2 j3 j4 j5 j6 j7]⟩
theorem fx_4 {h g : PH} (a : FR4 h g) : FX h g := ⟨fun x x1 _ _ => a.1 x x1, fun j j1 j2 j3 j4 _ _ _ => a.2 j j1 j2 j3 j4⟩
theorem fx_em {h : PH} {c : Nat} {x v : Int32} : FX h (emO h c x v) := ⟨fun b b1 b2 b3 => emO_b b b1 b2 b3, fun j _ _ _ _ j5 _ _ => emO_104 j5⟩
theorem fc_av (h : PH) (k : Nat) : FC h (avH h k) := ⟨fun b b1 _ _ => avH_b h k b b1, avH_o h k 8 (by decide) (by decide) (by decide)⟩
theorem mu_em {B : Nat → Nat} {L i : Nat} {h : PH} (m : MU B L i h) (c : Nat) (x v : Int32) : MU B L i (emO h c x v) := by
  obtain ⟨⟨t1, t2, t3, t4⟩, m2, m3, m4⟩ := m
  refine ⟨⟨t1, by rw [emO_104 (by decide)]; exact t2, fun j hj => by rw [emO_b 111 (by decide) (by decide) (by decide)]; exact t3 j hj, fun j hj => by rw [emO_b 112 (by decide) (by decide) (by decide)]; exact t4 j hj⟩, by rw [emO_104 (by decide)]; exact m2, by rw [emO_104 (by decide)]; exact m3, by rw [emO_104 (by decide), emO_104 (by decide)]; exact m4⟩
theorem cu_b {s : Nat} {B : Nat → Nat} {L N i : Nat} {h g : PH} (c : CU s B L N i h) (f : ∀ b, b ≠ 93 → b ≠ 94 → g b = h b) : CU s B L N i g := by
  obtain ⟨c1, c2, c3, c4, c5, c6, c7⟩ := c
  refine ⟨ctk_b c1 (f 85 (by decide) (by decide)) (f 86 (by decide) (by decide)) (f 87 (by decide) (by decide)) (f 88 (by decide) (by decide)) (f 89 (by decide) (by decide)), c2, ?_, ?_, ?_, ?_, ?_⟩
  · rw [f 90 (by decide) (by decide)]; exact c3
  · rw [f 90 (by decide) (by decide), f 87 (by decide) (by decide)]; exact c4
  · rw [f 90 (by decide) (by decide), f 88 (by decide) (by decide)]; exact c5
  · rw [f 90 (by decide) (by decide)]; exact c6
  · rw [f 90 (by decide) (by decide)]; exact c7
theorem cc_b {C : List (Nat × Nat)} {h g : PH} (c : CC C h) (f3 : g 93 = h 93) (f4 : g 94 = h 94) : CC C g := by
  unfold CC at c ⊢
  rw [f3, f4]
  exact c
theorem mc_4 {C : List (Nat × Nat)} {h g : PH} (c : MC C h) (f : FR4 h g) : MC C g := by
  unfold MC at c ⊢
  rw [f.1 118 (by decide), f.1 119 (by decide), f.2 25 (by decide) (by decide) (by decide) (by decide)]
  exact c
/-- both stand at token i, with the same codes; w more may come -/
def JJ (s : Nat) (B : Nat → Nat) (L N i w : Nat) (C : List (Nat × Nat)) (hc hm : PH) : Prop := CU s B L N i hc ∧ MU B L i hm ∧ CC C hc ∧ MC (xp C) hm ∧ (xp C).length + w ≤ i
def FF (hc hm : PH) : Prop := hc 90 2 = hm 104 29 ∧ hc 90 3 = hm 104 30
theorem jj_w {s : Nat} {B : Nat → Nat} {L N i w w' : Nat} {C : List (Nat × Nat)} {hc hm : PH} (j : JJ s B L N i w C hc hm) (h : w' ≤ w) : JJ s B L N i w' C hc hm := ⟨j.1, j.2.1, j.2.2.1, j.2.2.2.1, by have := j.2.2.2.2; omega⟩
theorem j_adv {s : Nat} {B : Nat → Nat} {L N i w : Nat} {C : List (Nat × Nat)} {hc hm : PH} (j : JJ s B L N i w C hc hm) (n : (tt B L i).1 ≠ 0) : ∃ gm, mD_advance hc = some (avH hc (i + 1)) ∧ mm_reads hm = some gm ∧ JJ s B L N (i + 1) (w + 1) C (avH hc (i + 1)) gm ∧ FC hc (avH hc (i + 1)) ∧ FR4 hm gm := by
  obtain ⟨j1, j2, j3, j4, j5⟩ := j
  obtain ⟨a1, a2⟩ := cu_adv j1 (cu_lt j1 n)
  obtain ⟨gm, b1, b2, b3⟩ := mu_adv j2
  exact ⟨gm, a1, b1, ⟨a2, b3, cc_b j3 (avH_b hc _ 93 (by decide)) (avH_b hc _ 94 (by decide)), mc_4 j4 b2, by omega⟩, fc_av hc _, b2⟩
theorem j_emit {s : Nat} {B : Nat → Nat} {L N i w : Nat} {C : List (Nat × Nat)} {hc hm : PH} (j : JJ s B L N i (w + 1) C hc hm) (k v : Nat) (k5 : k ≠ 5) : ∃ gc gm, mR_add 93 (nI k) (nI v) 0 0 0 hc = some (1, gc) ∧ mm_emits (nI k) (nI v) hm = some gm ∧ JJ s B L N i w (C ++ [(k, v)]) gc gm ∧ FC hc gc ∧ FX hm gm ∧ gc 90 = hc 90 := by
  obtain ⟨j1, j2, j3, j4, j5⟩ := j
  have iN := j1.2.1
  have N4 := j1.1.2.1
  have le := xp_le C
  obtain ⟨gc, a1, a2, a3⟩ := cc_add j3 (by omega) k v
  obtain ⟨b1, b2⟩ := mc_add j4 (by omega) k v
  refine ⟨gc, _, a1, b1, ⟨cu_b j1 a3, mu_em j2 _ _ _, a2, ?_, ?_⟩, ⟨fun b b1 b2 b3 => a3 b b2 b3, by rw [a3 90 (by decide) (by decide)]⟩, fx_em, a3 90 (by decide) (by decide)⟩
  · rw [xp_app, xp_1 k5]
    exact b2
  · rw [xp_app, xp_1 k5, List.length_append]
    show (xp C).length + 1 + w ≤ i
    omega
theorem j_ref {s : Nat} {B : Nat → Nat} {L N i w : Nat} {C : List (Nat × Nat)} {hc hm : PH} (j : JJ s B L N i w C hc hm) (p : Int32) : ∃ gc gm, mD_refuse p hc = some (0, gc) ∧ mm_errs p hm = some (-1, gm) ∧ FF gc gm ∧ FC hc gc ∧ FX hm gm := by
  refine ⟨_, _, c_ref j.1 p, m_err j.2.1 p, ⟨?_, ?_⟩, ⟨fun b b1 _ _ => ?_, ?_⟩, ⟨fun b b1 _ _ => ?_, fun k _ _ _ _ _ k6 k7 => ?_⟩⟩
  · rw [up_oj (by decide), up_same, up_oj (by decide), up_same]
  · rw [up_same, up_same]
  · funext q; rw [up_oc b1, up_oc b1]
  · rw [up_oj (by decide), up_oj (by decide)]
  · funext q; rw [up_oc b1, up_oc b1]
  · rw [up_oj k7, up_oj k6]
/-- what a reading leaves: both went well, or both found the same fault -/
def PX (s : Nat) (B : Nat → Nat) (L N i0 w : Nat) (Q : List (Nat × Nat) → Prop) (C0 : List (Nat × Nat)) (hc0 hm0 : PH) (rc rm : Option (Int32 × PH)) : Prop :=
  (∃ i C hc hm, rc = some (1, hc) ∧ rm = some (0, hm) ∧ i0 < i ∧ JJ s B L N i w (C0 ++ C) hc hm ∧ Q C ∧ FC hc0 hc ∧ FX hm0 hm) ∨
  (∃ hc hm, rc = some (0, hc) ∧ rm = some (-1, hm) ∧ FF hc hm ∧ FC hc0 hc ∧ FX hm0 hm)
theorem px_err {s : Nat} {B : Nat → Nat} {L N i w i0 w0 : Nat} {C : List (Nat × Nat)} {hc hm : PH} {Q : List (Nat × Nat) → Prop} {C0 : List (Nat × Nat)} {hc0 hm0 : PH} (j : JJ s B L N i w C hc hm) (p : Int32) (a : FC hc0 hc) (b : FX hm0 hm) {rc rm : Option (Int32 × PH)} (ec : rc = bd2 (mD_refuse p hc) fun r h => some (nb r, h)) (em : rm = bd2 (mm_errs p hm) fun r h => some (r, h)) : PX s B L N i0 w0 Q C0 hc0 hm0 rc rm := by
  obtain ⟨gc, gm, r1, r2, r3, r4, r5⟩ := j_ref j p
  rw [r1, bd2_e] at ec
  rw [r2, bd2_e] at em
  exact Or.inr ⟨gc, gm, ec, em, r3, fc_t a r4, fx_t b r5⟩
/-! the readers' small pieces -/
theorem mu_num {h : PH} (e : h 104 14 = 3) : mm_readUnit h = (bd (mm_emits 0 (h 104 15) h) fun h8 => bd (mm_reads h8) fun h9 => some (0, h9)) := by
  unfold mm_readUnit
  rw [e]
  rfl
theorem mu_ask {h : PH} (e : h 104 14 = 2) (c : mm_canAsk (h 104 15) h = some 1) : mm_readUnit h = (bd (mm_emits 1 (h 104 15 - 7) h) fun h8 => bd (mm_reads h8) fun h9 => some (0, h9)) := by
  unfold mm_readUnit
  rw [e, c]
  rfl
theorem mu_bad2 {h : PH} (e : h 104 14 = 2) (c : mm_canAsk (h 104 15) h = some 0) : mm_readUnit h = bd2 (mm_errs 1 h) fun r h => some (r, h) := by
  unfold mm_readUnit
  rw [e, c]
  rfl
theorem mu_bad {h : PH} (e : h 104 14 = 0 ∨ h 104 14 = 1 ∨ h 104 14 = 4) : mm_readUnit h = bd2 (mm_errs 1 h) fun r h => some (r, h) := by
  unfold mm_readUnit
  rcases e with e | e | e <;> rw [e] <;> rfl
theorem ask_v : ∀ m, m < 27 → ∀ h : PH, mm_canAsk (nI m) h = some (if 7 ≤ m ∧ m ≤ 18 then 1 else 0) := by
  intro m hm h
  unfold mm_canAsk
  simp only [isIn_eq, bd_e]
  revert hm
  revert m
  decide +kernel
theorem cu_num {h : PH} (e : h 90 6 = 2) : mD_unit h = bd2 (mR_add 93 0 (h 90 7) 0 0 0 h) fun _ h5 => bd (mD_advance h5) fun h3 => some (1, h3) := by
  unfold mD_unit
  rw [e]
  rfl
theorem cu_kn {h : PH} (e : h 90 6 = 1) (c : ¬ h 90 7 < 7) : mD_unit h = bd2 (mR_add 93 1 (h 90 7 - 7) 0 0 0 h) fun _ h5 => bd (mD_advance h5) fun h3 => some (1, h3) := by
  unfold mD_unit
  rw [jn1_e, e, if_neg (by decide), jn0_e, if_pos rfl, if_neg c]
theorem cu_bad1 {h : PH} (e : h 90 6 = 1) (c : h 90 7 < 7) : mD_unit h = bd2 (mD_refuse 1 h) fun r h => some (nb r, h) := by
  unfold mD_unit
  rw [jn1_e, e, if_neg (by decide), jn0_e, if_pos rfl, if_pos c]
theorem cu_bad {h : PH} (e : h 90 6 = 0 ∨ h 90 6 = 3 ∨ h 90 6 = 4) : mD_unit h = bd2 (mD_refuse 1 h) fun r h => some (nb r, h) := by
  unfold mD_unit
  rcases e with e | e | e <;> rw [e] <;> rfl
theorem wv0 : ∀ w, w < 19 → (wv 0).getD w 99 = w := by decide
theorem wv0l : (wv 0).length = 19 := by decide
/-- a unit -/
theorem u_sim {B : Nat → Nat} {L N i w : Nat} {C : List (Nat × Nat)} {hc hm : PH} (j : JJ 0 B L N i w C hc hm) : (∃ u gc gm, mD_unit hc = some (1, gc) ∧ mm_readUnit hm = some (0, gm) ∧ JJ 0 B L N (i + 1) w (C ++ [u]) gc gm ∧ ((u.1 = 0 ∧ u.2 < 10000) ∨ (u.1 = 1 ∧ u.2 < 12)) ∧ FC hc gc ∧ FX hm gm) ∨ (∃ gc gm, mD_unit hc = some (0, gc) ∧ mm_readUnit hm = some (-1, gm) ∧ FF gc gm ∧ FC hc gc ∧ FX hm gm) := by
  have tc := cu_tk j.1
  have tm : TkM (tt B L i) (hm 104 14) (hm 104 15) := j.2.1.2.2.2
  have ok : ∀ k v, (tt B L i).1 ≠ 0 → k ≠ 5 → ((k = 0 ∧ v < 10000) ∨ (k = 1 ∧ v < 12)) → (mD_unit hc = bd2 (mR_add 93 (nI k) (nI v) 0 0 0 hc) fun _ h5 => bd (mD_advance h5) fun h3 => some (1, h3)) → (mm_readUnit hm = bd (mm_emits (nI k) (nI v) hm) fun h8 => bd (mm_reads h8) fun h9 => some (0, h9)) → ∃ u gc gm, mD_unit hc = some (1, gc) ∧ mm_readUnit hm = some (0, gm) ∧ JJ 0 B L N (i + 1) w (C ++ [u]) gc gm ∧ ((u.1 = 0 ∧ u.2 < 10000) ∨ (u.1 = 1 ∧ u.2 < 12)) ∧ FC hc gc ∧ FX hm gm := fun k v n0 k5 k01 ec em => by
    obtain ⟨j1, j2, j3, j4, j5⟩ := j
    have iN := cu_lt j1 n0
    have N4 := j1.1.2.1
    have le := xp_le C
    obtain ⟨gc, a1, a2, a3⟩ := cc_add j3 (by omega) k v
    obtain ⟨b1, b2⟩ := mc_add j4 (by omega) k v
    obtain ⟨d1, d2⟩ := cu_adv (cu_b j1 a3) iN
    obtain ⟨gm, e1, e2, e3⟩ := mu_adv (mu_em j2 (xp C).length (nI k) (nI v))
    rw [a1, bd2_e, d1, bd_e] at ec
    rw [b1, bd_e, e1, bd_e] at em
    refine ⟨(k, v), _, _, ec, em, ⟨d2, e3, cc_b a2 (avH_b gc _ 93 (by decide)) (avH_b gc _ 94 (by decide)), ?_, ?_⟩, k01, fc_t ⟨fun b b1 b2 b3 => a3 b b2 b3, by rw [a3 90 (by decide) (by decide)]⟩ (fc_av gc _), fx_t fx_em (fx_4 e2)⟩
    · rw [xp_app, xp_1 k5]
      exact mc_4 b2 e2
    · rw [xp_app, xp_1 k5, List.length_append]
      show (xp C).length + 1 + w ≤ i + 1
      omega
  have bad : mD_unit hc = (bd2 (mD_refuse 1 hc) fun r h => some (nb r, h)) → mm_readUnit hm = (bd2 (mm_errs 1 hm) fun r h => some (r, h)) → ∃ gc gm, mD_unit hc = some (0, gc) ∧ mm_readUnit hm = some (-1, gm) ∧ FF gc gm ∧ FC hc gc ∧ FX hm gm := fun ec em => by
    obtain ⟨gc, gm, r1, r2, r3, r4, r5⟩ := j_ref j 1
    rw [r1, bd2_e] at ec
    rw [r2, bd2_e] at em
    exact ⟨gc, gm, ec, em, r3, r4, r5⟩
  rcases tm with ⟨a, e⟩ | ⟨a, e⟩ | ⟨a, a2, e, e2⟩ | ⟨a, a2, e, e2⟩ | ⟨a, a2, e, e2⟩
  · refine Or.inr (bad ?_ (mu_bad (Or.inl e)))
    rcases tc with ⟨b, f⟩ | ⟨b, f⟩ | ⟨b, _⟩ | ⟨b, _⟩ | ⟨b, _⟩
    · exact cu_bad (Or.inl f)
    all_goals (rw [a] at b; exact absurd b (by decide))
  · refine Or.inr (bad ?_ (mu_bad (Or.inr (Or.inl e))))
    rcases tc with ⟨b, f⟩ | ⟨b, f⟩ | ⟨b, _⟩ | ⟨b, _⟩ | ⟨b, _⟩
    · rw [a] at b; exact absurd b (by decide)
    · exact cu_bad (Or.inr (Or.inr f))
    all_goals (rw [a] at b; exact absurd b (by decide))
  · have av := ask_v (tt B L i).2 a2 hm
    rw [← e2] at av
    rcases tc with ⟨b, f⟩ | ⟨b, f⟩ | ⟨b, b2, ⟨x, x1, x2, f, f2⟩ | ⟨f, f2⟩⟩ | ⟨b, _⟩ | ⟨b, _⟩
    · rw [a] at b; exact absurd b (by decide)
    · rw [a] at b; exact absurd b (by decide)
    · rw [wv0l] at x1
      rw [wv0 x x1] at x2
      by_cases c7 : x < 7
      · rw [if_neg (by omega)] at av
        refine Or.inr (bad (cu_bad1 f ?_) (mu_bad2 e av))
        rw [f2]
        exact nI_lt (b := 7) c7 (by decide)
      · rw [if_pos (by omega)] at av
        have s7 : nI x - 7 = nI (x - 7) := by rw [show (7 : Int32) = nI 7 from rfl, nI_sub (by omega)]
        refine Or.inl (ok 1 (x - 7) (by omega) (by decide) (Or.inr ⟨rfl, by omega⟩) ?_ ?_)
        · rw [cu_kn f (by rw [f2]; exact nI_nlt (b := 7) (by omega) (by omega)), f2, s7]; rfl
        · rw [mu_ask e av, e2, ← x2, s7]; rfl
    · have c7 : ¬ (7 ≤ (tt B L i).2 ∧ (tt B L i).2 ≤ 18) := fun z => f2 (tt B L i).2 (by rw [wv0l]; omega) (wv0 _ (by omega))
      rw [if_neg c7] at av
      exact Or.inr (bad (cu_bad (Or.inr (Or.inr f))) (mu_bad2 e av))
    · rw [a] at b; exact absurd b (by decide)
    · rw [a] at b; exact absurd b (by decide)
  · rcases tc with ⟨b, f⟩ | ⟨b, f⟩ | ⟨b, _⟩ | ⟨b, b2, f, f2⟩ | ⟨b, _⟩
    · rw [a] at b; exact absurd b (by decide)
    · rw [a] at b; exact absurd b (by decide)
    · rw [a] at b; exact absurd b (by decide)
    · refine Or.inl (ok 0 (tt B L i).2 (by omega) (by decide) (Or.inl ⟨rfl, b2⟩) ?_ ?_)
      · rw [cu_num f, f2]; rfl
      · rw [mu_num e, e2]; rfl
    · rw [a] at b; exact absurd b (by decide)
  · refine Or.inr (bad ?_ (mu_bad (Or.inr (Or.inr e))))
    rcases tc with ⟨b, f⟩ | ⟨b, f⟩ | ⟨b, _⟩ | ⟨b, _⟩ | ⟨b, b2, f, f2⟩
    · rw [a] at b; exact absurd b (by decide)
    · rw [a] at b; exact absurd b (by decide)
    · rw [a] at b; exact absurd b (by decide)
    · rw [a] at b; exact absurd b (by decide)
    · exact cu_bad (Or.inr (Or.inl f))
