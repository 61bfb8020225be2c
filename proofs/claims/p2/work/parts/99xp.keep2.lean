/-! THE TAPE: the same bytes on both sides -/
theorem m255 : ∀ i, i < 32 → (255 : Int32).toBitVec.getLsbD i = decide (i < 8) := by decide
theorem low8 {x y : Int32} (h : ∀ i, i < 8 → x.toBitVec.getLsbD i = y.toBitVec.getLsbD i) : x &&& 255 = y &&& 255 := by
  apply Int32.toBitVec_inj.mp
  rw [Int32.toBitVec_and, Int32.toBitVec_and]
  apply BitVec.eq_of_getLsbD_eq
  intro i hi
  rw [BitVec.getLsbD_and, BitVec.getLsbD_and, m255 i hi]
  by_cases c : i < 8
  · rw [h i c]
  · rw [decide_eq_false c, Bool.and_false, Bool.and_false]
theorem i2b_b (x : Int32) (i : Nat) (hi : i < 8) : (i2b x).toBitVec.getLsbD i = x.toBitVec.getLsbD i := by
  unfold i2b
  rw [Int8.toBitVec_toInt32, Int32.toBitVec_toInt8, BitVec.getLsbD_signExtend, if_pos (by omega), BitVec.getLsbD_signExtend, if_pos (by omega)]
  have h32 : i < 32 := by omega
  simp [hi, h32]
theorem byte_eq (p v : Int32) (k : Nat) (hk : (v = 24 ∧ k = 24) ∨ (v = 16 ∧ k = 16) ∨ (v = 8 ∧ k = 8) ∨ (v = 0 ∧ k = 0)) : (i2b (i2b (ushr p v)) &&& 255) = ((p >>> (v &&& 31)) &&& 255) := by
  refine low8 (fun i hi => ?_)
  rw [i2b_b _ i hi, i2b_b _ i hi]
  have e1 : (ushr p v).toBitVec.getLsbD i = p.toBitVec.getLsbD (i + k) := by
    have : (ushr p v).toBitVec = p.toBitVec >>> k := by
      rcases hk with ⟨rfl, rfl⟩ | ⟨rfl, rfl⟩ | ⟨rfl, rfl⟩ | ⟨rfl, rfl⟩ <;> rfl
    rw [this, BitVec.getLsbD_ushiftRight, Nat.add_comm]
  have e2 : (p >>> (v &&& 31)).toBitVec.getLsbD i = p.toBitVec.getLsbD (i + k) := by
    have : (p >>> (v &&& 31)).toBitVec = p.toBitVec.sshiftRight k := by
      rcases hk with ⟨rfl, rfl⟩ | ⟨rfl, rfl⟩ | ⟨rfl, rfl⟩ | ⟨rfl, rfl⟩ <;> rfl
    rw [this, BitVec.getLsbD_sshiftRight, Nat.add_comm]
    have : i + k < 32 := by omega
    simp [this]
    omega
  rw [e1, e2]
def TPX (hc hm : PH) (l : Nat) : Prop := ∀ j, j < l → (hc 86 j &&& 255) = hm 111 j ∧ R 0 255 (hm 111 j)
theorem r255 (x : Int32) : R 0 255 (x &&& 255) := r_and (a := 255) ⟨by decide, by decide⟩ (by decide)
theorem tk4 (p : Int32) (hc hm : PH) (l : Nat) (ec : hc 85 4 = nI l) (em : hm 104 11 = nI l) (hl : l + 4 ≤ 400) (t : TPX hc hm l) : ∃ hc' hm', mA_take p hc = some hc' ∧ mm_types p hm = some hm' ∧ hc' 85 4 = nI (l + 4) ∧ hm' 104 11 = nI (l + 4) ∧ TPX hc' hm' (l + 4) := by
  unfold mA_take mm_types
  rw [show FU = 99995 + 1 + 1 + 1 + 1 + 1 from rfl]
  rw [tk_step (by decide) ec (by omega), tk_step (l := l + 1) (by decide) (by simp [up_at]) (by omega), tk_step (l := l + 1 + 1) (by decide) (by simp [up_at]) (by omega), tk_step (l := l + 1 + 1 + 1) (by decide) (by simp [up_at]) (by omega), mA_take_L3, if_pos (by decide)]
  rw [ty_step (by decide) em (by omega), ty_step (l := l + 1) (by decide) (by simp [up_at]) (by omega), ty_step (l := l + 1 + 1) (by decide) (by simp [up_at]) (by omega), ty_step (l := l + 1 + 1 + 1) (by decide) (by simp [up_at]) (by omega), mm_types_L3, if_pos (by decide)]
  refine ⟨_, _, rfl, rfl, by simp [up_at], by simp [up_at], fun j hj => ?_⟩
  have b0 := byte_eq p 24 24 (Or.inl ⟨rfl, rfl⟩)
  have b1 := byte_eq p 16 16 (Or.inr (Or.inl ⟨rfl, rfl⟩))
  have b2 := byte_eq p 8 8 (Or.inr (Or.inr (Or.inl ⟨rfl, rfl⟩)))
  have b3 := byte_eq p 0 0 (Or.inr (Or.inr (Or.inr ⟨rfl, rfl⟩)))
  have v1 : (24 : Int32) + (-8) = 16 := by decide
  have v2 : (16 : Int32) + (-8) = 8 := by decide
  have v3 : (8 : Int32) + (-8) = 0 := by decide
  rw [v1, v2, v3]
  have oc : ∀ (h : PH) (x : Nat) (v : Int32) (j : Nat), up h 85 x v 86 j = h 86 j := fun h x v j => up_oc (by decide)
  have om : ∀ (h : PH) (x : Nat) (v : Int32) (j : Nat), up h 104 x v 111 j = h 111 j := fun h x v j => up_oc (by decide)
  repeat rw [oc]
  repeat rw [om]
  by_cases c3 : j = l + 1 + 1 + 1
  · subst c3
    rw [up_same, up_same, b3]
    exact ⟨rfl, r255 _⟩
  · rw [up_oj c3, oc, up_oj c3, om]
    by_cases c2 : j = l + 1 + 1
    · subst c2
      rw [up_same, up_same, b2]
      exact ⟨rfl, r255 _⟩
    · rw [up_oj c2, oc, up_oj c2, om]
      by_cases c1 : j = l + 1
      · subst c1
        rw [up_same, up_same, b1]
        exact ⟨rfl, r255 _⟩
      · rw [up_oj c1, oc, up_oj c1, om]
        by_cases c0 : j = l
        · subst c0
          rw [up_same, up_same, b0]
          exact ⟨rfl, r255 _⟩
        · rw [up_oj c0, up_oj c0]
          exact t j (by omega)
theorem rt_feed (a b c d e : Int32) (h : PH) (i : IM h) (rl : RLA h) (r : TPR h) {rX rm : Int32} {h1 h2 : PH} (e1 : mX_feed a b c d e h = some (rX, h1)) (e2 : mm_feed a b c d e h1 = some (rm, h2)) (cs : CS h h1 h2) : TPR h2 := by
  obtain ⟨l, l1, l2, el⟩ := nat_of (show R 0 400 (h 85 4) from inv_rng i.1 rfl) (by decide)
  have em0 : h 104 11 = nI l := by rw [← rl.2.2.2]; exact el
  have em : up h1 104 0 0 104 11 = nI l := by rw [up_oj (by decide), cs.2.2.2.1 104 (by decide)]; exact em0
  have t0 : TPX h (up h1 104 0 0) l := fun j hj => by
    rw [up_oc (by decide), cs.2.2.2.1 111 (by decide)]
    exact r j (by rw [em0, nI_toInt l2]; omega)
  unfold mX_feed at e1
  unfold mm_feed at e2
  rw [lt_e, em] at e2
  rw [el, show nI l + 20 = nI (l + 20) from nI_add l 20] at e1
  by_cases cc : l + 20 ≤ 400
  · rw [if_pos (show nI (l + 20) ≤ (400 : Int32) from nI_le (b := 400) cc (by omega))] at e1
    rw [if_pos (show nI l ≤ (380 : Int32) from nI_le (b := 380) (by omega) (by omega))] at e2
    obtain ⟨c1, m1, p1, q1, x1, y1, t1⟩ := tk4 a h (up h1 104 0 0) l el em (by omega) t0
    obtain ⟨c2, m2, p2, q2, x2, y2, t2⟩ := tk4 b c1 m1 (l + 4) x1 y1 (by omega) t1
    obtain ⟨c3, m3, p3, q3, x3, y3, t3⟩ := tk4 c c2 m2 (l + 4 + 4) x2 y2 (by omega) t2
    obtain ⟨c4, m4, p4, q4, x4, y4, t4⟩ := tk4 d c3 m3 (l + 4 + 4 + 4) x3 y3 (by omega) t3
    obtain ⟨c5, m5, p5, q5, x5, y5, t5⟩ := tk4 e c4 m4 (l + 4 + 4 + 4 + 4) x4 y4 (by omega) t4
    rw [p1, bd_e, p2, bd_e, p3, bd_e, p4, bd_e, p5, bd_e] at e1
    rw [q1, bd_e, q2, bd_e, q3, bd_e, q4, bd_e, q5, bd_e] at e2
    cases e1
    cases e2
    intro j hj
    rw [y5, nI_toInt (by omega)] at hj
    rw [cs.2.2.2.2 86 (by decide)]
    exact t5 j (by omega)
  · rw [if_neg (show ¬ nI (l + 20) ≤ (400 : Int32) from nI_ge (a := 400) (by omega) (by omega))] at e1
    rw [if_neg (show ¬ nI l ≤ (380 : Int32) from nI_ge (a := 380) (by omega) (by omega))] at e2
    cases e1
    cases e2
    intro j hj
    rw [em, nI_toInt l2] at hj
    rw [up_oc (by decide)]
    exact t0 j (by omega)
/-! THE TAPE AND THE FAULT, kept by every call. Printed by wip/gen/prtx.py -/
theorem rtx_fr {h g : PH} (e86 : g 86 = h 86) (e90 : g 90 = h 90) (e111 : g 111 = h 111) (e11 : g 104 11 = h 104 11) (e31 : g 104 31 = h 104 31) (e32 : g 104 32 = h 104 32) (r : RTX h) : RTX g := by
  unfold RTX TPR at r ⊢
  rw [e86, e90, e111, e11, e31, e32]
  exact r
theorem rtx_cs {S T : List Nat} {h h1 h2 : PH} (f1 : Fr S h1 h) (f2 : Fk T h2 h1) (s1 : 86 ∉ S ∧ 90 ∉ S) (s2 : 1011 ∉ T ∧ 1031 ∉ T ∧ 1032 ∉ T ∧ 111 ∉ T) (s3 : ∀ b, b ∈ S → b < 104) (s4 : ∀ b, b ∈ T → 104 ≤ b) (r : RTX h) : RTX h2 := by
  have kn : ∀ b j, b ≠ 104 → kk b j = b := fun b j hb => by unfold kk; rw [if_neg hb]
  have a104 : h1 104 = h 104 := f1 104 (fun q => by have := s3 104 q; omega)
  have a111 : h1 111 = h 111 := f1 111 (fun q => by have := s3 111 q; omega)
  have lo : ∀ b, b < 104 → h2 b = h1 b := fun b hb => funext fun j => f2 b j (by rw [kn b j (by omega)]; intro q; have := s4 b q; omega)
  refine rtx_fr (by rw [lo 86 (by decide), f1 86 s1.1]) (by rw [lo 90 (by decide), f1 90 s1.2]) ?_ (by rw [← a104]; exact f2 104 11 s2.1) (by rw [← a104]; exact f2 104 31 s2.2.1) (by rw [← a104]; exact f2 104 32 s2.2.2.1) r
  rw [← a111]
  funext j
  exact f2 111 j (by rw [kn 111 j (by decide)]; exact s2.2.2.2)
theorem rtx_first : RTX hI := ⟨fun j hj => by
  have : (hI 104 11).toInt = 0 := rfl
  omega, rfl, rfl⟩
theorem rx_feed (a1 a2 a3 a4 a5 : Int32) (h : PH) (i : IM h) (rl : RLA h) (r : RTX h) {rX rm : Int32} {h1 h2 : PH} (e1 : mX_feed a1 a2 a3 a4 a5 h = some (rX, h1)) (e2 : mm_feed a1 a2 a3 a4 a5 h1 = some (rm, h2)) (cs : CS h h1 h2) : RTX h2 := by
  have a := fkm_feed a1 a2 a3 a4 a5 h1 e2 104 31 (show kk 104 31 ∉ FKdm_feed _ _ _ _ _ from (by decide : 1031 ∉ FKdm_feed 0 0 0 0 0))
  have b := fkm_feed a1 a2 a3 a4 a5 h1 e2 104 32 (show kk 104 32 ∉ FKdm_feed _ _ _ _ _ from (by decide : 1032 ∉ FKdm_feed 0 0 0 0 0))
  have c : h1 90 = h 90 := fpX_feed a1 a2 a3 a4 a5 h e1 90 (show 90 ∉ FPdX_feed _ _ _ _ _ from (by decide : 90 ∉ FPdX_feed 0 0 0 0 0))
  refine ⟨rt_feed a1 a2 a3 a4 a5 h i rl r.1 e1 e2 cs, ?_, ?_⟩
  · rw [cs.2.2.2.2 90 (by decide), c, show h2 104 31 = h1 104 31 from a, cs.2.2.2.1 104 (by decide)]; exact r.2.1
  · rw [cs.2.2.2.2 90 (by decide), c, show h2 104 32 = h1 104 32 from b, cs.2.2.2.1 104 (by decide)]; exact r.2.2
theorem rx_end (a1 : Int32) (h : PH) (i : IM h) (r : RTX h) {rX rm : Int32} {h1 h2 : PH} (e1 : mX_end a1 h = some (rX, h1)) (e2 : mm_end a1 h1 = some (rm, h2)) (cs : CS h h1 h2) : RTX h2 := by
  have a := fkm_end a1 h1 e2 104 31 (show kk 104 31 ∉ FKdm_end _ from (by decide : 1031 ∉ FKdm_end 0))
  have b := fkm_end a1 h1 e2 104 32 (show kk 104 32 ∉ FKdm_end _ from (by decide : 1032 ∉ FKdm_end 0))
  have c : h1 90 = h 90 := fpX_end a1 h e1 90 (show 90 ∉ FPdX_end _ from (by decide : 90 ∉ FPdX_end 0))
  have d : h1 86 = h 86 := fpX_end a1 h e1 86 (show 86 ∉ FPdX_end _ from (by decide : 86 ∉ FPdX_end 0))
  have f : h2 111 = h1 111 := funext fun j => fkm_end a1 h1 e2 111 j (show kk 111 j ∉ FKdm_end _ from (by decide : 111 ∉ FKdm_end 0))
  have le : (h2 104 11).toInt ≤ (h 104 11).toInt := by
    unfold mm_end at e2
    rw [lt_e, up_oj (by decide), cs.2.2.2.1 104 (by decide)] at e2
    by_cases q : 0 ≤ a1 ∧ a1 ≤ h 104 11
    · rw [isIn_y q, bd_e, if_neg (by decide), lt_e] at e2
      cases e2
      rw [up_same]
      exact (Int32.le_iff_toInt_le).mp q.2
    · rw [isIn_n q, bd_e, if_pos rfl] at e2
      cases e2
      rw [up_oj (by decide), cs.2.2.2.1 104 (by decide)]
      exact Int.le_refl _
  refine ⟨fun j hj => ?_, ?_, ?_⟩
  · rw [cs.2.2.2.2 86 (by decide), d, f, cs.2.2.2.1 111 (by decide)]
    exact r.1 j (by omega)
  · rw [cs.2.2.2.2 90 (by decide), c, show h2 104 31 = h1 104 31 from a, cs.2.2.2.1 104 (by decide)]; exact r.2.1
  · rw [cs.2.2.2.2 90 (by decide), c, show h2 104 32 = h1 104 32 from b, cs.2.2.2.1 104 (by decide)]; exact r.2.2
theorem rx_state (a1 : Int32) (h : PH) (r : RTX h) {rX rm : Int32} {h1 h2 : PH} (e1 : mX_state a1 h = some (rX, h1)) (e2 : mm_state a1 h1 = some (rm, h2)) : RTX h2 := rtx_cs (fpX_state a1 h e1) (fkm_state a1 h1 e2) (by decide : 86 ∉ FPdX_state 0 ∧ 90 ∉ FPdX_state 0) (by decide : 1011 ∉ FKdm_state 0 ∧ 1031 ∉ FKdm_state 0 ∧ 1032 ∉ FKdm_state 0 ∧ 111 ∉ FKdm_state 0) (by decide : ∀ b, b ∈ FPdX_state 0 → b < 104) (by decide : ∀ b, b ∈ FKdm_state 0 → 104 ≤ b) r
theorem rx_house (a1 a2 a3 : Int32) (h : PH) (r : RTX h) {rX rm : Int32} {h1 h2 : PH} (e1 : mX_house a1 a2 a3 h = some (rX, h1)) (e2 : mm_house a1 a2 a3 h1 = some (rm, h2)) : RTX h2 := rtx_cs (fpX_house a1 a2 a3 h e1) (fkm_house a1 a2 a3 h1 e2) (by decide : 86 ∉ FPdX_house 0 0 0 ∧ 90 ∉ FPdX_house 0 0 0) (by decide : 1011 ∉ FKdm_house 0 0 0 ∧ 1031 ∉ FKdm_house 0 0 0 ∧ 1032 ∉ FKdm_house 0 0 0 ∧ 111 ∉ FKdm_house 0 0 0) (by decide : ∀ b, b ∈ FPdX_house 0 0 0 → b < 104) (by decide : ∀ b, b ∈ FKdm_house 0 0 0 → 104 ≤ b) r
theorem rx_set (a1 a2 a3 : Int32) (h : PH) (r : RTX h) {rX rm : Int32} {h1 h2 : PH} (e1 : mX_set a1 a2 a3 h = some (rX, h1)) (e2 : mm_set a1 a2 a3 h1 = some (rm, h2)) : RTX h2 := rtx_cs (fpX_set a1 a2 a3 h e1) (fkm_set a1 a2 a3 h1 e2) (by decide : 86 ∉ FPdX_set 0 0 0 ∧ 90 ∉ FPdX_set 0 0 0) (by decide : 1011 ∉ FKdm_set 0 0 0 ∧ 1031 ∉ FKdm_set 0 0 0 ∧ 1032 ∉ FKdm_set 0 0 0 ∧ 111 ∉ FKdm_set 0 0 0) (by decide : ∀ b, b ∈ FPdX_set 0 0 0 → b < 104) (by decide : ∀ b, b ∈ FKdm_set 0 0 0 → 104 ≤ b) r
theorem rx_act (a1 a2 a3 : Int32) (h : PH) (r : RTX h) {rX rm : Int32} {h1 h2 : PH} (e1 : mX_act a1 a2 a3 h = some (rX, h1)) (e2 : mm_act a1 a2 a3 h1 = some (rm, h2)) : RTX h2 := rtx_cs (fpX_act a1 a2 a3 h e1) (fkm_act a1 a2 a3 h1 e2) (by decide : 86 ∉ FPdX_act 0 0 0 ∧ 90 ∉ FPdX_act 0 0 0) (by decide : 1011 ∉ FKdm_act 0 0 0 ∧ 1031 ∉ FKdm_act 0 0 0 ∧ 1032 ∉ FKdm_act 0 0 0 ∧ 111 ∉ FKdm_act 0 0 0) (by decide : ∀ b, b ∈ FPdX_act 0 0 0 → b < 104) (by decide : ∀ b, b ∈ FKdm_act 0 0 0 → 104 ≤ b) r
theorem rx_quarters (a1 : Int32) (h : PH) (r : RTX h) {rX rm : Int32} {h1 h2 : PH} (e1 : mX_quarters a1 h = some (rX, h1)) (e2 : mm_quarters a1 h1 = some (rm, h2)) : RTX h2 := rtx_cs (fpX_quarters a1 h e1) (fkm_quarters a1 h1 e2) (by decide : 86 ∉ FPdX_quarters 0 ∧ 90 ∉ FPdX_quarters 0) (by decide : 1011 ∉ FKdm_quarters 0 ∧ 1031 ∉ FKdm_quarters 0 ∧ 1032 ∉ FKdm_quarters 0 ∧ 111 ∉ FKdm_quarters 0) (by decide : ∀ b, b ∈ FPdX_quarters 0 → b < 104) (by decide : ∀ b, b ∈ FKdm_quarters 0 → 104 ≤ b) r
theorem rx_fault (a1 : Int32) (h : PH) (r : RTX h) {rm : Int32} {h2 : PH} (e2 : mm_fault a1 h = some (rm, h2)) : RTX h2 := rtx_cs (S := []) (fun _ _ => rfl) (fkm_fault a1 h e2) (by decide) (by decide : 1011 ∉ FKdm_fault 0 ∧ 1031 ∉ FKdm_fault 0 ∧ 1032 ∉ FKdm_fault 0 ∧ 111 ∉ FKdm_fault 0) (by decide) (by decide : ∀ b, b ∈ FKdm_fault 0 → 104 ≤ b) r
theorem rx_of (a1 a2 : Int32) (h : PH) (r : RTX h) {rX rm : Int32} {h1 h2 : PH} (e1 : mX_of a1 a2 h = some (rX, h1)) (e2 : mm_of a1 a2 h1 = some (rm, h2)) : RTX h2 := rtx_cs (fpX_of a1 a2 h e1) (fkm_of a1 a2 h1 e2) (by decide : 86 ∉ FPdX_of 0 0 ∧ 90 ∉ FPdX_of 0 0) (by decide : 1011 ∉ FKdm_of 0 0 ∧ 1031 ∉ FKdm_of 0 0 ∧ 1032 ∉ FKdm_of 0 0 ∧ 111 ∉ FKdm_of 0 0) (by decide : ∀ b, b ∈ FPdX_of 0 0 → b < 104) (by decide : ∀ b, b ∈ FKdm_of 0 0 → 104 ≤ b) r
theorem rx_book (a1 a2 : Int32) (h : PH) (r : RTX h) {rm : Int32} {h2 : PH} (e2 : mm_book a1 a2 h = some (rm, h2)) : RTX h2 := rtx_cs (S := []) (fun _ _ => rfl) (fkm_book a1 a2 h e2) (by decide) (by decide : 1011 ∉ FKdm_book 0 0 ∧ 1031 ∉ FKdm_book 0 0 ∧ 1032 ∉ FKdm_book 0 0 ∧ 111 ∉ FKdm_book 0 0) (by decide) (by decide : ∀ b, b ∈ FKdm_book 0 0 → 104 ≤ b) r
theorem rx_goes (a1 a2 : Int32) (h : PH) (r : RTX h) {rX rm : Int32} {h1 h2 : PH} (e1 : mX_goes a1 a2 h = some (rX, h1)) (e2 : mm_goes a1 a2 h1 = some (rm, h2)) : RTX h2 := rtx_cs (fpX_goes a1 a2 h e1) (fkm_goes a1 a2 h1 e2) (by decide : 86 ∉ FPdX_goes 0 0 ∧ 90 ∉ FPdX_goes 0 0) (by decide : 1011 ∉ FKdm_goes 0 0 ∧ 1031 ∉ FKdm_goes 0 0 ∧ 1032 ∉ FKdm_goes 0 0 ∧ 111 ∉ FKdm_goes 0 0) (by decide : ∀ b, b ∈ FPdX_goes 0 0 → b < 104) (by decide : ∀ b, b ∈ FKdm_goes 0 0 → 104 ≤ b) r
theorem rx_stands (a1 : Int32) (h : PH) (r : RTX h) {rX rm : Int32} {h1 h2 : PH} (e1 : mX_stands a1 h = some (rX, h1)) (e2 : mm_stands a1 h1 = some (rm, h2)) : RTX h2 := rtx_cs (fpX_stands a1 h e1) (fkm_stands a1 h1 e2) (by decide : 86 ∉ FPdX_stands 0 ∧ 90 ∉ FPdX_stands 0) (by decide : 1011 ∉ FKdm_stands 0 ∧ 1031 ∉ FKdm_stands 0 ∧ 1032 ∉ FKdm_stands 0 ∧ 111 ∉ FKdm_stands 0) (by decide : ∀ b, b ∈ FPdX_stands 0 → b < 104) (by decide : ∀ b, b ∈ FKdm_stands 0 → 104 ≤ b) r
theorem rx_hears (a1 a2 : Int32) (h : PH) (r : RTX h) {rX rm : Int32} {h1 h2 : PH} (e1 : mX_hears a1 a2 h = some (rX, h1)) (e2 : mm_hears a1 a2 h1 = some (rm, h2)) : RTX h2 := rtx_cs (fpX_hears a1 a2 h e1) (fkm_hears a1 a2 h1 e2) (by decide : 86 ∉ FPdX_hears 0 0 ∧ 90 ∉ FPdX_hears 0 0) (by decide : 1011 ∉ FKdm_hears 0 0 ∧ 1031 ∉ FKdm_hears 0 0 ∧ 1032 ∉ FKdm_hears 0 0 ∧ 111 ∉ FKdm_hears 0 0) (by decide : ∀ b, b ∈ FPdX_hears 0 0 → b < 104) (by decide : ∀ b, b ∈ FKdm_hears 0 0 → 104 ≤ b) r
theorem rx_heard (a1 a2 : Int32) (h : PH) (r : RTX h) {rX rm : Int32} {h1 h2 : PH} (e1 : mX_heard a1 a2 h = some (rX, h1)) (e2 : mm_heard a1 a2 h1 = some (rm, h2)) : RTX h2 := rtx_cs (fpX_heard a1 a2 h e1) (fkm_heard a1 a2 h1 e2) (by decide : 86 ∉ FPdX_heard 0 0 ∧ 90 ∉ FPdX_heard 0 0) (by decide : 1011 ∉ FKdm_heard 0 0 ∧ 1031 ∉ FKdm_heard 0 0 ∧ 1032 ∉ FKdm_heard 0 0 ∧ 111 ∉ FKdm_heard 0 0) (by decide : ∀ b, b ∈ FPdX_heard 0 0 → b < 104) (by decide : ∀ b, b ∈ FKdm_heard 0 0 → 104 ≤ b) r
theorem rx_ants (a1 a2 : Int32) (h : PH) (r : RTX h) {rX rm : Int32} {h1 h2 : PH} (e1 : mX_ants a1 a2 h = some (rX, h1)) (e2 : mm_ants a1 a2 h1 = some (rm, h2)) : RTX h2 := rtx_cs (fpX_ants a1 a2 h e1) (fkm_ants a1 a2 h1 e2) (by decide : 86 ∉ FPdX_ants 0 0 ∧ 90 ∉ FPdX_ants 0 0) (by decide : 1011 ∉ FKdm_ants 0 0 ∧ 1031 ∉ FKdm_ants 0 0 ∧ 1032 ∉ FKdm_ants 0 0 ∧ 111 ∉ FKdm_ants 0 0) (by decide : ∀ b, b ∈ FPdX_ants 0 0 → b < 104) (by decide : ∀ b, b ∈ FKdm_ants 0 0 → 104 ≤ b) r
theorem rx_piece (a1 : Int32) (h : PH) (r : RTX h) {rX rm : Int32} {h1 h2 : PH} (e1 : mX_piece a1 h = some (rX, h1)) (e2 : mm_piece a1 h1 = some (rm, h2)) : RTX h2 := rtx_cs (fpX_piece a1 h e1) (fkm_piece a1 h1 e2) (by decide : 86 ∉ FPdX_piece 0 ∧ 90 ∉ FPdX_piece 0) (by decide : 1011 ∉ FKdm_piece 0 ∧ 1031 ∉ FKdm_piece 0 ∧ 1032 ∉ FKdm_piece 0 ∧ 111 ∉ FKdm_piece 0) (by decide : ∀ b, b ∈ FPdX_piece 0 → b < 104) (by decide : ∀ b, b ∈ FKdm_piece 0 → 104 ≤ b) r
theorem rx_plate (a1 a2 : Int32) (h : PH) (r : RTX h) {rm : Int32} {h2 : PH} (e2 : mm_plate a1 a2 h = some (rm, h2)) : RTX h2 := rtx_cs (S := []) (fun _ _ => rfl) (fkm_plate a1 a2 h e2) (by decide) (by decide : 1011 ∉ FKdm_plate 0 0 ∧ 1031 ∉ FKdm_plate 0 0 ∧ 1032 ∉ FKdm_plate 0 0 ∧ 111 ∉ FKdm_plate 0 0) (by decide) (by decide : ∀ b, b ∈ FKdm_plate 0 0 → 104 ≤ b) r
theorem rx_dough (a1 : Int32) (h : PH) (r : RTX h) {rX rm : Int32} {h1 h2 : PH} (e1 : mX_dough a1 h = some (rX, h1)) (e2 : mm_dough a1 h1 = some (rm, h2)) : RTX h2 := rtx_cs (fpX_dough a1 h e1) (fkm_dough a1 h1 e2) (by decide : 86 ∉ FPdX_dough 0 ∧ 90 ∉ FPdX_dough 0) (by decide : 1011 ∉ FKdm_dough 0 ∧ 1031 ∉ FKdm_dough 0 ∧ 1032 ∉ FKdm_dough 0 ∧ 111 ∉ FKdm_dough 0) (by decide : ∀ b, b ∈ FPdX_dough 0 → b < 104) (by decide : ∀ b, b ∈ FKdm_dough 0 → 104 ≤ b) r
theorem rx_pans (a1 a2 : Int32) (h : PH) (r : RTX h) {rX rm : Int32} {h1 h2 : PH} (e1 : mX_pans a1 a2 h = some (rX, h1)) (e2 : mm_pans a1 a2 h1 = some (rm, h2)) : RTX h2 := rtx_cs (fpX_pans a1 a2 h e1) (fkm_pans a1 a2 h1 e2) (by decide : 86 ∉ FPdX_pans 0 0 ∧ 90 ∉ FPdX_pans 0 0) (by decide : 1011 ∉ FKdm_pans 0 0 ∧ 1031 ∉ FKdm_pans 0 0 ∧ 1032 ∉ FKdm_pans 0 0 ∧ 111 ∉ FKdm_pans 0 0) (by decide : ∀ b, b ∈ FPdX_pans 0 0 → b < 104) (by decide : ∀ b, b ∈ FKdm_pans 0 0 → 104 ≤ b) r
theorem rx_mortgage (a1 a2 a3 a4 : Int32) (h : PH) (r : RTX h) {rm : Int32} {h2 : PH} (e2 : mm_mortgage a1 a2 a3 a4 h = some (rm, h2)) : RTX h2 := rtx_cs (S := []) (fun _ _ => rfl) (fkm_mortgage a1 a2 a3 a4 h e2) (by decide) (by decide : 1011 ∉ FKdm_mortgage 0 0 0 0 ∧ 1031 ∉ FKdm_mortgage 0 0 0 0 ∧ 1032 ∉ FKdm_mortgage 0 0 0 0 ∧ 111 ∉ FKdm_mortgage 0 0 0 0) (by decide) (by decide : ∀ b, b ∈ FKdm_mortgage 0 0 0 0 → 104 ≤ b) r
theorem rx_mark (a1 : Int32) (h : PH) (r : RTX h) {rX rm : Int32} {h1 h2 : PH} (e1 : mX_mark a1 h = some (rX, h1)) (e2 : mm_mark a1 h1 = some (rm, h2)) : RTX h2 := rtx_cs (fpX_mark a1 h e1) (fkm_mark a1 h1 e2) (by decide : 86 ∉ FPdX_mark 0 ∧ 90 ∉ FPdX_mark 0) (by decide : 1011 ∉ FKdm_mark 0 ∧ 1031 ∉ FKdm_mark 0 ∧ 1032 ∉ FKdm_mark 0 ∧ 111 ∉ FKdm_mark 0) (by decide : ∀ b, b ∈ FPdX_mark 0 → b < 104) (by decide : ∀ b, b ∈ FKdm_mark 0 → 104 ≤ b) r
theorem rx_measures (a1 : Int32) (h : PH) (r : RTX h) {rm : Int32} {h2 : PH} (e2 : mm_measures a1 h = some (rm, h2)) : RTX h2 := rtx_cs (S := []) (fun _ _ => rfl) (fkm_measures a1 h e2) (by decide) (by decide : 1011 ∉ FKdm_measures 0 ∧ 1031 ∉ FKdm_measures 0 ∧ 1032 ∉ FKdm_measures 0 ∧ 111 ∉ FKdm_measures 0) (by decide) (by decide : ∀ b, b ∈ FKdm_measures 0 → 104 ≤ b) r
theorem rx_bite (a1 a2 : Int32) (h : PH) (r : RTX h) {rX rm : Int32} {h1 h2 : PH} (e1 : mX_bite a1 a2 h = some (rX, h1)) (e2 : mm_bite a1 a2 h1 = some (rm, h2)) : RTX h2 := rtx_cs (fpX_bite a1 a2 h e1) (fkm_bite a1 a2 h1 e2) (by decide : 86 ∉ FPdX_bite 0 0 ∧ 90 ∉ FPdX_bite 0 0) (by decide : 1011 ∉ FKdm_bite 0 0 ∧ 1031 ∉ FKdm_bite 0 0 ∧ 1032 ∉ FKdm_bite 0 0 ∧ 111 ∉ FKdm_bite 0 0) (by decide : ∀ b, b ∈ FPdX_bite 0 0 → b < 104) (by decide : ∀ b, b ∈ FKdm_bite 0 0 → 104 ≤ b) r
theorem rx_whose (a1 a2 : Int32) (h : PH) (r : RTX h) {rm : Int32} {h2 : PH} (e2 : mm_whose a1 a2 h = some (rm, h2)) : RTX h2 := rtx_cs (S := []) (fun _ _ => rfl) (fkm_whose a1 a2 h e2) (by decide) (by decide : 1011 ∉ FKdm_whose 0 0 ∧ 1031 ∉ FKdm_whose 0 0 ∧ 1032 ∉ FKdm_whose 0 0 ∧ 111 ∉ FKdm_whose 0 0) (by decide) (by decide : ∀ b, b ∈ FKdm_whose 0 0 → 104 ≤ b) r
theorem rx_crumb (a1 : Int32) (h : PH) (r : RTX h) {rX rm : Int32} {h1 h2 : PH} (e1 : mX_crumb a1 h = some (rX, h1)) (e2 : mm_crumb a1 h1 = some (rm, h2)) : RTX h2 := rtx_cs (fpX_crumb a1 h e1) (fkm_crumb a1 h1 e2) (by decide : 86 ∉ FPdX_crumb 0 ∧ 90 ∉ FPdX_crumb 0) (by decide : 1011 ∉ FKdm_crumb 0 ∧ 1031 ∉ FKdm_crumb 0 ∧ 1032 ∉ FKdm_crumb 0 ∧ 111 ∉ FKdm_crumb 0) (by decide : ∀ b, b ∈ FPdX_crumb 0 → b < 104) (by decide : ∀ b, b ∈ FKdm_crumb 0 → 104 ≤ b) r
theorem rx_crumbs (a1 : Int32) (h : PH) (r : RTX h) {rX rm : Int32} {h1 h2 : PH} (e1 : mX_crumbs a1 h = some (rX, h1)) (e2 : mm_crumbs a1 h1 = some (rm, h2)) : RTX h2 := rtx_cs (fpX_crumbs a1 h e1) (fkm_crumbs a1 h1 e2) (by decide : 86 ∉ FPdX_crumbs 0 ∧ 90 ∉ FPdX_crumbs 0) (by decide : 1011 ∉ FKdm_crumbs 0 ∧ 1031 ∉ FKdm_crumbs 0 ∧ 1032 ∉ FKdm_crumbs 0 ∧ 111 ∉ FKdm_crumbs 0) (by decide : ∀ b, b ∈ FPdX_crumbs 0 → b < 104) (by decide : ∀ b, b ∈ FKdm_crumbs 0 → 104 ≤ b) r
theorem rx_loaf (a1 a2 : Int32) (h : PH) (r : RTX h) {rX rm : Int32} {h1 h2 : PH} (e1 : mX_loaf a1 a2 h = some (rX, h1)) (e2 : mm_loaf a1 a2 h1 = some (rm, h2)) : RTX h2 := rtx_cs (fpX_loaf a1 a2 h e1) (fkm_loaf a1 a2 h1 e2) (by decide : 86 ∉ FPdX_loaf 0 0 ∧ 90 ∉ FPdX_loaf 0 0) (by decide : 1011 ∉ FKdm_loaf 0 0 ∧ 1031 ∉ FKdm_loaf 0 0 ∧ 1032 ∉ FKdm_loaf 0 0 ∧ 111 ∉ FKdm_loaf 0 0) (by decide : ∀ b, b ∈ FPdX_loaf 0 0 → b < 104) (by decide : ∀ b, b ∈ FKdm_loaf 0 0 → 104 ≤ b) r
theorem rx_ovens (a1 : Int32) (h : PH) (r : RTX h) {rm : Int32} {h2 : PH} (e2 : mm_ovens a1 h = some (rm, h2)) : RTX h2 := rtx_cs (S := []) (fun _ _ => rfl) (fkm_ovens a1 h e2) (by decide) (by decide : 1011 ∉ FKdm_ovens 0 ∧ 1031 ∉ FKdm_ovens 0 ∧ 1032 ∉ FKdm_ovens 0 ∧ 111 ∉ FKdm_ovens 0) (by decide) (by decide : ∀ b, b ∈ FKdm_ovens 0 → 104 ≤ b) r
theorem rx_alone (a1 : Int32) (h : PH) (r : RTX h) {rX rm : Int32} {h1 h2 : PH} (e1 : mX_alone a1 h = some (rX, h1)) (e2 : mm_alone a1 h1 = some (rm, h2)) : RTX h2 := rtx_cs (fpX_alone a1 h e1) (fkm_alone a1 h1 e2) (by decide : 86 ∉ FPdX_alone 0 ∧ 90 ∉ FPdX_alone 0) (by decide : 1011 ∉ FKdm_alone 0 ∧ 1031 ∉ FKdm_alone 0 ∧ 1032 ∉ FKdm_alone 0 ∧ 111 ∉ FKdm_alone 0) (by decide : ∀ b, b ∈ FPdX_alone 0 → b < 104) (by decide : ∀ b, b ∈ FKdm_alone 0 → 104 ≤ b) r
theorem rx_heir (a1 a2 : Int32) (h : PH) (r : RTX h) {rX rm : Int32} {h1 h2 : PH} (e1 : mX_heir a1 a2 h = some (rX, h1)) (e2 : mm_heir a1 a2 h1 = some (rm, h2)) : RTX h2 := rtx_cs (fpX_heir a1 a2 h e1) (fkm_heir a1 a2 h1 e2) (by decide : 86 ∉ FPdX_heir 0 0 ∧ 90 ∉ FPdX_heir 0 0) (by decide : 1011 ∉ FKdm_heir 0 0 ∧ 1031 ∉ FKdm_heir 0 0 ∧ 1032 ∉ FKdm_heir 0 0 ∧ 111 ∉ FKdm_heir 0 0) (by decide : ∀ b, b ∈ FPdX_heir 0 0 → b < 104) (by decide : ∀ b, b ∈ FKdm_heir 0 0 → 104 ≤ b) r
theorem rx_line (a1 a2 : Int32) (h : PH) (r : RTX h) {rm : Int32} {h2 : PH} (e2 : mm_line a1 a2 h = some (rm, h2)) : RTX h2 := rtx_cs (S := []) (fun _ _ => rfl) (fkm_line a1 a2 h e2) (by decide) (by decide : 1011 ∉ FKdm_line 0 0 ∧ 1031 ∉ FKdm_line 0 0 ∧ 1032 ∉ FKdm_line 0 0 ∧ 111 ∉ FKdm_line 0 0) (by decide) (by decide : ∀ b, b ∈ FKdm_line 0 0 → 104 ≤ b) r
theorem rx_window (a1 : Int32) (h : PH) (r : RTX h) {rm : Int32} {h2 : PH} (e2 : mm_window a1 h = some (rm, h2)) : RTX h2 := rtx_cs (S := []) (fun _ _ => rfl) (fkm_window a1 h e2) (by decide) (by decide : 1011 ∉ FKdm_window 0 ∧ 1031 ∉ FKdm_window 0 ∧ 1032 ∉ FKdm_window 0 ∧ 111 ∉ FKdm_window 0) (by decide) (by decide : ∀ b, b ∈ FKdm_window 0 → 104 ≤ b) r
theorem rx_member (a1 a2 : Int32) (h : PH) (r : RTX h) {rX rm : Int32} {h1 h2 : PH} (e1 : mX_member a1 a2 h = some (rX, h1)) (e2 : mm_member a1 a2 h1 = some (rm, h2)) : RTX h2 := rtx_cs (fpX_member a1 a2 h e1) (fkm_member a1 a2 h1 e2) (by decide : 86 ∉ FPdX_member 0 0 ∧ 90 ∉ FPdX_member 0 0) (by decide : 1011 ∉ FKdm_member 0 0 ∧ 1031 ∉ FKdm_member 0 0 ∧ 1032 ∉ FKdm_member 0 0 ∧ 111 ∉ FKdm_member 0 0) (by decide : ∀ b, b ∈ FPdX_member 0 0 → b < 104) (by decide : ∀ b, b ∈ FKdm_member 0 0 → 104 ≤ b) r
theorem rx_council (a1 : Int32) (h : PH) (r : RTX h) {rm : Int32} {h2 : PH} (e2 : mm_council a1 h = some (rm, h2)) : RTX h2 := rtx_cs (S := []) (fun _ _ => rfl) (fkm_council a1 h e2) (by decide) (by decide : 1011 ∉ FKdm_council 0 ∧ 1031 ∉ FKdm_council 0 ∧ 1032 ∉ FKdm_council 0 ∧ 111 ∉ FKdm_council 0) (by decide) (by decide : ∀ b, b ∈ FKdm_council 0 → 104 ≤ b) r
theorem rx_game (a1 a2 : Int32) (h : PH) (r : RTX h) {rX rm : Int32} {h1 h2 : PH} (e1 : mX_game a1 a2 h = some (rX, h1)) (e2 : mm_game a1 a2 h1 = some (rm, h2)) : RTX h2 := rtx_cs (fpX_game a1 a2 h e1) (fkm_game a1 a2 h1 e2) (by decide : 86 ∉ FPdX_game 0 0 ∧ 90 ∉ FPdX_game 0 0) (by decide : 1011 ∉ FKdm_game 0 0 ∧ 1031 ∉ FKdm_game 0 0 ∧ 1032 ∉ FKdm_game 0 0 ∧ 111 ∉ FKdm_game 0 0) (by decide : ∀ b, b ∈ FPdX_game 0 0 → b < 104) (by decide : ∀ b, b ∈ FKdm_game 0 0 → 104 ≤ b) r
theorem rx_undo (h : PH) (r : RTX h) {rX rm : Int32} {h1 h2 : PH} (e1 : mX_undo h = some (rX, h1)) (e2 : mm_undo h1 = some (rm, h2)) : RTX h2 := rtx_cs (fpX_undo h e1) (fkm_undo h1 e2) (by decide : 86 ∉ FPdX_undo ∧ 90 ∉ FPdX_undo) (by decide : 1011 ∉ FKdm_undo ∧ 1031 ∉ FKdm_undo ∧ 1032 ∉ FKdm_undo ∧ 111 ∉ FKdm_undo) (by decide : ∀ b, b ∈ FPdX_undo → b < 104) (by decide : ∀ b, b ∈ FKdm_undo → 104 ≤ b) r
theorem rx_image (a1 : Int32) (h : PH) (r : RTX h) {rX rm : Int32} {h1 h2 : PH} (e1 : mX_image (if a1 = 0 then 0 else 1) h = some (rX, h1)) (e2 : mm_image (if a1 = 0 then 0 else 1) h1 = some (rm, h2)) : RTX h2 := rtx_cs (fpX_image (if a1 = 0 then 0 else 1) h e1) (fkm_image (if a1 = 0 then 0 else 1) h1 e2) (by decide : 86 ∉ FPdX_image 0 ∧ 90 ∉ FPdX_image 0) (by decide : 1011 ∉ FKdm_image 0 ∧ 1031 ∉ FKdm_image 0 ∧ 1032 ∉ FKdm_image 0 ∧ 111 ∉ FKdm_image 0) (by decide : ∀ b, b ∈ FPdX_image 0 → b < 104) (by decide : ∀ b, b ∈ FKdm_image 0 → 104 ≤ b) r
theorem rx_look (a1 : Int32) (h : PH) (r : RTX h) {rm : Int32} {h2 : PH} (e2 : mm_look a1 h = some (rm, h2)) : RTX h2 := rtx_cs (S := []) (fun _ _ => rfl) (fkm_look a1 h e2) (by decide) (by decide : 1011 ∉ FKdm_look 0 ∧ 1031 ∉ FKdm_look 0 ∧ 1032 ∉ FKdm_look 0 ∧ 111 ∉ FKdm_look 0) (by decide) (by decide : ∀ b, b ∈ FKdm_look 0 → 104 ≤ b) r
