/-! SAFETY of the model's reader: conditions -/
def AnyQ (c0 : Nat) (h0 : PH) (r : Int32 × PH) : Prop := (r.1 = -1 ∧ IM r.2) ∨ (r.1 = 0 ∧ ∃ c k, AS c0 c k 1 [] h0 r.2)
theorem as_close {c0 c k : Nat} {r : List Int32} {h0 h : PH} (st : AS c0 c k 1 (12 :: r) h0 h) : AS c0 c k 1 r h0 (up (up h 104 28 (h 104 28 - 1)) 104 26 (up h 104 28 (h 104 28 - 1) 104 26 - 1)) := by
  obtain ⟨s1, s2, s3, s4, s5, s6, s7⟩ := st
  refine ⟨rs_104 (rs_104 s1 (Or.inr rfl) _) (Or.inl rfl) _, ?_, ?_, ?_, s5, ?_, fra_tr s7 (fra_tr (fra_104 (Or.inr rfl)) (fra_104 (Or.inl rfl)))⟩
  · rw [up_oj (by decide), up_same, s2, List.length_cons, nI_pred]
  · exact pd_fr r (fun j _ => by rw [up_oc (by decide), up_oc (by decide)]) s3.2
  · rw [up_same, up_oj (by decide), s4, cO, if_pos (Or.inr rfl), Nat.add_comm, nI_pred]
  · rw [dOp_up (by decide), dOp_up (by decide), dAr_up (by decide), dAr_up (by decide), s6, cD, if_neg (by decide), Nat.zero_add]
theorem as_exp {c0 c c' k : Nat} {ps : List Int32} {h0 h g : PH} (st : AS c0 c k 0 ps h0 h) (hc : c < c') (s : RS c' k g) (fr : FRc c h g) (u : Up1 c c' g) : AS c0 c' k 1 ps h0 g := by
  obtain ⟨s1, s2, s3, s4, s5, s6, s7⟩ := st
  refine ⟨s, ?_, ?_, ?_, by omega, ?_, fra_tr s7 (fra_c s5 fr)⟩
  · rw [fr.2.2 28 (by decide) (by decide) (by decide) (by decide) (by decide) (by decide) (by decide)]; exact s2
  · exact pd_fr ps (fun j _ => by rw [fr.1 120 (by decide) (by decide) (by decide)]) s3
  · rw [fr.2.2 26 (by decide) (by decide) (by decide) (by decide) (by decide) (by decide) (by decide)]; exact s4
  · rw [show c' - c0 = (c - c0) + (c' - c) by omega, dep_app, dep_lo fr c0 (c - c0) c0 0 (by omega), s6, bd_e, show c0 + (c - c0) = c by omega]
    exact u c0 _ s5
theorem nI_eq8 {m : Nat} (hm : m ≤ 8) (n : ¬ nI m = 8) : m < 8 := by
  by_cases e : m = 8
  · subst e; exact absurd rfl n
  · omega
theorem any_go (c0 : Nat) (h0 : PH) (k0 k1 : PH → Option (Int32 × PH)) (e0 : ∀ g, IM g → Sf (k0 g) ErQ) (e1 : ∀ g, IM g → Sf (k1 g) ErQ) : ∀ (n c k e : Nat) (ps : List Int32) (v1 v2 : Int32) (hv : PH), 400 < n + (c + k) → AS c0 c k e ps h0 hv → Gm ps 0 → cE ps ≤ k → cO ps ≤ 8 → v1 = nI (cB ps) → ((e = 0 ∧ v2 = 1) ∨ (e = 1 ∧ v2 = 0 ∧ ∀ r, ¬ ps = 9 :: r)) → Sf (mm_readAny_L9 k0 k1 n v1 v2 hv) (AnyQ c0 h0) := by
  intro n
  induction n with
  | zero => intro c k e ps v1 v2 hv hn st; have := rs_le st.1; omega
  | succ n ih =>
    intro c k e ps v1 v2 hv hn st hg he ho hv1 hm
    have hl := gm_len ps 0 hg
    rw [mm_readAny_L9]
    rcases hm with ⟨rfl, rfl⟩ | ⟨rfl, rfl, n9⟩
    · rw [if_neg (by decide)]
      refine s_word (fun r19 w19 => ?_)
      have body : ¬ hv 104 14 = 0 → Sf (if (hv 104 26) = 8 then k0 hv else lt (up hv 104 26 ((hv 104 26) + 1)) fun h21 => jn1 (fun (x23 : Int32) => jn1 (fun (x25 : Int32) => bd (mm_waits x25 h21) fun h26 => bd (mm_reads h26) fun h27 => mm_readAny_L9 k0 k1 n x23 1 h27) fun j24 => if r19 = 0 then j24 12 else j24 9) fun j22 => if r19 = 0 then lt (v1 + 1) fun x28 => j22 x28 else j22 v1) (AnyQ c0 h0) := fun nz => by
        refine s_if (fun _ => s_w (e0 hv st.1.1) (fun r q => Or.inl q)) (fun n8 => ?_)
        rw [st.2.2.2.1] at n8
        have o8 := nI_eq8 ho n8
        rw [lt_e]
        have fin : ∀ (p : Int32), (p = 9 ∨ p = 12) → ∀ x : Int32, x = nI (cB (p :: ps)) → Sf (bd (mm_waits p (up hv 104 26 ((hv 104 26) + 1))) fun h26 => bd (mm_reads h26) fun h27 => mm_readAny_L9 k0 k1 n x 1 h27) (AnyQ c0 h0) := fun p hp x hx => by
          obtain ⟨g, w1, w2, w3⟩ := as_open st p hp (by omega)
          rw [w1, bd_e]
          refine s_bd (as_reads w2 (by rw [w3]; exact nz)) (fun h27 q => ?_)
          refine ih c (k + 1) 0 (p :: ps) x 1 h27 (by omega) q ?_ ?_ ?_ hx (Or.inl ⟨rfl, rfl⟩)
          · rcases hp with rfl | rfl
            · exact Or.inr (Or.inl ⟨rfl, rfl, hg⟩)
            · exact Or.inl ⟨rfl, hg⟩
          · rw [cE]; split <;> omega
          · rw [cO, if_pos hp]; omega
        rw [jn1_e]
        by_cases z : r19 = 0
        · rw [if_pos z, lt_e]
          dsimp only
          rw [jn1_e, if_pos z]
          refine fin 12 (Or.inr rfl) _ ?_
          rw [hv1, nI_1, cB, if_pos rfl, Nat.add_comm]
        · rw [if_neg z]
          dsimp only
          rw [jn1_e, if_neg z]
          refine fin 9 (Or.inl rfl) _ ?_
          rw [hv1, cB, if_neg (by decide), Nat.zero_add]
      rw [jn0_e]
      refine s_if (fun _ => ?_) (fun z => body (by rw [(w19 z).1]; decide))
      refine s_sign (fun r29 w29 => ?_)
      refine s_if (fun _ => ?_) (fun z => body (by rw [w29 z]; decide))
      refine s_bd2 (sf_m_readCompared st.1) (fun r30 h31 q => ?_)
      rcases q with ⟨q1, q2⟩ | ⟨q1, c', q2, q3, q4, q5⟩
      · have q1 : r30 = -1 := q1
        rw [if_pos q1]
        exact s_some (Or.inl ⟨rfl, q2⟩)
      · have q1 : r30 = 0 := q1
        rw [if_neg (by rw [q1]; decide)]
        have st31 : AS c0 c' k 1 ps h0 h31 := as_exp st q2 q3 q4 q5
        refine s_bd (sf_m_settles 9 (Or.inl rfl) (by omega) he st31) (fun h32 w => ?_)
        obtain ⟨c2, k2, w1, w2, w3, w4, w5⟩ := w
        obtain ⟨g1, g2⟩ := gm_dr9 ps hg
        exact ih c2 k2 1 (dr 9 ps) v1 0 h32 (by omega) w3 g1 w2 (by have := cO_dr 9 ps; omega) (by rw [cB_dr 9 (by decide)]; exact hv1) (Or.inr ⟨rfl, rfl, g2⟩)
    · rw [if_pos rfl]
      have d10 := gm_dr10 ps hg n9
      have d11 := gm_dr11 _ d10
      have o10 := cO_dr 10 ps
      have o11 := cO_dr 11 (dr 10 ps)
      have l10 := gm_len _ 1 d10
      have l11 := gm_len _ 2 d11
      have b11 : cB (dr 11 (dr 10 ps)) = cB ps := by rw [cB_dr 11 (by decide), cB_dr 10 (by decide)]
      refine s_word (fun r2 w2 => ?_)
      refine s_if (fun _ => ?_) (fun z => ?_)
      · refine s_word (fun r3 w3 => ?_)
        refine s_if (fun _ => ?_) (fun z => ?_)
        · refine s_bd (sf_m_settles 10 (Or.inr (Or.inl rfl)) (by omega) he st) (fun h4 w => ?_)
          obtain ⟨c4, k4, x1, x2, x3, x4, x5⟩ := w
          refine s_bd (sf_m_settles 11 (Or.inr (Or.inr rfl)) (by omega) x2 x3) (fun h5 w => ?_)
          obtain ⟨c5, k5, y1, y2, y3, y4, y5⟩ := w
          have bo := cB_cO ps
          rcases gm_2 _ d11 with en | ⟨r, er, gr⟩
          · rw [en] at y3 b11
            have b0 : cB ps = 0 := b11.symm
            rw [if_pos (by rw [hv1, b0]; rfl)]
            exact s_some (Or.inr ⟨rfl, c5, k5, y3⟩)
          · rw [er] at y2 y3 b11 l11 o11
            have eb : cB (12 :: r) = cB r + 1 := by rw [cB, if_pos rfl, Nat.add_comm]
            have eo : cO (12 :: r) = cO r + 1 := by rw [cO, if_pos (Or.inr rfl), Nat.add_comm]
            have ee : cE (12 :: r) = cE r := by rw [cE, if_pos rfl, Nat.zero_add]
            rw [if_neg (by
              rw [hv1]
              intro q
              have q2 : (nI (cB ps)).toInt = 0 := by rw [q]; rfl
              rw [nI_toInt (by omega)] at q2
              omega)]
            refine s_sign (fun r6 w6 => ?_)
            refine s_if (fun _ => s_w (e1 h5 y3.1.1) (fun r q => Or.inl q)) (fun z6 => ?_)
            rw [lt_e, lt_e, lt_e]
            have st9 := as_close y3
            have t9 : up (up h5 104 28 (h5 104 28 - 1)) 104 26 (up h5 104 28 (h5 104 28 - 1) 104 26 - 1) 104 14 = 4 := by rw [up_oj (by decide), up_oj (by decide)]; exact w6 z6
            generalize up (up h5 104 28 (h5 104 28 - 1)) 104 26 (up h5 104 28 (h5 104 28 - 1) 104 26 - 1) = h9 at st9 t9 ⊢
            rw [List.length_cons] at l11
            refine s_bd (sf_m_settles 9 (Or.inl rfl) (by omega) (by omega) st9) (fun h10 w => ?_)
            obtain ⟨c6, k6, u1, u2, u3, u4, u5⟩ := w
            refine s_bd (as_reads u3 (by rw [u4, t9]; decide)) (fun h11 q => ?_)
            obtain ⟨g1, g2⟩ := gm_dr9 r gr
            refine ih c6 (k6 + 1) 1 (dr 9 r) _ 0 h11 (by omega) q g1 (by omega) (by have := cO_dr 9 r; omega) ?_ (Or.inr ⟨rfl, rfl, g2⟩)
            rw [cB_dr 9 (by decide), hv1, ← b11, eb, nI_pred]
        · refine s_bd (sf_m_settles 10 (Or.inr (Or.inl rfl)) (by omega) he st) (fun h4 w => ?_)
          obtain ⟨c4, k4, x1, x2, x3, x4, x5⟩ := w
          refine s_bd (sf_m_settles 11 (Or.inr (Or.inr rfl)) (by omega) x2 x3) (fun h5 w => ?_)
          obtain ⟨c5, k5, y1, y2, y3, y4, y5⟩ := w
          obtain ⟨g, u1, u2, u3⟩ := as_and y3 11 (Or.inr rfl) (by omega)
          rw [u1, bd_e]
          refine s_bd (as_reads u2 (by rw [u3, y4, x4, (w3 z).1]; decide)) (fun h15 q => ?_)
          refine ih c5 (k5 + 1) 0 (11 :: dr 11 (dr 10 ps)) v1 1 h15 (by omega) q (Or.inr (Or.inr (Or.inr ⟨by decide, rfl, d11⟩))) ?_ ?_ ?_ (Or.inl ⟨rfl, rfl⟩)
          · rw [cE, if_neg (by decide)]; omega
          · rw [cO, if_neg (by decide)]; omega
          · rw [cB, if_neg (by decide), Nat.zero_add, b11]; exact hv1
      · refine s_bd (sf_m_settles 10 (Or.inr (Or.inl rfl)) (by omega) he st) (fun h4 w => ?_)
        obtain ⟨c4, k4, x1, x2, x3, x4, x5⟩ := w
        obtain ⟨g, u1, u2, u3⟩ := as_and x3 10 (Or.inl rfl) (by omega)
        rw [u1, bd_e]
        refine s_bd (as_reads u2 (by rw [u3, x4, (w2 z).1]; decide)) (fun h18 q => ?_)
        refine ih c4 (k4 + 1) 0 (10 :: dr 10 ps) v1 1 h18 (by omega) q (Or.inr (Or.inr (Or.inl ⟨rfl, rfl, d10⟩))) ?_ ?_ ?_ (Or.inl ⟨rfl, rfl⟩)
        · rw [cE, if_neg (by decide)]; omega
        · rw [cO, if_neg (by decide)]; omega
        · rw [cB, if_neg (by decide), Nat.zero_add, cB_dr 10 (by decide)]; exact hv1
theorem sf_m_readAny {c k : Nat} {h : PH} (st : RS c k h) (ho : h 104 26 = 0) : Sf (mm_readAny h) (AnyQ c h) := by
  unfold mm_readAny
  rw [lt_e]
  refine any_go c h _ _ (fun g ig => er_bd 3 ig) (fun g ig => er_bd 1 ig) FU c k 0 [] 0 1 _ (by unfold FU; omega) ⟨rs_104 st (Or.inr rfl) 0, up_same, trivial, ?_, Nat.le_refl _, ?_, fra_104 (Or.inr rfl)⟩ trivial (by exact Nat.zero_le _) (by exact Nat.zero_le _) rfl (Or.inl ⟨rfl, rfl⟩)
  · rw [up_oj (by decide)]; exact ho
  · rw [Nat.sub_self]; rfl
