/-! SAFETY of the model's reader: products, sums, comparisons -/
theorem s_sign {ρ : Type} {Q : ρ → Prop} {p : Int32} {h : PH} {f : Int32 → Option ρ} (hf : ∀ r, (¬ r = 0 → h 104 14 = 4) → Sf (f r) Q) : Sf (bd (mm_isSign p h) f) Q := by
  unfold mm_isSign
  by_cases c : h 104 14 = 4
  · rw [if_pos c]
    by_cases c2 : h 104 15 = p
    · rw [if_pos c2, bd_e]; exact hf 1 (fun _ => c)
    · rw [if_neg c2, bd_e]; exact hf 0 (fun q => absurd rfl q)
  · rw [if_neg c, bd_e]; exact hf 0 (fun q => absurd rfl q)
theorem s_word {ρ : Type} {Q : ρ → Prop} {p : Int32} {h : PH} {f : Int32 → Option ρ} (hf : ∀ r, (¬ r = 0 → h 104 14 = 2 ∧ h 104 15 = p) → Sf (f r) Q) : Sf (bd (mm_isWord p h) f) Q := by
  unfold mm_isWord
  by_cases c : h 104 14 = 2
  · rw [if_pos c]
    by_cases c2 : h 104 15 = p
    · rw [if_pos c2, bd_e]; exact hf 1 (fun _ => ⟨c, c2⟩)
    · rw [if_neg c2, bd_e]; exact hf 0 (fun q => absurd rfl q)
  · rw [if_neg c, bd_e]; exact hf 0 (fun q => absurd rfl q)
theorem rfm {h : PH} (i : IM h) : R 0 400 (h 104 13) := inv_rng i.1 rfl
theorem rs_le {c k : Nat} {h : PH} (st : RS c k h) : c + k ≤ 400 := by
  have h1 := (rfm st.1).2
  have h2 := st.2.2.2.2.2
  omega
/-- a token that is one is read: one credit more -/
theorem rs_take {c k : Nat} {h : PH} (st : RS c k h) (nz : ¬ h 104 14 = 0) : Sf (mm_reads h) (fun g => RS c (k + 1) g ∧ FR4 h g) := by
  obtain ⟨i, e, s1, s2, s3, s4⟩ := st
  have s5 : (h 104 13).toInt + 1 ≤ (h 104 12).toInt := by
    rcases s3 with q | q
    · exact absurd q nz
    · exact q
  exact rs_reads (k := k + 1) i e s1 (by omega)
theorem stC_bin {op arg : Nat → Int32} {f k d : Nat} (h0 : ¬ op k = 0) (h1 : ¬ op k = 1) (h9 : ¬ op k = 9) (h5 : op k = 5 → f < k ∧ op (k - 1) = 0 ∧ ¬ arg (k - 1) = 0) : stC op arg f k (d + 2) = some (d + 1) := by
  unfold stC
  rw [if_neg h0, if_neg h1, if_neg h9, if_pos ⟨by omega, h5⟩]
  rfl
theorem up_frc {c c' c1 : Nat} {h g : PH} (fr : FRc c1 h g) (hc : c ≤ c') (hc1 : c' ≤ c1) (u : Up1 c c' h) : Up1 c c' g := fun f d hf => by
  rw [dep_lo fr f (c' - c) c d (by omega)]
  exact u f d hf
theorem up_bin {c0 c1 c2 : Nat} {g : PH} (x : Int32) (a : c0 < c1) (b : c1 < c2) (u1 : Up1 c0 c1 g) (u2 : Up1 c1 c2 g) (x0 : ¬ x = 0) (x1 : ¬ x = 1) (x9 : ¬ x = 9) (h5 : x = 5 → dOp g (c2 - 1) = 0 ∧ ¬ dAr g (c2 - 1) = 0) : Up1 c0 (c2 + 1) (emO g c2 x 0) := by
  intro f d hf
  have fr : FRc c2 g (emO g c2 x 0) := frc_emO
  rw [show c2 + 1 - c0 = (c1 - c0) + ((c2 - c1) + 1) by omega, dep_app, dep_lo fr f (c1 - c0) c0 d (by omega), u1 f d hf, bd_e, show c0 + (c1 - c0) = c1 by omega]
  refine dep_one (d1 := d + 2) ?_ ?_
  · rw [dep_lo fr f (c2 - c1) c1 (d + 1) (by omega)]
    exact u2 f (d + 1) (by omega)
  · rw [show c1 + (c2 - c1) = c2 by omega]
    have o : dOp (emO g c2 x 0) c2 = x := emO_op.1
    obtain ⟨w1, w2⟩ := fr.2.1 (c2 - 1) (by omega)
    refine stC_bin (by rw [o]; exact x0) (by rw [o]; exact x1) (by rw [o]; exact x9) (fun q => ?_)
    rw [o] at q
    rw [w1, w2]
    exact ⟨by omega, h5 q⟩
theorem up_one {c : Nat} {g : PH} (o : dOp g c = 0 ∨ (dOp g c = 1 ∧ 0 ≤ dAr g c ∧ dAr g c ≤ 11)) : Up1 c (c + 1) g := fun f d _ => by
  rw [show c + 1 - c = 0 + 1 by omega]
  refine dep_one (d1 := d) rfl ?_
  unfold stC
  rcases o with w | ⟨w, w1⟩
  · rw [Nat.add_zero, if_pos w]
  · rw [Nat.add_zero, if_neg (by rw [w]; decide), if_pos w, if_pos w1]
def ErQ (r : Int32 × PH) : Prop := r.1 = -1 ∧ IM r.2
theorem er_bd (p : Int32) {h : PH} (i : IM h) : Sf (bd2 (mm_errs p h) fun r g => some (r, g)) ErQ := s_bd2 (sf_errs p i) (fun r g q => s_some q)
theorem pr_go (c0 k : Nat) (h0 : PH) (k0 k1 : PH → Option (Int32 × PH)) (e0 : ∀ g, IM g → Sf (k0 g) ErQ) (e1 : ∀ g, IM g → Sf (k1 g) ErQ) : ∀ (n c : Nat) (hv : PH), 400 < n + c → c0 < c → RS c k hv → FRc c0 h0 hv → Up1 c0 c hv → Sf (mm_readProduct_L10 k0 k1 n hv) (ExpQ c0 k h0) := by
  intro n
  induction n with
  | zero => intro c hv h1 h2 st; have := rs_le st; omega
  | succ n ih =>
    intro c hv h1 h2 st fr u
    rw [mm_readProduct_L10]
    refine s_sign (fun r3 w3 => ?_)
    have body : hv 104 14 = 4 → Sf (bd (mm_isSign 42 hv) fun r5 => bd (mm_reads hv) fun h6 => jn0 (jn0 (bd2 (mm_readUnit h6) fun r9 h10 => if r9 = (-1) then some ((-1), h10) else jn1 (fun (x12 : Int32) => bd (mm_emits x12 0 h10) fun h13 => mm_readProduct_L10 k0 k1 n h13) fun j11 => if r5 = 0 then j11 5 else j11 4) fun j8 => if r5 = 0 then if (h6 104 15) = 0 then k1 h6 else j8 else j8) fun j7 => if r5 = 0 then if (h6 104 14) = 3 then j7 else k0 h6 else j7) (ExpQ c0 k h0) := fun t4 => by
      refine s_sign (fun r5 _ => ?_)
      refine s_bd (rs_take st (by rw [t4]; decide)) (fun h6 q6 => ?_)
      obtain ⟨st6, fr6⟩ := q6
      rw [jn0_e, jn0_e]
      have main : (r5 = 0 → h6 104 14 = 3 ∧ ¬ h6 104 15 = 0) → Sf (bd2 (mm_readUnit h6) fun r9 h10 => if r9 = (-1) then some ((-1), h10) else jn1 (fun (x12 : Int32) => bd (mm_emits x12 0 h10) fun h13 => mm_readProduct_L10 k0 k1 n h13) fun j11 => if r5 = 0 then j11 5 else j11 4) (ExpQ c0 k h0) := fun hr5 => by
        refine s_bd2 (sf_m_readUnit st6) (fun r9 h10 q => ?_)
        rcases q with ⟨q1, q2⟩ | ⟨q1, q2, q3, q4, q5⟩
        · have q1 : r9 = -1 := q1
          rw [if_pos q1]
          exact s_some (Or.inl ⟨rfl, q2⟩)
        · have q1 : r9 = 0 := q1
          have st10 : RS (c + 1) (k + 1) h10 := q2
          have fr10 : FRc c h6 h10 := q3
          rw [if_neg (by rw [q1]; decide)]
          have fA : FRc c hv h10 := frc_tr (Nat.le_refl _) (frc_4 fr6) fr10
          have fB : FRc c0 h0 h10 := frc_tr (Nat.le_refl _) fr (frc_tr (c1 := c) (by omega) (frc_4 fr6) fr10)
          have uA : Up1 c0 c h10 := up_frc fA (by omega) (Nat.le_refl _) u
          have fin : ∀ x : Int32, ¬ x = 0 → ¬ x = 1 → ¬ x = 9 → (x = 5 → r5 = 0) → Sf (bd (mm_emits x 0 h10) fun h13 => mm_readProduct_L10 k0 k1 n h13) (ExpQ c0 k h0) := fun x x0 x1 x9 x5 => by
            obtain ⟨em, st13⟩ := rs_emit st10 x 0
            rw [em, bd_e]
            refine ih (c + 1 + 1) _ (by omega) (by omega) st13 (frc_tr (c1 := c + 1) (by omega) fB frc_emO) (up_bin x h2 (by omega) uA (up_one q4) x0 x1 x9 (fun z => ?_))
            obtain ⟨y1, y2⟩ := hr5 (x5 z)
            obtain ⟨y3, y4⟩ := q5 y1
            have y3 : dOp h10 c = 0 := y3
            have y4 : dAr h10 c = h6 104 15 := y4
            rw [Nat.add_sub_cancel, y4]
            exact ⟨y3, y2⟩
          rw [jn1_e]
          by_cases z : r5 = 0
          · rw [if_pos z]
            exact fin 5 (by decide) (by decide) (by decide) (fun _ => z)
          · rw [if_neg z]
            exact fin 4 (by decide) (by decide) (by decide) (fun w => absurd w (by decide))
      by_cases z : r5 = 0
      · rw [if_pos z]
        refine s_if (fun t3 => ?_) (fun _ => s_w (e0 h6 st6.1) (fun r q => Or.inl q))
        rw [if_pos z]
        exact s_if (fun _ => s_w (e1 h6 st6.1) (fun r q => Or.inl q)) (fun nv => main (fun _ => ⟨t3, nv⟩))
      · rw [if_neg z, if_neg z]
        exact main (fun w => absurd w z)
    rw [jn0_e]
    refine s_if (fun _ => ?_) (fun z => body (w3 z))
    refine s_sign (fun r14 w14 => ?_)
    exact s_if (fun _ => s_some (Or.inr ⟨rfl, c, h2, st, fr, u⟩)) (fun z => body (w14 z))
theorem sf_m_readProduct {c k : Nat} {h : PH} (st : RS c k h) : Sf (mm_readProduct h) (ExpQ c k h) := by
  unfold mm_readProduct
  refine s_bd2 (sf_m_readUnit st) (fun r1 h2 q => ?_)
  rcases q with ⟨q1, q2⟩ | ⟨q1, q2, q3, q4, q5⟩
  · have q1 : r1 = -1 := q1
    rw [if_pos q1]
    exact s_some (Or.inl ⟨rfl, q2⟩)
  · have q1 : r1 = 0 := q1
    rw [if_neg (by rw [q1]; decide)]
    exact pr_go c k h _ _ (fun g ig => er_bd 1 ig) (fun g ig => er_bd 2 ig) FU (c + 1) h2 (by unfold FU; omega) (by omega) q2 q3 (up_one q4)
theorem su_go (c0 k : Nat) (h0 : PH) : ∀ (n c : Nat) (hv : PH), 400 < n + c → c0 < c → RS c k hv → FRc c0 h0 hv → Up1 c0 c hv → Sf (mm_readSum_L10 n hv) (ExpQ c0 k h0) := by
  intro n
  induction n with
  | zero => intro c hv h1 h2 st; have := rs_le st; omega
  | succ n ih =>
    intro c hv h1 h2 st fr u
    rw [mm_readSum_L10]
    refine s_sign (fun r3 w3 => ?_)
    have fin : hv 104 14 = 4 → ∀ x : Int32, ¬ x = 0 → ¬ x = 1 → ¬ x = 9 → ¬ x = 5 → Sf (bd (mm_reads hv) fun h7 => bd2 (mm_readProduct h7) fun r8 h9 => if r8 = (-1) then some ((-1), h9) else bd (mm_emits x 0 h9) fun h10 => mm_readSum_L10 n h10) (ExpQ c0 k h0) := fun t4 x x0 x1 x9 x5 => by
      refine s_bd (rs_take st (by rw [t4]; decide)) (fun h7 q7 => ?_)
      obtain ⟨st7, fr7⟩ := q7
      refine s_bd2 (sf_m_readProduct st7) (fun r8 h9 q => ?_)
      rcases q with ⟨q1, q2⟩ | ⟨q1, c', q2, q3, q4, q5⟩
      · have q1 : r8 = -1 := q1
        rw [if_pos q1]
        exact s_some (Or.inl ⟨rfl, q2⟩)
      · have q1 : r8 = 0 := q1
        have st9 : RS c' (k + 1) h9 := q3
        have fr9 : FRc c h7 h9 := q4
        rw [if_neg (by rw [q1]; decide)]
        obtain ⟨em, st10⟩ := rs_emit st9 x 0
        rw [em, bd_e]
        have fA : FRc c hv h9 := frc_tr (Nat.le_refl _) (frc_4 fr7) fr9
        exact ih (c' + 1) _ (by omega) (by omega) st10 (frc_tr (c1 := c') (by omega) (frc_tr (c1 := c) (by omega) fr fA) frc_emO) (up_bin x h2 q2 (up_frc fA (by omega) (Nat.le_refl _) u) q5 x0 x1 x9 (fun z => absurd z x5))
    have body : hv 104 14 = 4 → Sf (jn1 (fun (x6 : Int32) => bd (mm_reads hv) fun h7 => bd2 (mm_readProduct h7) fun r8 h9 => if r8 = (-1) then some ((-1), h9) else bd (mm_emits x6 0 h9) fun h10 => mm_readSum_L10 n h10) fun j5 => if (hv 104 15) = 43 then j5 2 else j5 3) (ExpQ c0 k h0) := fun t4 => by
      rw [jn1_e]
      exact s_if (fun _ => fin t4 2 (by decide) (by decide) (by decide) (by decide)) (fun _ => fin t4 3 (by decide) (by decide) (by decide) (by decide))
    rw [jn0_e]
    refine s_if (fun _ => ?_) (fun z => body (w3 z))
    refine s_sign (fun r14 w14 => ?_)
    exact s_if (fun _ => s_some (Or.inr ⟨rfl, c, h2, st, fr, u⟩)) (fun z => body (w14 z))
theorem sf_m_readSum {c k : Nat} {h : PH} (st : RS c k h) : Sf (mm_readSum h) (ExpQ c k h) := by
  unfold mm_readSum
  refine s_bd2 (sf_m_readProduct st) (fun r1 h2 q => ?_)
  rcases q with ⟨q1, q2⟩ | ⟨q1, c', q2, q3, q4, q5⟩
  · have q1 : r1 = -1 := q1
    rw [if_pos q1]
    exact s_some (Or.inl ⟨rfl, q2⟩)
  · have q1 : r1 = 0 := q1
    rw [if_neg (by rw [q1]; decide)]
    exact su_go c k h FU c' h2 (by unfold FU; omega) q2 q3 q4 q5
theorem sf_m_readCompared {c k : Nat} {h : PH} (st : RS c k h) : Sf (mm_readCompared h) (ExpQ c k h) := by
  unfold mm_readCompared
  refine s_bd2 (sf_m_readSum st) (fun r1 h2 q => ?_)
  rcases q with ⟨q1, q2⟩ | ⟨q1, c', q2, q3, q4, q5⟩
  · have q1 : r1 = -1 := q1
    rw [if_pos q1]
    exact s_some (Or.inl ⟨rfl, q2⟩)
  · have q1 : r1 = 0 := q1
    have st2 : RS c' k h2 := q3
    have fr2 : FRc c h h2 := q4
    have u2 : Up1 c c' h2 := q5
    rw [if_neg (by rw [q1]; decide)]
    have fin : h2 104 14 = 4 → ∀ x : Int32, ¬ x = 0 → ¬ x = 1 → ¬ x = 9 → ¬ x = 5 → Sf (bd (mm_reads h2) fun h7 => bd2 (mm_readSum h7) fun r8 h9 => if r8 = (-1) then some ((-1), h9) else bd (mm_emits x 0 h9) fun h10 => some (0, h10)) (ExpQ c k h) := fun t4 x x0 x1 x9 x5 => by
      refine s_bd (rs_take st2 (by rw [t4]; decide)) (fun h7 q7 => ?_)
      obtain ⟨st7, fr7⟩ := q7
      refine s_bd2 (sf_m_readSum st7) (fun r8 h9 q => ?_)
      rcases q with ⟨p1, p2⟩ | ⟨p1, c2, p2, p3, p4, p5⟩
      · have p1 : r8 = -1 := p1
        rw [if_pos p1]
        exact s_some (Or.inl ⟨rfl, p2⟩)
      · have p1 : r8 = 0 := p1
        have st9 : RS c2 (k + 1) h9 := p3
        have fr9 : FRc c' h7 h9 := p4
        rw [if_neg (by rw [p1]; decide)]
        obtain ⟨em, st10⟩ := rs_emit st9 x 0
        rw [em, bd_e]
        have fA : FRc c' h2 h9 := frc_tr (Nat.le_refl _) (frc_4 fr7) fr9
        exact s_some (Or.inr ⟨rfl, c2 + 1, by omega, st10, frc_tr (c1 := c2) (by omega) (frc_tr (c1 := c') (by omega) fr2 fA) frc_emO, up_bin x q2 p2 (up_frc fA (by omega) (Nat.le_refl _) u2) p5 x0 x1 x9 (fun z => absurd z x5)⟩)
    have body : h2 104 14 = 4 → Sf (jn1 (fun (x6 : Int32) => bd (mm_reads h2) fun h7 => bd2 (mm_readSum h7) fun r8 h9 => if r8 = (-1) then some ((-1), h9) else bd (mm_emits x6 0 h9) fun h10 => some (0, h10)) fun j5 => if (h2 104 15) = 60 then j5 6 else if (h2 104 15) = 61 then j5 7 else j5 8) (ExpQ c k h) := fun t4 => by
      rw [jn1_e]
      exact s_if (fun _ => fin t4 6 (by decide) (by decide) (by decide) (by decide)) (fun _ => s_if (fun _ => fin t4 7 (by decide) (by decide) (by decide) (by decide)) (fun _ => fin t4 8 (by decide) (by decide) (by decide) (by decide)))
    refine s_sign (fun r3 w3 => ?_)
    rw [jn0_e]
    refine s_if (fun _ => ?_) (fun z => body (w3 z))
    refine s_sign (fun r11 w11 => ?_)
    refine s_if (fun _ => ?_) (fun z => body (w11 z))
    refine s_sign (fun r12 w12 => ?_)
    exact s_if (fun _ => s_w (er_bd 1 st2.1) (fun r q => Or.inl q)) (fun z => body (w12 z))
