section
/-! SAFETY of the model's reader: tokens -/
def FR4 (h g : PH) : Prop := (∀ b, b ≠ 104 → g b = h b) ∧ ∀ j, j ≠ 12 → j ≠ 13 → j ≠ 14 → j ≠ 15 → g 104 j = h 104 j
theorem fr4_up {h g : PH} (f : FR4 h g) {j : Nat} (hj : j = 12 ∨ j = 13 ∨ j = 14 ∨ j = 15) (v : Int32) : FR4 h (up g 104 j v) :=
  ⟨fun b hb => by rw [← f.1 b hb]; funext q; exact up_oc hb, fun q h1 h2 h3 h4 => by rw [up_oj (by omega)]; exact f.2 q h1 h2 h3 h4⟩
theorem raw_s (x : Int32) (h : PH) (i : IM h) (f : R 0 400 x) : Sf (mm_raw x h) (fun r => ¬ r = -1 → x.toInt < (h 104 11).toInt) := by
  have ft : R 0 400 (h 104 11) := inv_rng i.1 rfl
  unfold mm_raw
  refine s_if (fun c => s_some (fun q => absurd rfl q)) (fun c => ?_)
  have c2 := nle_lt c
  have f2 : R 0 399 x := lt_hi f ft c2 (by decide)
  rw [Int32.lt_iff_toInt_lt] at c2
  exact s_ck f2 (by decide) (s_some (fun _ => c2))
theorem raw_e (x : Int32) (h : PH) (i : IM h) (f : R 0 400 x) : Sf (mm_raw x h) (fun r => ¬ r = -1 → x.toInt < (h 104 11).toInt ∧ r = h 111 (ix x)) := by
  have ft : R 0 400 (h 104 11) := inv_rng i.1 rfl
  unfold mm_raw
  refine s_if (fun c => s_some (fun q => absurd rfl q)) (fun c => ?_)
  have c2 := nle_lt c
  have f2 : R 0 399 x := lt_hi f ft c2 (by decide)
  rw [Int32.lt_iff_toInt_lt] at c2
  exact s_ck f2 (by decide) (s_some (fun _ => ⟨c2, rfl⟩))
theorem im_sp {h : PH} (i : IM h) (v : Int32) (f : R 0 400 v) : IM (up h 104 12 v) := im_put i (show sp 104 12 = (0, 400) from rfl) f (by decide)
theorem im_fm {h : PH} (i : IM h) (v : Int32) (f : R 0 400 v) : IM (up h 104 13 v) := im_put i (show sp 104 13 = (0, 400) from rfl) f (by decide)
theorem im_tk {h : PH} (i : IM h) (v : Int32) : IM (up h 104 14 v) := im_put i (show sp 104 14 = (-2147483648, 2147483647) from rfl) (r_full v) (by decide)
theorem im_vl {h : PH} (i : IM h) (v : Int32) : IM (up h 104 15 v) := im_put i (show sp 104 15 = (-2147483648, 2147483647) from rfl) (r_full v) (by decide)
theorem rsp {h : PH} (i : IM h) : R 0 400 (h 104 12) := inv_rng i.1 rfl
theorem rtp {h : PH} (i : IM h) : R 0 400 (h 104 11) := inv_rng i.1 rfl
/-- the next place -/
theorem nx_sp {h : PH} (i : IM h) (c : (h 104 12).toInt < (h 104 11).toInt) : (h 104 12 + 1).toInt = (h 104 12).toInt + 1 ∧ R 0 400 (h 104 12 + 1) := by
  have f1 := rsp i
  have f2 := rtp i
  have f3 : R 0 399 (h 104 12) := ⟨f1.1, by have := f2.2; omega⟩
  have m1 : R 1 1 (1 : Int32) := ⟨by decide, by decide⟩
  have e := i_add f3 m1 (by decide)
  simp only [show (1 : Int32).toInt = 1 from rfl] at e
  exact ⟨e, r_w (r_add f3 m1 (e := 1) (f := 400) (by decide)) (by decide)⟩
theorem rd0 (o : PH) (s : Int) (k0 : PH → Option PH) {Q : PH → Prop} (hk : ∀ g, IM g → FR4 o g → s ≤ (g 104 12).toInt → (g 104 12).toInt ≤ (g 104 11).toInt → Sf (k0 g) Q) : ∀ (n : Nat) (h : PH), 400 - (h 104 12).toInt < (n : Int) → IM h → FR4 o h → s ≤ (h 104 12).toInt → (h 104 12).toInt ≤ (h 104 11).toInt → Sf (mm_reads_L0 k0 n h) Q := by
  intro n
  induction n with
  | zero => intro h hn i; have := (rsp i).2; omega
  | succ n ih =>
    intro h hn i fr hs ht
    rw [mm_reads_L0]
    refine s_bd (raw_s _ h i (rsp i)) (fun r1 c1 => ?_)
    rw [jn0_e]
    have go : (h 104 12).toInt < (h 104 11).toInt → Sf (lt (up h 104 12 (h 104 12 + 1)) fun h3 => mm_reads_L0 k0 n h3) Q := fun c => by
      obtain ⟨e, f⟩ := nx_sp i c
      rw [lt_e]
      refine ih _ (by rw [up_same, e]; omega) (im_sp i _ f) (fr4_up fr (Or.inl rfl) _) (by rw [up_same, e]; omega) ?_
      rw [up_same, e, up_oj (by decide)]
      omega
    refine s_if (fun c => go (c1 (by rw [c]; decide))) (fun c => ?_)
    refine s_bd (raw_s _ h i (rsp i)) (fun r4 c4 => ?_)
    exact s_if (fun c => go (c4 (by rw [c]; decide))) (fun _ => hk h i fr hs ht)
/-- letters, or digits, as many as stand together -/
theorem rd95 (o : PH) (s : Int) (k0 : PH → Option PH) {Q : PH → Prop} (hk : ∀ g, IM g → FR4 o g → s ≤ (g 104 12).toInt → (g 104 12).toInt ≤ (g 104 11).toInt → g 104 13 = o 104 13 → (∀ x : Nat, (o 104 13).toInt ≤ (x : Int) → (x : Int) < (g 104 12).toInt → ¬ g 111 x = 32) → Sf (k0 g) Q) : ∀ (n : Nat) (h : PH), 400 - (h 104 12).toInt < (n : Int) → IM h → FR4 o h → s ≤ (h 104 12).toInt → (h 104 12).toInt ≤ (h 104 11).toInt → h 104 13 = o 104 13 → (∀ x : Nat, (o 104 13).toInt ≤ (x : Int) → (x : Int) < (h 104 12).toInt → ¬ h 111 x = 32) → Sf (mm_reads_L95 k0 n h) Q := by
  intro n
  induction n with
  | zero => intro h hn i; have := (rsp i).2; omega
  | succ n ih =>
    intro h hn i fr hs ht e13 hl
    rw [mm_reads_L95]
    refine s_bd (raw_e _ h i (rsp i)) (fun r c1 => ?_)
    refine s_bd (P := fun q => ¬ q = 0 → ¬ r = -1 ∧ ¬ r = 32) ?_ (fun q hq => ?_)
    · unfold mm_isLetter
      refine s_isin (fun r1 _ w1 => ?_)
      refine s_if (fun _ => ?_) (fun n1 => s_some (fun _ => ⟨fun z => ?_, fun z => ?_⟩))
      · refine s_isin (fun r2 _ w2 => ?_)
        refine s_if (fun _ => s_some (fun z => absurd rfl z)) (fun n2 => s_some (fun _ => ⟨fun z => ?_, fun z => ?_⟩))
        · rw [z] at w2; exact absurd (w2 n2).1 (by decide)
        · rw [z] at w2; exact absurd (w2 n2).1 (by decide)
      · rw [z] at w1; exact absurd (w1 n1).1 (by decide)
      · rw [z] at w1; exact absurd (w1 n1).1 (by decide)
    · refine s_if (fun _ => hk h i fr hs ht e13 hl) (fun nq => ?_)
      obtain ⟨g1, g2⟩ := hq nq
      obtain ⟨lt1, rv⟩ := c1 g1
      obtain ⟨e, f⟩ := nx_sp i lt1
      rw [lt_e]
      refine ih _ (by rw [up_same, e]; omega) (im_sp i _ f) (fr4_up fr (Or.inl rfl) _) (by rw [up_same, e]; omega) (by rw [up_same, e, up_oj (by decide)]; omega) (by rw [up_oj (by decide)]; exact e13) (fun x h1 h2 => ?_)
      rw [up_same, e] at h2
      rw [up_oc (by decide)]
      by_cases hx : (x : Int) < (h 104 12).toInt
      · exact hl x h1 hx
      · have hx2 : ix (h 104 12) = x := by
          have := clamp_int (i := h 104 12) (rsp i).1
          have : ((ix (h 104 12) : Nat) : Int) = (h 104 12).toInt := this
          omega
        rw [← hx2, ← rv]
        exact g2
theorem rd171 (o : PH) (s : Int) (k0 : PH → Option PH) {Q : PH → Prop} (hk : ∀ g, IM g → FR4 o g → s ≤ (g 104 12).toInt → (g 104 12).toInt ≤ (g 104 11).toInt → g 104 13 = o 104 13 → Sf (k0 g) Q) : ∀ (n : Nat) (h : PH), 400 - (h 104 12).toInt < (n : Int) → IM h → FR4 o h → s ≤ (h 104 12).toInt → (h 104 12).toInt ≤ (h 104 11).toInt → h 104 13 = o 104 13 → Sf (mm_reads_L171 k0 n h) Q := by
  intro n
  induction n with
  | zero => intro h hn i; have := (rsp i).2; omega
  | succ n ih =>
    intro h hn i fr hs ht e13
    rw [mm_reads_L171]
    refine s_bd (raw_e _ h i (rsp i)) (fun r c1 => ?_)
    refine s_bd (P := fun q => ¬ q = 0 → ¬ r = -1) ?_ (fun q hq => ?_)
    · unfold mm_isDigit
      refine s_isin (fun r1 _ w1 => s_some (fun z z2 => ?_))
      have n1 : ¬ r1 = 0 := fun z3 => z (by rw [z3]; rfl)
      rw [z2] at w1
      exact absurd (w1 n1).1 (by decide)
    · refine s_if (fun _ => hk h i fr hs ht e13) (fun nq => ?_)
      obtain ⟨lt1, -⟩ := c1 (hq nq)
      obtain ⟨e, f⟩ := nx_sp i lt1
      refine s_jn1 (P := fun _ => True) (fun x20 _ => ?_) (fun j19 kj => ?_)
      · rw [lt_e, lt_e]
        have e1 : up h 104 15 x20 104 12 = h 104 12 := up_oj (by decide)
        rw [e1]
        refine ih _ (by rw [up_same, e]; omega) (im_sp (im_vl i _) _ f) (fr4_up (fr4_up fr (Or.inr (Or.inr (Or.inr rfl))) _) (Or.inl rfl) _) (by rw [up_same, e]; omega) (by rw [up_same, e, up_oj (by decide), up_oj (by decide)]; omega) (by rw [up_oj (by decide), up_oj (by decide)]; exact e13)
      · refine s_if (fun _ => kj _ trivial) (fun _ => ?_)
        exact s_bd (raw_s _ h i (rsp i)) (fun r23 _ => kj _ trivial)
end
section
/-! SAFETY of the model's reader: words, a token -/
theorem wd_at1 {h : PH} (i : IM h) (j : Nat) (hj : j < 141) : (h 112 j).toInt = wdX.getD j 0 := by
  have q := i.1 112 j
  have e : sp 112 j = (wdX.getD j 0, wdX.getD j 0) := by
    show spX j = _
    unfold spX
    rw [if_pos hj]
  rw [e] at q
  exact Int.le_antisymm q.2 q.1
theorem wd140 {h : PH} (i : IM h) : h 112 140 = 32 := by
  apply Int32.toInt_inj.mp
  rw [wd_at1 i 140 (by decide)]
  rfl
theorem wa20 (a b k : Nat) (hb : b ≤ 400) (hk : k < 140) (p3 : Int32) (h : PH) (i : IM h) (hl : ∀ x : Nat, a ≤ x → x < b → ¬ h 111 x = 32) (k0 : Int32 → Option Int32) {Q : Int32 → Prop} (hk0 : ∀ c : Nat, k + 1 + c ≤ 140 → a + c ≤ b → Sf (k0 (nI c)) Q) : ∀ (n c : Nat), b < n + (a + c) → k + 1 + c ≤ 140 → a + c ≤ b → Sf (mm_wordAt_L20 (nI a) (nI b) p3 (nI k) h k0 n (nI c)) Q := by
  intro n
  induction n with
  | zero => intro c h1 h2 h3; omega
  | succ n ih =>
    intro c h1 h2 h3
    rw [mm_wordAt_L20, nI_add]
    by_cases hc : a + c = b
    · rw [hc, if_pos (nI_le (Nat.le_refl _) (by omega))]
      exact hk0 c h2 h3
    · rw [if_neg (nI_ge (by omega) (by omega)), nI_1, nI_add, ck_nI (by omega) (by omega), ck_nI (by omega) (by omega), show ix (nI (k + 1 + c)) = k + 1 + c from nI_clamp (by omega), show ix (nI (a + c)) = a + c from nI_clamp (by omega)]
      refine s_if (fun e => ?_) (fun _ => hk0 c h2 h3)
      rw [lt_e, nI_1]
      have n140 : ¬ k + 1 + c = 140 := fun q => by
        rw [q, wd140 i] at e
        exact hl (a + c) (by omega) (by omega) e.symm
      exact ih (c + 1) (by omega) (by omega) (by omega)
theorem wa94 (p1 p2 p3 : Int32) (h : PH) (i : IM h) (k0 : Int32 → Option Int32) {Q : Int32 → Prop} (k : Nat) (hk0 : ∀ q : Nat, k ≤ q → q ≤ 140 → Sf (k0 (nI q)) Q) : ∀ (n q : Nat), 140 < n + q → q ≤ 140 → k ≤ q → Sf (mm_wordAt_L94 p1 p2 p3 h k0 n (nI q)) Q := by
  intro n
  induction n with
  | zero => intro q h1 h2; omega
  | succ n ih =>
    intro q h1 h2 h3
    rw [mm_wordAt_L94, ck_nI (by omega) (by omega), show ix (nI q) = q from nI_clamp (by omega)]
    by_cases hq : q = 140
    · subst hq
      rw [if_pos (wd140 i)]
      exact hk0 140 h3 (by omega)
    · refine s_if (fun _ => hk0 q h3 h2) (fun _ => ?_)
      rw [lt_e, nI_1]
      exact ih (q + 1) (by omega) (by omega) (by omega)
theorem wa5 (a b : Nat) (hab : a ≤ b) (hb : b ≤ 400) (h : PH) (i : IM h) (hl : ∀ x : Nat, a ≤ x → x < b → ¬ h 111 x = 32) : ∀ (n k : Nat) (v3 : Int32), 140 < n + k → k ≤ 140 → Sf (mm_wordAt_L5 (nI a) (nI b) h n v3 (nI k)) (fun _ => True) := by
  intro n
  induction n with
  | zero => intro k v3 h1 h2; omega
  | succ n ih =>
    intro k v3 h1 h2
    rw [mm_wordAt_L5]
    by_cases hk : k = 140
    · subst hk
      rw [if_pos (show (140 : Int32) ≤ nI 140 by decide)]
      exact s_some trivial
    · rw [if_neg (show ¬ (140 : Int32) ≤ nI k from nI_ge (b := 140) (by omega) (by omega)), lt_e]
      have key : ∀ k0 : Int32 → Option Int32, (∀ c : Nat, k + 1 + c ≤ 140 → a + c ≤ b → Sf (k0 (nI c)) (fun _ => True)) → Sf (mm_wordAt_L20 (nI a) (nI b) (v3 + 1) (nI k) h k0 FU 0) (fun _ => True) := fun k0 hk0 => by
        have := wa20 a b k hb (by omega) (v3 + 1) h i hl k0 hk0 FU 0 (by unfold FU; omega) (by omega) (by omega)
        rw [nI_0] at this
        exact this
      refine key _ (fun c hc1 hc2 => ?_)
      refine s_jn0 ?_ (fun j4 kj => ?_)
      · rw [lt_e, nI_1]
        exact wa94 (nI a) (nI b) (v3 + 1) h i _ (k + 1) (fun q hq1 hq2 => ih q (v3 + 1) (by omega) hq2) FU (k + 1) (by unfold FU; omega) (by omega) (Nat.le_refl _)
      · refine s_if (fun _ => ?_) (fun _ => kj)
        rw [nI_1, nI_add, ck_nI (by omega) (by omega)]
        exact s_if (fun _ => s_some trivial) (fun _ => kj)
theorem sf_wordAt (a b : Nat) (hab : a ≤ b) (hb : b ≤ 400) (h : PH) (i : IM h) (hl : ∀ x : Nat, a ≤ x → x < b → ¬ h 111 x = 32) : Sf (mm_wordAt (nI a) (nI b) h) (fun _ => True) := by
  have := wa5 a b hab hb h i hl FU 0 (-1) (by unfold FU; omega) (by omega)
  rw [nI_0] at this
  exact this
/-- what a token leaves: the place behind it, and where it stands -/
def TK (h g : PH) : Prop := IM g ∧ FR4 h g ∧ (h 104 12).toInt ≤ (g 104 13).toInt ∧ (g 104 13).toInt ≤ (g 104 12).toInt ∧ (g 104 12).toInt ≤ (g 104 11).toInt ∧ (g 104 14 = 0 ∨ (g 104 13).toInt + 1 ≤ (g 104 12).toInt)
theorem sf_m_reads (h : PH) (i : IM h) (ht : (h 104 12).toInt ≤ (h 104 11).toInt) : Sf (mm_reads h) (fun g => TK h g) := by
  unfold mm_reads
  refine rd0 h (h 104 12).toInt _ (fun h5 i5 fr5 s5 t5 => ?_) FU h (by have := (rsp i).1; have e : ((FU : Nat) : Int) = 100000 := rfl; omega) i ⟨fun _ _ => rfl, fun _ _ _ _ _ => rfl⟩ (Int.le_refl _) ht
  rw [lt_e, lt_e]
  have e13 : up (up h5 104 13 (h5 104 12)) 104 14 1 104 13 = h5 104 12 := by rw [up_oj (by decide), up_same]
  have e12 : up (up h5 104 13 (h5 104 12)) 104 14 1 104 12 = h5 104 12 := by rw [up_oj (by decide), up_oj (by decide)]
  have e11 : up (up h5 104 13 (h5 104 12)) 104 14 1 104 11 = h5 104 11 := by rw [up_oj (by decide), up_oj (by decide)]
  have i7 : IM (up (up h5 104 13 (h5 104 12)) 104 14 1) := im_tk (im_fm i5 _ (rsp i5)) 1
  have fr7 : FR4 h (up (up h5 104 13 (h5 104 12)) 104 14 1) := fr4_up (fr4_up fr5 (Or.inr (Or.inl rfl)) _) (Or.inr (Or.inr (Or.inl rfl))) _
  generalize up (up h5 104 13 (h5 104 12)) 104 14 1 = h7 at e13 e12 e11 i7 fr7 ⊢
  refine s_bd (raw_e _ h7 i7 (rsp i7)) (fun r8 c8 => ?_)
  refine s_if (fun _ => ?_) (fun n8 => ?_)
  · rw [lt_e]
    refine s_some ⟨im_tk i7 0, fr4_up fr7 (Or.inr (Or.inr (Or.inl rfl))) _, ?_, ?_, ?_, Or.inl up_same⟩
    · rw [up_oj (by decide), e13]; exact s5
    · rw [up_oj (by decide), up_oj (by decide), e13, e12]; exact Int.le_refl _
    · rw [up_oj (by decide), up_oj (by decide), e12, e11]; exact t5
  · obtain ⟨lt1, rv⟩ := c8 n8
    obtain ⟨e, f⟩ := nx_sp i7 lt1
    rw [lt_e, lt_e]
    have i11 : IM (up (up h7 104 12 (h7 104 12 + 1)) 104 15 r8) := im_vl (im_sp i7 _ f) r8
    have fr11 : FR4 h (up (up h7 104 12 (h7 104 12 + 1)) 104 15 r8) := fr4_up (fr4_up fr7 (Or.inl rfl) _) (Or.inr (Or.inr (Or.inr rfl))) _
    have g12 : (up (up h7 104 12 (h7 104 12 + 1)) 104 15 r8 104 12).toInt = (h5 104 12).toInt + 1 := by rw [up_oj (by decide), up_same, e, e12]
    have g13 : up (up h7 104 12 (h7 104 12 + 1)) 104 15 r8 104 13 = h5 104 12 := by rw [up_oj (by decide), up_oj (by decide), e13]
    have g11 : up (up h7 104 12 (h7 104 12 + 1)) 104 15 r8 104 11 = h5 104 11 := by rw [up_oj (by decide), up_oj (by decide), e11]
    have g111 : up (up h7 104 12 (h7 104 12 + 1)) 104 15 r8 111 = h7 111 := by funext q; rw [up_oc (by decide), up_oc (by decide)]
    rw [e12, e11] at lt1
    generalize up (up h7 104 12 (h7 104 12 + 1)) 104 15 r8 = h11 at i11 fr11 g12 g13 g11 g111 ⊢
    have fin : ∀ g, IM g → FR4 h g → (h5 104 12).toInt + 1 ≤ (g 104 12).toInt → (g 104 12).toInt ≤ (g 104 11).toInt → g 104 13 = h11 104 13 → TK h g := fun g ig fg s1 s2 s3 => ⟨ig, fg, by rw [s3, g13]; exact s5, by rw [s3, g13]; omega, s2, Or.inr (by rw [s3, g13]; exact s1)⟩
    have tk : ∀ (g : PH) (v : Int32), IM g → FR4 h g → (h5 104 12).toInt + 1 ≤ (g 104 12).toInt → (g 104 12).toInt ≤ (g 104 11).toInt → g 104 13 = h11 104 13 → TK h (up g 104 14 v) := fun g v ig fg s1 s2 s3 => fin _ (im_tk ig v) (fr4_up fg (Or.inr (Or.inr (Or.inl rfl))) v) (by rw [up_oj (by decide)]; exact s1) (by rw [up_oj (by decide), up_oj (by decide)]; exact s2) (by rw [up_oj (by decide)]; exact s3)
    have t11 : (h11 104 12).toInt ≤ (h11 104 11).toInt := by rw [g12, g11]; omega
    have s11 : (h5 104 12).toInt + 1 ≤ (h11 104 12).toInt := by rw [g12]; exact Int.le_refl _
    refine s_bd (P := fun q => ¬ q = 0 → ¬ r8 = 32) ?_ (fun r12 hq => ?_)
    · unfold mm_isLetter
      refine s_isin (fun r1 _ w1 => ?_)
      refine s_if (fun _ => ?_) (fun n1 => s_some (fun _ z => ?_))
      · refine s_isin (fun r2 _ w2 => ?_)
        refine s_if (fun _ => s_some (fun z => absurd rfl z)) (fun n2 => s_some (fun _ z => ?_))
        rw [z] at w2; exact absurd (w2 n2).1 (by decide)
      · rw [z] at w1; exact absurd (w1 n1).1 (by decide)
    · refine s_if (fun _ => ?_) (fun n12 => ?_)
      · refine s_bd (P := fun _ => True) (by unfold mm_isDigit; exact s_isin (fun r1 _ _ => s_some trivial)) (fun r13 _ => ?_)
        refine s_if (fun _ => ?_) (fun _ => ?_)
        · refine s_bd (P := fun _ => True) ?_ (fun r14 _ => ?_)
          · unfold mm_isMarkSign
            repeat (refine s_if (fun _ => s_some trivial) (fun _ => ?_))
            exact s_some trivial
          · refine s_if (fun _ => s_some (fin h11 i11 fr11 s11 t11 rfl)) (fun _ => ?_)
            rw [lt_e]
            exact s_some (tk h11 4 i11 fr11 s11 t11 rfl)
        · rw [lt_e]
          have f16 : FR4 h11 (up h11 104 15 (r8 - 48)) := fr4_up ⟨fun _ _ => rfl, fun _ _ _ _ _ => rfl⟩ (Or.inr (Or.inr (Or.inr rfl))) _
          refine rd171 h11 ((h5 104 12).toInt + 1) _ (fun g ig fg s1 s2 s3 => ?_) FU _ (by have := (rsp (im_vl i11 (r8 - 48))).1; have e : ((FU : Nat) : Int) = 100000 := rfl; omega) (im_vl i11 _) f16 (by rw [up_oj (by decide)]; exact s11) (by rw [up_oj (by decide), up_oj (by decide)]; exact t11) (up_oj (by decide))
          have fg2 : FR4 h g := ⟨fun b hb => by rw [fg.1 b hb, fr11.1 b hb], fun j a1 a2 a3 a4 => by rw [fg.2 j a1 a2 a3 a4, fr11.2 j a1 a2 a3 a4]⟩
          refine s_if (fun _ => s_some (fin g ig fg2 s1 s2 s3)) (fun _ => ?_)
          rw [lt_e]
          exact s_some (tk g 3 ig fg2 s1 s2 s3)
      · refine rd95 h11 ((h5 104 12).toInt + 1) _ (fun g ig fg s1 s2 s3 hl => ?_) FU h11 (by have := (rsp i11).1; have e : ((FU : Nat) : Int) = 100000 := rfl; omega) i11 ⟨fun _ _ => rfl, fun _ _ _ _ _ => rfl⟩ s11 t11 rfl (fun x h1 h2 => ?_)
        · have fg2 : FR4 h g := ⟨fun b hb => by rw [fg.1 b hb, fr11.1 b hb], fun j a1 a2 a3 a4 => by rw [fg.2 j a1 a2 a3 a4, fr11.2 j a1 a2 a3 a4]⟩
          obtain ⟨a, ha1, ha2, ea⟩ := nat_of (show R 0 400 (g 104 13) from inv_rng ig.1 rfl) (by decide)
          obtain ⟨b, hb1, hb2, eb⟩ := nat_of (rsp ig) (by decide)
          have hab : a ≤ b := by
            have q1 : (g 104 13).toInt = (a : Int) := by rw [ea, nI_toInt ha2]
            have q2 : (g 104 12).toInt = (b : Int) := by rw [eb, nI_toInt hb2]
            rw [s3, g13] at q1
            omega
          rw [ea, eb]
          refine s_bd (sf_wordAt a b hab (by omega) g ig (fun x hx1 hx2 => hl x ?_ ?_)) (fun r30 _ => ?_)
          · rw [← s3, ea, nI_toInt ha2]; omega
          · rw [eb, nI_toInt hb2]; omega
          · rw [lt_e]
            have fv := fr4_up fg2 (j := 15) (Or.inr (Or.inr (Or.inr rfl))) r30
            have w1 : (h5 104 12).toInt + 1 ≤ (up g 104 15 r30 104 12).toInt := by rw [up_oj (by decide)]; exact s1
            have w2 : (up g 104 15 r30 104 12).toInt ≤ (up g 104 15 r30 104 11).toInt := by rw [up_oj (by decide), up_oj (by decide)]; exact s2
            have w3 : up g 104 15 r30 104 13 = h11 104 13 := by rw [up_oj (by decide)]; exact s3
            refine s_if (fun _ => s_some (fin _ (im_vl ig _) fv w1 w2 w3)) (fun _ => ?_)
            rw [lt_e]
            exact s_some (tk _ 2 (im_vl ig _) fv w1 w2 w3)
        · have q12 : (h11 104 12).toInt = (h5 104 12).toInt + 1 := g12
          rw [g13] at h1
          have hx : ix (h7 104 12) = x := by
            have := clamp_int (i := h7 104 12) (rsp i7).1
            have : ((ix (h7 104 12) : Nat) : Int) = (h7 104 12).toInt := this
            rw [e12] at this
            rw [e12]
            omega
          rw [g111, ← hx, ← rv]
          exact hq n12
end
section
/-! THE GAME, its safety alone (for claims that don't compare its answer) -/
theorem shr5 {x : Int32} (h : R 0 32767 x) : R 0 1023 (x >>> (5 &&& 31)) := by
  have e : (x >>> (5 &&& 31)).toInt = x.toInt / 32 := by
    have e1 : (x >>> (5 &&& 31)).toInt = (x >>> (5 &&& 31)).toBitVec.toInt := rfl
    have e2 : (x >>> (5 &&& 31)).toBitVec = x.toBitVec.sshiftRight 5 := rfl
    rw [e1, e2, BitVec.toInt_sshiftRight, Int.shiftRight_eq_div_pow]
    rfl
  obtain ⟨h1, h2⟩ := h
  exact ⟨by omega, by omega⟩
theorem ls_len (p0 p1 : Int32) (h : PH) : Sf (mL_lengthOf p0 p1 h) (fun r => R 0 7 r) := by
  unfold mL_lengthOf
  exact s_some (r_and (a := 7) ⟨by decide, by decide⟩ (by decide))
theorem ls_shape5 (p0 : Int32) (h : PH) : ∀ (n k : Nat) (v : Int32), 5 < n + k → k ≤ 5 → Sf (mL_isShape_L5 p0 h n v (nI k)) (fun _ => True) := by
  intro n
  induction n with
  | zero => intro k v h1 h2; omega
  | succ n ih =>
    intro k v h1 h2
    rw [mL_isShape_L5]
    by_cases e : k = 5
    · subst e
      rw [if_pos (by decide)]
      exact s_some trivial
    · rw [if_neg (show ¬ (5 : Int32) ≤ nI k from nI_ge (b := 5) (by omega) (by omega))]
      refine s_bd (ls_len p0 (nI k) h) (fun r _ => ?_)
      rw [nI_1]
      exact s_if (fun _ => ih (k + 1) _ (by omega) (by omega)) (fun _ => s_some trivial)
theorem ls_shape (p0 : Int32) (h : PH) : Sf (mL_isShape p0 h) (fun _ => True) := by
  have := ls_shape5 p0 h FU 0 6 (by unfold FU; omega) (by omega)
  rw [nI_0] at this
  exact this
theorem ls_bit5 (p0 p1 p2 : Int32) (h : PH) : ∀ (n k : Nat) (v : Int32), 5 < n + k → k ≤ 5 → Sf (mL_bitten_L5 p0 p1 p2 h n v (nI k)) (fun _ => True) := by
  intro n
  induction n with
  | zero => intro k v h1 h2; omega
  | succ n ih =>
    intro k v h1 h2
    rw [mL_bitten_L5]
    by_cases e : k = 5
    · subst e
      rw [if_pos (by decide)]
      exact s_some trivial
    · rw [if_neg (show ¬ (5 : Int32) ≤ nI k from nI_ge (b := 5) (by omega) (by omega))]
      refine s_bd (ls_len p0 (nI k) h) (fun r _ => ?_)
      refine s_jn1 (P := fun _ => True) (fun x _ => ?_) (fun j kj => s_if (fun _ => kj _ trivial) (fun _ => kj _ trivial))
      rw [lt_e, nI_1]
      exact ih (k + 1) _ (by omega) (by omega)
theorem ls_lost (p1 : Int32) (h : PH) : Sf (mL_isLost p1 h) (fun _ => True) := by
  unfold mL_isLost
  rw [lt_e]
  refine s_if (fun _ => s_some trivial) (fun c1 => s_if (fun _ => s_some trivial) (fun c2 => ?_))
  have f1 : R 0 2147483647 (p1 >>> (5 &&& 31)) := le_lo (show R 0 0 (0 : Int32) from ⟨by decide, by decide⟩) (r_full _) (nlt_le c1)
  have f2 : R 0 1023 (p1 >>> (5 &&& 31)) := lt_hi f1 (show R 1024 1024 (1024 : Int32) from ⟨by decide, by decide⟩) (nle_lt c2) (by decide)
  exact s_ck f2 (by decide) (s_if (fun _ => s_some trivial) (fun _ => s_some trivial))
theorem ls_win16 (p1 p2 p3 : Int32) (f3 : R 0 7 p3) (h : PH) (k0 : Option Int32) (hk0 : Sf k0 (fun _ => True)) : ∀ (n k : Nat), 7 < n + k → k ≤ 7 → Sf (mL_winningBite_L16 p1 p2 p3 h k0 n (nI k)) (fun _ => True) := by
  intro n
  induction n with
  | zero => intro k h1 h2; omega
  | succ n ih =>
    intro k h1 h2
    rw [mL_winningBite_L16]
    refine s_if (fun _ => hk0) (fun c => ?_)
    have c2 := nle_lt c
    rw [Int32.lt_iff_toInt_lt, nI_toInt (by omega)] at c2
    have := f3.2
    refine s_bd (P := fun _ => True) ?_ (fun r2 _ => ?_)
    · have := ls_bit5 p1 p2 (nI k) h FU 0 0 (by unfold FU; omega) (by omega)
      rw [nI_0] at this
      exact this
    · refine s_bd (ls_lost r2 h) (fun r3 _ => s_if (fun _ => ?_) (fun _ => s_some trivial))
      rw [nI_1]
      exact ih (k + 1) (by omega) (by omega)
theorem ls_win2 (p1 : Int32) (h : PH) : ∀ (n k : Nat), 5 < n + k → k ≤ 5 → Sf (mL_winningBite_L2 p1 h n (nI k)) (fun _ => True) := by
  intro n
  induction n with
  | zero => intro k h1 h2; omega
  | succ n ih =>
    intro k h1 h2
    rw [mL_winningBite_L2]
    by_cases e : k = 5
    · subst e
      rw [if_pos (by decide)]
      exact s_some trivial
    · rw [if_neg (show ¬ (5 : Int32) ≤ nI k from nI_ge (b := 5) (by omega) (by omega))]
      refine s_bd (ls_len p1 (nI k) h) (fun r fr => ?_)
      rw [nI_1]
      have := ls_win16 p1 (nI k) r fr h _ (ih (k + 1) (by omega) (by omega)) FU 0 (by unfold FU; omega) (by omega)
      rw [nI_0] at this
      exact this
theorem ls_win (p1 : Int32) (h : PH) : Sf (mL_winningBite p1 h) (fun _ => True) := by
  have := ls_win2 p1 h FU 0 (by unfold FU; omega) (by omega)
  rw [nI_0] at this
  exact this
theorem inv103 {h : PH} (i : Inv h) {j : Nat} (v : Int32) : Inv (up h 103 j v) := inv_put i (show sp 103 j = (-2147483648, 2147483647) from rfl) (r_full v)
theorem ls_learn2 : ∀ (n k : Nat) (h : PH), 32768 < n + k → k ≤ 32768 → Inv h → Sf (mL_learn_L2 n (nI k) h) Inv := by
  intro n
  induction n with
  | zero => intro k h h1 h2; omega
  | succ n ih =>
    intro k h h1 h2 i
    rw [mL_learn_L2]
    by_cases e : k = 32768
    · subst e
      rw [if_pos (by decide)]
      exact s_some i
    · rw [if_neg (show ¬ (32768 : Int32) ≤ nI k from nI_ge (b := 32768) (by omega) (by omega))]
      refine s_bd (ls_shape (nI k) h) (fun r1 _ => ?_)
      have go : ∀ g, Inv g → Sf (mL_learn_L2 n (nI k + 1) g) Inv := fun g ig => by
        rw [nI_1]
        exact ih (k + 1) g (by omega) (by omega) ig
      refine s_if (fun _ => go h i) (fun _ => ?_)
      refine s_bd (ls_win (nI k) h) (fun r2 _ => s_if (fun _ => ?_) (fun _ => go h i))
      have f : R 0 1023 (nI k >>> (5 &&& 31)) := shr5 ⟨by rw [nI_toInt (by omega)]; omega, by rw [nI_toInt (by omega)]; omega⟩
      refine s_ck f (by decide) (s_ck f (by decide) ?_)
      rw [lt_e]
      exact go _ (inv103 i _)
theorem ls_best21 (p1 p2 : Int32) (f1 : R 1 5 p1) (h : PH) (k0 : Int32 → Option (Int32 × PH)) {Q : Int32 × PH → Prop} (hk0 : ∀ x, Sf (k0 x) Q) : ∀ (n k : Nat) (v : Int32), 5 < n + k → k ≤ 5 → Sf (mL_bestBite_L21 p1 p2 h k0 n v (nI k)) Q := by
  intro n
  induction n with
  | zero => intro k v h1 h2; omega
  | succ n ih =>
    intro k v h1 h2
    rw [mL_bestBite_L21]
    refine s_if (fun _ => hk0 v) (fun c => ?_)
    have c2 := nle_lt c
    rw [Int32.lt_iff_toInt_lt, nI_toInt (by omega)] at c2
    have := f1.2
    rw [lt_e, nI_1]
    exact ih (k + 1) _ (by omega) (by omega)
theorem game_class (a b : Int32) (h : PH) (i : Inv h) (_ : GI h) : Sf (mX_game a b h) (fun r => Inv r.2 ∧ GI r.2 ∧ True ∧ True) := by
  have gt : ∀ g : PH, GI g := fun g => Or.inl ⟨rfl, rfl⟩
  unfold mX_game
  simp only [within_eq, bd_e]
  refine s_if (fun _ => s_some ⟨i, gt h, trivial, trivial⟩) (fun n1 => ?_)
  have c1 : 1 ≤ a ∧ a ≤ 5 := by
    by_cases c : 1 ≤ a ∧ a ≤ 5
    · exact c
    · rw [if_neg c] at n1; exact absurd rfl n1
  refine s_if (fun _ => s_some ⟨i, gt h, trivial, trivial⟩) (fun n2 => ?_)
  have f1 : R 1 5 a := by
    obtain ⟨q1, q2⟩ := c1
    rw [Int32.le_iff_toInt_le] at q1 q2
    exact ⟨q1, q2⟩
  refine s_bd2 (P := fun r => Inv r.2) ?_ (fun r3 h4 q => s_some ⟨q, gt h4, trivial, trivial⟩)
  unfold mL_bestBite
  refine s_jn1 (P := Inv) (fun h2 i2 => ?_) (fun j1 kj => ?_)
  · have := ls_best21 a b f1 h2 (fun (x4 : Int32) => bd (mL_winningBite x4 h2) fun r5 => some (r5, h2)) (Q := fun r => Inv r.2) (fun x => s_bd (ls_win x h2) (fun r _ => s_some i2)) FU 0 0 (by unfold FU; omega) (by omega)
    rw [nI_0] at this
    exact this
  · refine s_if (fun _ => ?_) (fun _ => kj _ i)
    have := ls_learn2 FU 1 h (by unfold FU; omega) (by omega) i
    refine s_bd (x := mL_learn h) this (fun h6 i6 => ?_)
    rw [lt_e]
    exact kj _ (inv_put i6 (show sp 102 1 = (-2147483648, 2147483647) from rfl) (r_full _))
/-! the model's side -/
def SL (h : PH) : Prop := ∀ j, j < 5 → R 0 6 (h 147 j)
theorem im147 {h : PH} (i : IM h) {j : Nat} (v : Int32) : IM (up h 147 j v) := im_put i (show sp 147 j = (-2147483648, 2147483647) from rfl) (r_full v) (by decide)
theorem im146 {h : PH} (i : IM h) {j : Nat} (v : Int32) : IM (up h 146 j v) := im_put i (show sp 146 j = (-2147483648, 2147483647) from rfl) (r_full v) (by decide)
theorem dz7 {ρ : Type} (k : Option ρ) : dz 7 k = k := dz_nz (by decide)
theorem gs_take4 : ∀ (n k : Nat) (v : Int32) (h : PH), 5 < n + k → k ≤ 5 → R 0 2147483647 v → IM h → (∀ j, j < k → R 0 6 (h 147 j)) → Sf (mm_takesSlab_L4 n v (nI k) h) (fun g => IM g ∧ SL g) := by
  intro n
  induction n with
  | zero => intro k v h h1 h2; omega
  | succ n ih =>
    intro k v h h1 h2 fv i sl
    rw [mm_takesSlab_L4]
    by_cases e : k = 5
    · subst e
      rw [if_pos (by decide)]
      exact s_some ⟨i, sl⟩
    · rw [if_neg (show ¬ (5 : Int32) ≤ nI k from nI_ge (b := 5) (by omega) (by omega)), dz7, ck_nI (by omega) (by decide), lt_e, dz7, lt_e, nI_1, show ix (nI k) = k from nI_clamp (by omega)]
      have m7 : R 7 7 (7 : Int32) := ⟨by decide, by decide⟩
      refine ih (k + 1) _ _ (by omega) (by omega) (r_w (r_div fv m7 (e := 0) (f := 2147483647) (by decide)) (by decide)) (im147 i _) (fun j hj => ?_)
      by_cases ej : j = k
      · subst ej
        rw [up_same]
        exact r_irm fv m7 (by decide)
      · rw [up_oj ej]
        exact sl j (by omega)
theorem gs_take (v : Int32) (h : PH) (fv : R 0 2147483647 v) (i : IM h) : Sf (mm_takesSlab v h) (fun g => IM g ∧ SL g) := by
  have := gs_take4 FU 0 v h (by unfold FU; omega) (by omega) fv i (fun j hj => by omega)
  rw [nI_0] at this
  exact this
theorem gs_is (h : PH) : ∀ (n k : Nat), 5 < n + k → 1 ≤ k → k ≤ 5 → Sf (mm_isSlab_L2 h n (nI k)) (fun _ => True) := by
  intro n
  induction n with
  | zero => intro k h1 h2 h3; omega
  | succ n ih =>
    intro k h1 h2 h3
    rw [mm_isSlab_L2]
    by_cases e : k = 5
    · subst e
      rw [if_pos (by decide)]
      exact s_some trivial
    · obtain ⟨m, rfl⟩ : ∃ m, k = m + 1 := ⟨k - 1, by omega⟩
      rw [if_neg (show ¬ (5 : Int32) ≤ nI (m + 1) from nI_ge (b := 5) (by omega) (by omega)), ck_nI (by omega) (by decide), nI_pred, ck_nI (by omega) (by decide), nI_1]
      exact s_if (fun _ => ih (m + 1 + 1) (by omega) (by omega) (by omega)) (fun _ => s_some trivial)
theorem gs_bit5 (p1 p2 : Int32) (f2 : R 0 6 p2) (h : PH) (sl : SL h) : ∀ (n k a : Nat), k < n → k ≤ 5 → a < 7 ^ (5 - k) → Sf (mm_bitten_L5 p1 p2 h n (nI a) (nI k - 1)) (fun r => R 0 16806 r) := by
  intro n
  induction n with
  | zero => intro k a h1; omega
  | succ n ih =>
    intro k a h1 h2 h3
    have p5 : 7 ^ (5 - k) ≤ 16807 := Nat.pow_le_pow_right (by decide) (show 5 - k ≤ 5 by omega)
    rw [mm_bitten_L5]
    by_cases e : k = 0
    · subst e
      rw [if_pos (by decide)]
      exact s_some ⟨by rw [nI_toInt (by omega)]; omega, by rw [nI_toInt (by omega)]; omega⟩
    · obtain ⟨m, rfl⟩ : ∃ m, k = m + 1 := ⟨k - 1, by omega⟩
      rw [nI_pred]
      rw [if_neg (show ¬ nI m < 0 by
        rw [Int32.lt_iff_toInt_lt, nI_toInt (by omega)]
        simp only [show (0 : Int32).toInt = 0 from rfl]
        omega)]
      have em : nI m + (-1) = nI m - 1 := by rw [Int32.sub_eq_add_neg]
      have pw : 7 ^ (5 - m) = 7 * 7 ^ (5 - (m + 1)) := by rw [show 5 - m = (5 - (m + 1)) + 1 by omega, Nat.pow_succ, Nat.mul_comm]
      have fin : ∀ r : Int32, R 0 6 r → Sf (mm_bitten_L5 p1 p2 h n ((7 * nI a) + r) (nI m + (-1))) (fun r => R 0 16806 r) := fun r fr => by
        obtain ⟨q, q1, q2, rfl⟩ := nat_of fr (by decide)
        rw [em, show (7 : Int32) * nI a = nI (7 * a) from nI_mul 7 a, nI_add]
        exact ih m (7 * a + q) (by omega) (by omega) (by omega)
      have fs : R 0 6 (h 147 (ix (nI m))) := by rw [show ix (nI m) = m from nI_clamp (by omega)]; exact sl m (by omega)
      refine s_if (fun _ => ?_) (fun _ => ?_)
      · rw [ck_nI (by omega) (by decide)]
        refine s_bd (P := fun r => R 0 6 r) ?_ (fun r fr => ?_)
        · unfold mm_lesser
          exact s_if (fun _ => s_some f2) (fun _ => s_some fs)
        · rw [lt_e]
          exact fin r fr
      · rw [ck_nI (by omega) (by decide), lt_e]
        exact fin _ fs
theorem gs_bit (p1 p2 : Int32) (f2 : R 0 6 p2) (h : PH) (sl : SL h) : Sf (mm_bitten p1 p2 h) (fun r => R 0 16806 r) := gs_bit5 p1 p2 f2 h sl FU 5 0 (by unfold FU; omega) (by omega) (by decide)
theorem gs_good9 (m : Nat) (hm : m < 5) (h : PH) (sl : SL h) (k0 : Option Int32) (hk0 : Sf k0 (fun _ => True)) : ∀ (n k : Nat), 6 < n + k → k ≤ 6 → Sf (mm_goodBite_L9 (nI m) h k0 n (nI k)) (fun _ => True) := by
  intro n
  induction n with
  | zero => intro k h1 h2; omega
  | succ n ih =>
    intro k h1 h2
    rw [mm_goodBite_L9, ck_nI (by omega) (by decide), show ix (nI m) = m from nI_clamp (by omega)]
    refine s_if (fun _ => hk0) (fun c => ?_)
    have c2 := nle_lt c
    rw [Int32.lt_iff_toInt_lt, nI_toInt (by omega)] at c2
    have f6 := (sl m hm).2
    have go : Sf (mm_goodBite_L9 (nI m) h k0 n (nI k + 1)) (fun _ => True) := by
      rw [nI_1]
      exact ih (k + 1) (by omega) (by omega)
    refine s_if (fun _ => go) (fun _ => ?_)
    refine s_bd (gs_bit (nI m) (nI k) ⟨by rw [nI_toInt (by omega)]; omega, by rw [nI_toInt (by omega)]; omega⟩ h sl) (fun r fr => ?_)
    exact s_ck fr (by decide) (s_if (fun _ => s_some trivial) (fun _ => go))
theorem gs_good2 (h : PH) (sl : SL h) : ∀ (n k : Nat), 5 < n + k → k ≤ 5 → Sf (mm_goodBite_L2 h n (nI k)) (fun _ => True) := by
  intro n
  induction n with
  | zero => intro k h1 h2; omega
  | succ n ih =>
    intro k h1 h2
    rw [mm_goodBite_L2]
    by_cases e : k = 5
    · subst e
      rw [if_pos (by decide)]
      exact s_some trivial
    · rw [if_neg (show ¬ (5 : Int32) ≤ nI k from nI_ge (b := 5) (by omega) (by omega)), nI_1]
      have := gs_good9 k (by omega) h sl _ (ih (k + 1) (by omega) (by omega)) FU 0 (by unfold FU; omega) (by omega)
      rw [nI_0] at this
      exact this
theorem gs_good (h : PH) (sl : SL h) : Sf (mm_goodBite h) (fun _ => True) := by
  have := gs_good2 h sl FU 0 (by unfold FU; omega) (by omega)
  rw [nI_0] at this
  exact this
theorem gs_55 (a : Nat) (ha : a < 16807) (k0 : PH → Option (Int32 × PH)) {Q : Int32 × PH → Prop} (hk0 : ∀ g, IM g → Sf (k0 g) Q) : ∀ (n k : Nat) (h : PH), a + 1 < n + k → k ≤ a + 1 → IM h → Sf (mm_game_L55 (nI a) k0 n (nI k) h) Q := by
  intro n
  induction n with
  | zero => intro k h h1 h2; omega
  | succ n ih =>
    intro k h h1 h2 i
    rw [mm_game_L55]
    refine s_if (fun _ => hk0 h i) (fun c => ?_)
    have c2 := nlt_le c
    rw [Int32.le_iff_toInt_le, nI_toInt (by omega), nI_toInt (by omega)] at c2
    refine s_bd (gs_take (nI k) h ⟨by rw [nI_toInt (by omega)]; omega, by rw [nI_toInt (by omega)]; omega⟩ i) (fun h6 q => ?_)
    obtain ⟨i6, s6⟩ := q
    refine s_bd (x := mm_isSlab h6) (gs_is h6 FU 1 (by unfold FU; omega) (by omega) (by omega)) (fun r7 _ => ?_)
    refine s_jn1 (P := fun _ => True) (fun x9 _ => ?_) (fun j8 kj => ?_)
    · rw [ck_nI (by omega) (by decide), lt_e, nI_1]
      exact ih (k + 1) _ (by omega) (by omega) (im146 i6 _)
    · refine s_if (fun _ => kj _ trivial) (fun _ => ?_)
      exact s_bd (gs_good h6 s6) (fun r _ => s_if (fun _ => kj _ trivial) (fun _ => kj _ trivial))
theorem gs_33 (p1 p2 : Int32) (f1 : R 1 5 p1) (f2 : R 1 6 p2) (h : PH) (k0 : Int32 → Option (Int32 × PH)) {Q : Int32 × PH → Prop} (hk0 : ∀ a, a < 16807 → Sf (k0 (nI a)) Q) : ∀ (n k a : Nat), 5 < n + k → k ≤ 5 → a < 7 ^ k → Sf (mm_game_L33 p1 p2 h k0 n (nI a) (nI k)) Q := by
  intro n
  induction n with
  | zero => intro k a h1 h2; omega
  | succ n ih =>
    intro k a h1 h2 h3
    have p5 : 7 ^ k ≤ 16807 := Nat.pow_le_pow_right (by decide) (show k ≤ 5 by omega)
    rw [mm_game_L33]
    refine s_if (fun _ => hk0 a (by omega)) (fun c => ?_)
    have c2 := nle_lt c
    rw [Int32.lt_iff_toInt_lt, nI_toInt (by omega)] at c2
    have := f1.2
    obtain ⟨q, q1, q2, rfl⟩ := nat_of f2 (by decide)
    rw [lt_e, nI_1, show (7 : Int32) * nI a = nI (7 * a) from nI_mul 7 a, nI_add]
    exact ih (k + 1) (7 * a + q) (by omega) (by omega) (by rw [Nat.pow_succ]; omega)
theorem game_model (a b : Int32) (h : PH) (i : IM h) : Sf (mm_game a b h) (fun r => IM r.2 ∧ True ∧ True) := by
  unfold mm_game
  rw [lt_e]
  have i1 : IM (up h 104 0 0) := im_put i (show sp 104 0 = (-2147483648, 2147483647) from rfl) (r_full _) (by decide)
  refine s_isin (fun r2 _ w2 => s_if (fun _ => s_some ⟨i1, trivial, trivial⟩) (fun n2 => ?_))
  refine s_isin (fun r3 _ w3 => s_if (fun _ => s_some ⟨i1, trivial, trivial⟩) (fun n3 => ?_))
  have f1 : R 1 5 a := by
    obtain ⟨q1, q2⟩ := w2 n2
    rw [Int32.le_iff_toInt_le] at q1 q2
    exact ⟨q1, q2⟩
  have f2 : R 1 6 b := by
    obtain ⟨q1, q2⟩ := w3 n3
    rw [Int32.le_iff_toInt_le] at q1 q2
    exact ⟨q1, q2⟩
  have key := gs_33 a b f1 f2 (up h 104 0 0) (fun (x5 : Int32) => mm_game_L55 x5 (fun (h12 : PH) => bd (mm_takesSlab x5 h12) fun h13 => bd (mm_goodBite h13) fun r14 => some (r14, h13)) FU 1 (up h 104 0 0)) (Q := fun r => IM r.2 ∧ True ∧ True) (fun c hc => by
    refine gs_55 c hc _ (fun g ig => ?_) FU 1 _ (by unfold FU; omega) (by omega) i1
    refine s_bd (gs_take (nI c) g ⟨by rw [nI_toInt (by omega)]; omega, by rw [nI_toInt (by omega)]; omega⟩ ig) (fun h13 q => ?_)
    exact s_bd (gs_good h13 q.2) (fun r _ => s_some ⟨q.1, trivial, trivial⟩)) FU 0 0 (by unfold FU; omega) (by omega) (by decide)
  rw [nI_0] at key
  exact key
end
section
/-! SAFETY of the model's reader: the draft -/
theorem im_draft {h : PH} {c j : Nat} (v : Int32) (i : IM h) (hc : ((c = 118 ∨ c = 119) ∧ 400 ≤ j) ∨ ((114 ≤ c ∧ c ≤ 117) ∧ 16 ≤ j)) : IM (up h c j v) := by
  obtain ⟨i1, i2, i3⟩ := i
  have hs : sp c j = rF := by
    have h6 : c = 114 ∨ c = 115 ∨ c = 116 ∨ c = 117 ∨ c = 118 ∨ c = 119 := by omega
    rcases h6 with q | q | q | q | q | q <;> subst q <;> rfl
  have at1 : ∀ x l, (x = c → l ≠ j) → up h c j v x l = h x l := fun x l hx => by
    by_cases q : x = c
    · subst q; exact up_oj (hx rfl)
    · exact up_oc q
  have lmr : R 0 16 (h 113 0) := inv_rng i1 rfl
  refine ⟨inv_up i1 (by rw [hs]; exact r_full v), LawF_c i2 lmr.2 (at1 113 0 (fun q => by omega)) (fun l hl => ⟨at1 115 l (fun q => by omega), at1 116 l (fun q => by omega), at1 117 l (fun q => by omega)⟩) (fun k hk => ⟨at1 118 k (fun q => by omega), at1 119 k (fun q => by omega)⟩), ?_⟩
  have e : up h c j v 148 = h 148 := funext fun q => at1 148 q (fun w => by omega)
  unfold LawImg
  rw [e]
  exact i3
/-- one code is written behind the draft -/
def emO (h : PH) (c : Nat) (x v : Int32) : PH := up (up (up h 118 (800 + c) x) 119 (800 + c) v) 104 25 (nI (c + 1))
theorem emits_at (h : PH) (c : Nat) (hc : c < 400) (e : h 104 25 = nI c) (x v : Int32) : mm_emits x v h = some (emO h c x v) := by
  unfold mm_emits
  have e8 : 800 + nI c = nI (800 + c) := nI_add 800 c
  have ixc : ix (nI (800 + c)) = 800 + c := nI_clamp (by omega)
  have e1 : up h 118 (800 + c) x 104 25 = nI c := by rw [up_oc (by decide)]; exact e
  have e2 : up (up h 118 (800 + c) x) 119 (800 + c) v 104 25 = nI c := by rw [up_oc (by decide)]; exact e1
  rw [e, e8, ck_nI (by omega) (by omega), lt_e, ixc, e1, e8, ck_nI (by omega) (by omega), lt_e, ixc, lt_e, e2, nI_1]
  rfl
theorem im_emO {h : PH} (i : IM h) (c : Nat) (x v : Int32) : IM (emO h c x v) := im_put (im_draft v (im_draft x i (Or.inl ⟨Or.inl rfl, by omega⟩)) (Or.inl ⟨Or.inr rfl, by omega⟩)) (show sp 104 25 = (-2147483648, 2147483647) from rfl) (r_full _) (by decide)
theorem emO_c {h : PH} {c : Nat} {x v : Int32} : emO h c x v 104 25 = nI (c + 1) := up_same
theorem emO_104 {h : PH} {c : Nat} {x v : Int32} {j : Nat} (hj : j ≠ 25) : emO h c x v 104 j = h 104 j := by
  unfold emO
  rw [up_oj hj, up_oc (by decide), up_oc (by decide)]
theorem emO_op {h : PH} {c : Nat} {x v : Int32} : emO h c x v 118 (800 + c) = x ∧ emO h c x v 119 (800 + c) = v := by
  unfold emO
  constructor
  · rw [up_oc (by decide), up_oc (by decide), up_same]
  · rw [up_oc (by decide), up_same]
theorem emO_lo {h : PH} {c : Nat} {x v : Int32} (k : Nat) (hk : k < c) : emO h c x v 118 (800 + k) = h 118 (800 + k) ∧ emO h c x v 119 (800 + k) = h 119 (800 + k) := by
  unfold emO
  constructor
  · rw [up_oc (by decide), up_oc (by decide), up_oj (by omega)]
  · rw [up_oc (by decide), up_oj (by omega), up_oc (by decide)]
theorem emO_b {h : PH} {c : Nat} {x v : Int32} (b : Nat) (h1 : b ≠ 104) (h2 : b ≠ 118) (h3 : b ≠ 119) : emO h c x v b = h b := by
  unfold emO
  funext j
  rw [up_oc h1, up_oc h3, up_oc h2]
/-- the draft's code from f on brings the stack from nothing to d -/
def dOp (h : PH) : Nat → Int32 := fun k => h 118 (800 + k)
def dAr (h : PH) : Nat → Int32 := fun k => h 119 (800 + k)
theorem dep_app (op arg : Nat → Int32) (f : Nat) : ∀ (m n k d : Nat), dep op arg f (m + n) k d = bd (dep op arg f m k d) fun d' => dep op arg f n (k + m) d' := by
  intro m
  induction m with
  | zero => intro n k d; rw [Nat.zero_add, Nat.add_zero]; rfl
  | succ m ih =>
    intro n k d
    rw [show m + 1 + n = m + n + 1 by omega, dep, dep]
    cases stC op arg f k d with
    | none => rfl
    | some d1 =>
      rw [bd_e, bd_e, ih, show k + 1 + m = k + (m + 1) by omega]
theorem dep_one {op arg : Nat → Int32} {f m k d d1 d2 : Nat} (h : dep op arg f m k d = some d1) (hs : stC op arg f (k + m) d1 = some d2) : dep op arg f (m + 1) k d = some d2 := by
  rw [dep_app, h, bd_e, dep, hs]
  rfl
end
section
/-! SAFETY of the model's reader: a unit -/
/-- the reader's state: c codes are written, k more are owed to tokens that were read -/
def RS (c k : Nat) (h : PH) : Prop := IM h ∧ h 104 25 = nI c ∧ (h 104 12).toInt ≤ (h 104 11).toInt ∧ (h 104 13).toInt ≤ (h 104 12).toInt ∧ (h 104 14 = 0 ∨ (h 104 13).toInt + 1 ≤ (h 104 12).toInt) ∧ (c : Int) + (k : Int) ≤ (h 104 13).toInt
theorem rs_reads {c k : Nat} {h : PH} (i : IM h) (e : h 104 25 = nI c) (ht : (h 104 12).toInt ≤ (h 104 11).toInt) (hs : (c : Int) + (k : Int) ≤ (h 104 12).toInt) : Sf (mm_reads h) (fun g => RS c k g ∧ FR4 h g) := by
  refine s_w (sf_m_reads h i ht) (fun g q => ?_)
  obtain ⟨i2, fr, q1, q2, q3, q4⟩ := q
  exact ⟨⟨i2, by rw [fr.2 25 (by decide) (by decide) (by decide) (by decide)]; exact e, q3, q2, q4, by omega⟩, fr⟩
/-- what a piece of code leaves as it was -/
def FRc (c : Nat) (h g : PH) : Prop := (∀ b, b ≠ 104 → b ≠ 118 → b ≠ 119 → g b = h b) ∧ (∀ q, q < c → dOp g q = dOp h q ∧ dAr g q = dAr h q) ∧ ∀ j, j ≠ 12 → j ≠ 13 → j ≠ 14 → j ≠ 15 → j ≠ 25 → j ≠ 29 → j ≠ 30 → g 104 j = h 104 j
theorem frc_emit {h g : PH} {c : Nat} {x v : Int32} (fr : FR4 (emO h c x v) g) : FRc c h g := by
  refine ⟨fun b h1 h2 h3 => by rw [fr.1 b h1]; exact emO_b b h1 h2 h3, fun q hq => ?_, fun j h1 h2 h3 h4 h5 _ _ => by rw [fr.2 j h1 h2 h3 h4]; exact emO_104 h5⟩
  unfold dOp dAr
  rw [fr.1 118 (by decide), fr.1 119 (by decide)]
  exact emO_lo q hq
theorem sf_errs (p : Int32) {h : PH} (i : IM h) : Sf (mm_errs p h) (fun r => r.1 = -1 ∧ IM r.2) := by
  unfold mm_errs
  rw [lt_e, lt_e]
  exact s_some ⟨rfl, im_put (im_put i (show sp 104 29 = (-2147483648, 2147483647) from rfl) (r_full _) (by decide)) (show sp 104 30 = (-2147483648, 2147483647) from rfl) (r_full _) (by decide)⟩
def UnitQ (c k : Nat) (h : PH) (r : Int32 × PH) : Prop := (r.1 = -1 ∧ IM r.2) ∨ (r.1 = 0 ∧ RS (c + 1) k r.2 ∧ FRc c h r.2 ∧ (dOp r.2 c = 0 ∨ (dOp r.2 c = 1 ∧ 0 ≤ dAr r.2 c ∧ dAr r.2 c ≤ 11)) ∧ (h 104 14 = 3 → dOp r.2 c = 0 ∧ dAr r.2 c = h 104 15))
theorem unit_go {c k : Nat} {h : PH} (st : RS c k h) (nz : ¬ h 104 14 = 0) (x v : Int32) (hx : x = 0 ∨ (x = 1 ∧ 0 ≤ v ∧ v ≤ 11)) (h3 : h 104 14 = 3 → x = 0 ∧ v = h 104 15) : Sf (bd (mm_emits x v h) fun h8 => bd (mm_reads h8) fun h9 => some ((0 : Int32), h9)) (UnitQ c k h) := by
  obtain ⟨i, e, s1, s2, s3, s4⟩ := st
  have s5 : (h 104 13).toInt + 1 ≤ (h 104 12).toInt := by
    rcases s3 with q | q
    · exact absurd q nz
    · exact q
  have t4 := (rtp i).2
  rw [emits_at h c (by omega) e, bd_e]
  have e12 : emO h c x v 104 12 = h 104 12 := emO_104 (by decide)
  have e11 : emO h c x v 104 11 = h 104 11 := emO_104 (by decide)
  refine s_bd (rs_reads (c := c + 1) (k := k) (im_emO i c x v) emO_c (by rw [e12, e11]; exact s1) (by rw [e12]; omega)) (fun h9 q => ?_)
  obtain ⟨rs, fr⟩ := q
  have o1 : dOp h9 c = x ∧ dAr h9 c = v := by
    unfold dOp dAr
    rw [fr.1 118 (by decide), fr.1 119 (by decide)]
    exact emO_op
  refine s_some (Or.inr ⟨rfl, rs, frc_emit fr, ?_, fun q => ?_⟩)
  · show dOp h9 c = 0 ∨ _
    rw [o1.1, o1.2]; exact hx
  · show dOp h9 c = 0 ∧ dAr h9 c = _
    rw [o1.1, o1.2]; exact h3 q
theorem sf_m_readUnit {c k : Nat} {h : PH} (st : RS c k h) : Sf (mm_readUnit h) (UnitQ c k h) := by
  unfold mm_readUnit
  have err : Sf (bd2 (mm_errs 1 h) fun r10 h11 => some (r10, h11)) (UnitQ c k h) := s_bd2 (sf_errs 1 st.1) (fun r g q => s_some (Or.inl q))
  refine s_jn1 (P := fun x2 => x2 = 0 ∨ (x2 = 1 ∧ h 104 14 = 2 ∧ 7 ≤ h 104 15 ∧ h 104 15 ≤ 18)) (fun x2 hx => ?_) (fun j1 kj => ?_)
  · rcases hx with q | ⟨q, t2, v1, v2⟩
    · subst q
      rw [jn0_e, if_pos rfl]
      refine s_if (fun c3 => ?_) (fun _ => err)
      rw [jn1_e, if_pos rfl]
      dsimp only
      rw [jn1_e, if_pos rfl]
      dsimp only
      exact unit_go st (by rw [c3]; decide) 0 _ (Or.inl rfl) (fun _ => ⟨rfl, rfl⟩)
    · subst q
      have n1 : ¬ (1 : Int32) = 0 := by decide
      rw [jn0_e, if_neg n1, jn1_e, if_neg n1]
      dsimp only
      rw [jn1_e, if_neg n1]
      dsimp only
      have f : R 7 18 (h 104 15) := le_hi (le_lo (show R 7 7 (7 : Int32) from ⟨by decide, by decide⟩) (r_full _) v1) (show R 18 18 (18 : Int32) from ⟨by decide, by decide⟩) v2
      have f2 : R 0 11 (h 104 15 - 7) := r_sub f (show R 7 7 (7 : Int32) from ⟨by decide, by decide⟩) (by decide)
      refine unit_go st (by rw [t2]; decide) 1 _ (Or.inr ⟨rfl, ?_, ?_⟩) (fun q => by rw [t2] at q; exact absurd q (by decide))
      · rw [Int32.le_iff_toInt_le]; exact f2.1
      · rw [Int32.le_iff_toInt_le]; exact f2.2
  · refine s_if (fun t2 => ?_) (fun _ => kj _ (Or.inl rfl))
    refine s_bd (P := fun r => ¬ r = 0 → 7 ≤ h 104 15 ∧ h 104 15 ≤ 18) ?_ (fun r12 hr => ?_)
    · unfold mm_canAsk
      exact s_isin (fun r1 _ w => s_some (fun q => w (fun z => q (by rw [z]; rfl))))
    · exact s_if (fun _ => kj _ (Or.inl rfl)) (fun n => kj _ (Or.inr ⟨rfl, t2, hr n⟩))
end
section
/-! SAFETY of the model's reader: products and sums -/
theorem frc_tr {c c1 : Nat} {h g f : PH} (hc : c ≤ c1) (a : FRc c h g) (b : FRc c1 g f) : FRc c h f :=
  ⟨fun x h1 h2 h3 => by rw [b.1 x h1 h2 h3]; exact a.1 x h1 h2 h3, fun q hq => by
    obtain ⟨u1, u2⟩ := b.2.1 q (by omega)
    obtain ⟨w1, w2⟩ := a.2.1 q hq
    exact ⟨u1.trans w1, u2.trans w2⟩, fun j h1 h2 h3 h4 h5 h6 h7 => by rw [b.2.2 j h1 h2 h3 h4 h5 h6 h7]; exact a.2.2 j h1 h2 h3 h4 h5 h6 h7⟩
theorem frc_4 {c : Nat} {h g : PH} (a : FR4 h g) : FRc c h g :=
  ⟨fun x h1 _ _ => a.1 x h1, fun q _ => by unfold dOp dAr; rw [a.1 118 (by decide), a.1 119 (by decide)]; exact ⟨rfl, rfl⟩, fun j h1 h2 h3 h4 _ _ _ => a.2 j h1 h2 h3 h4⟩
theorem frc_emO {c : Nat} {h : PH} {x v : Int32} : FRc c h (emO h c x v) :=
  ⟨fun b h1 h2 h3 => emO_b b h1 h2 h3, fun q hq => emO_lo q hq, fun j _ _ _ _ h5 _ _ => emO_104 h5⟩
/-- code below c1 says the same on both heaps -/
theorem dep_lo {h g : PH} {c1 : Nat} (fr : FRc c1 h g) (f : Nat) : ∀ (m k d : Nat), k + m ≤ c1 → dep (dOp g) (dAr g) f m k d = dep (dOp h) (dAr h) f m k d := by
  intro m
  induction m with
  | zero => intro k d _; rfl
  | succ m ih =>
    intro k d hk
    obtain ⟨u1, u2⟩ := fr.2.1 k (by omega)
    obtain ⟨w1, w2⟩ := fr.2.1 (k - 1) (by omega)
    rw [dep, dep]
    have e : stC (dOp g) (dAr g) f k d = stC (dOp h) (dAr h) f k d := by
      unfold stC
      rw [u1, u2, w1, w2]
    rw [e]
    congr 1
    funext d'
    exact ih (k + 1) d' (by omega)
def Up1 (c c' : Nat) (h : PH) : Prop := ∀ f d, f ≤ c → dep (dOp h) (dAr h) f (c' - c) c d = some (d + 1)
def ExpQ (c k : Nat) (h : PH) (r : Int32 × PH) : Prop := (r.1 = -1 ∧ IM r.2) ∨ (r.1 = 0 ∧ ∃ c', c < c' ∧ RS c' k r.2 ∧ FRc c h r.2 ∧ Up1 c c' r.2)
theorem rs_emit {c k : Nat} {h : PH} (st : RS c (k + 1) h) (x v : Int32) : mm_emits x v h = some (emO h c x v) ∧ RS (c + 1) k (emO h c x v) := by
  obtain ⟨i, e, s1, s2, s3, s4⟩ := st
  have t4 := (rtp i).2
  have e12 : emO h c x v 104 12 = h 104 12 := emO_104 (by decide)
  have e11 : emO h c x v 104 11 = h 104 11 := emO_104 (by decide)
  have e13 : emO h c x v 104 13 = h 104 13 := emO_104 (by decide)
  have e14 : emO h c x v 104 14 = h 104 14 := emO_104 (by decide)
  refine ⟨emits_at h c (by omega) e x v, im_emO i c x v, emO_c, by rw [e12, e11]; exact s1, by rw [e13, e12]; exact s2, by rw [e14, e13, e12]; exact s3, ?_⟩
  rw [e13]
  omega
theorem up_unit {c k : Nat} {h : PH} {r : Int32 × PH} (q : RS (c + 1) k r.2) (o : dOp r.2 c = 0 ∨ (dOp r.2 c = 1 ∧ 0 ≤ dAr r.2 c ∧ dAr r.2 c ≤ 11)) (f d : Nat) : stC (dOp r.2) (dAr r.2) f c d = some (d + 1) := by
  unfold stC
  rcases o with w | ⟨w, w1⟩
  · rw [if_pos w]
  · rw [if_neg (by rw [w]; decide), if_pos w, if_pos w1]
end
section
/-! SAFETY of the model's reader: products, sums, comparisons -/
theorem s_sign {ρ : Type} {Q : ρ → Prop} {p : Int32} {h : PH} {f : Int32 → Option ρ} (hf : ∀ r, (¬ r = 0 → h 104 14 = 4) → Sf (f r) Q) : Sf (bd (mm_isSign p h) f) Q := by
  unfold mm_isSign
  by_cases c : h 104 14 = 4
  · rw [if_pos c]
    by_cases c2 : h 104 15 = p
    · rw [if_pos c2, bd_e]; exact hf 1 (fun _ => c)
    · rw [if_neg c2, bd_e]; exact hf 0 (fun q => absurd rfl q)
  · rw [if_neg c, bd_e]; exact hf 0 (fun q => absurd rfl q)
theorem s_word {ρ : Type} {Q : ρ → Prop} {p : Int32} {h : PH} {f : Int32 → Option ρ} (hf : ∀ r, (¬ r = 0 → h 104 14 = 2 ∧ h 104 15 = p) → Sf (f r) Q) : Sf (bd (mm_isWord p h) f) Q := by
  unfold mm_isWord
  by_cases c : h 104 14 = 2
  · rw [if_pos c]
    by_cases c2 : h 104 15 = p
    · rw [if_pos c2, bd_e]; exact hf 1 (fun _ => ⟨c, c2⟩)
    · rw [if_neg c2, bd_e]; exact hf 0 (fun q => absurd rfl q)
  · rw [if_neg c, bd_e]; exact hf 0 (fun q => absurd rfl q)
theorem rfm {h : PH} (i : IM h) : R 0 400 (h 104 13) := inv_rng i.1 rfl
theorem rs_le {c k : Nat} {h : PH} (st : RS c k h) : c + k ≤ 400 := by
  have h1 := (rfm st.1).2
  have h2 := st.2.2.2.2.2
  omega
/-- a token that is one is read: one credit more -/
theorem rs_take {c k : Nat} {h : PH} (st : RS c k h) (nz : ¬ h 104 14 = 0) : Sf (mm_reads h) (fun g => RS c (k + 1) g ∧ FR4 h g) := by
  obtain ⟨i, e, s1, s2, s3, s4⟩ := st
  have s5 : (h 104 13).toInt + 1 ≤ (h 104 12).toInt := by
    rcases s3 with q | q
    · exact absurd q nz
    · exact q
  exact rs_reads (k := k + 1) i e s1 (by omega)
theorem stC_bin {op arg : Nat → Int32} {f k d : Nat} (h0 : ¬ op k = 0) (h1 : ¬ op k = 1) (h9 : ¬ op k = 9) (h5 : op k = 5 → f < k ∧ op (k - 1) = 0 ∧ ¬ arg (k - 1) = 0) : stC op arg f k (d + 2) = some (d + 1) := by
  unfold stC
  rw [if_neg h0, if_neg h1, if_neg h9, if_pos ⟨by omega, h5⟩]
  rfl
theorem up_frc {c c' c1 : Nat} {h g : PH} (fr : FRc c1 h g) (hc : c ≤ c') (hc1 : c' ≤ c1) (u : Up1 c c' h) : Up1 c c' g := fun f d hf => by
  rw [dep_lo fr f (c' - c) c d (by omega)]
  exact u f d hf
theorem up_bin {c0 c1 c2 : Nat} {g : PH} (x : Int32) (a : c0 < c1) (b : c1 < c2) (u1 : Up1 c0 c1 g) (u2 : Up1 c1 c2 g) (x0 : ¬ x = 0) (x1 : ¬ x = 1) (x9 : ¬ x = 9) (h5 : x = 5 → dOp g (c2 - 1) = 0 ∧ ¬ dAr g (c2 - 1) = 0) : Up1 c0 (c2 + 1) (emO g c2 x 0) := by
  intro f d hf
  have fr : FRc c2 g (emO g c2 x 0) := frc_emO
  rw [show c2 + 1 - c0 = (c1 - c0) + ((c2 - c1) + 1) by omega, dep_app, dep_lo fr f (c1 - c0) c0 d (by omega), u1 f d hf, bd_e, show c0 + (c1 - c0) = c1 by omega]
  refine dep_one (d1 := d + 2) ?_ ?_
  · rw [dep_lo fr f (c2 - c1) c1 (d + 1) (by omega)]
    exact u2 f (d + 1) (by omega)
  · rw [show c1 + (c2 - c1) = c2 by omega]
    have o : dOp (emO g c2 x 0) c2 = x := emO_op.1
    obtain ⟨w1, w2⟩ := fr.2.1 (c2 - 1) (by omega)
    refine stC_bin (by rw [o]; exact x0) (by rw [o]; exact x1) (by rw [o]; exact x9) (fun q => ?_)
    rw [o] at q
    rw [w1, w2]
    exact ⟨by omega, h5 q⟩
theorem up_one {c : Nat} {g : PH} (o : dOp g c = 0 ∨ (dOp g c = 1 ∧ 0 ≤ dAr g c ∧ dAr g c ≤ 11)) : Up1 c (c + 1) g := fun f d _ => by
  rw [show c + 1 - c = 0 + 1 by omega]
  refine dep_one (d1 := d) rfl ?_
  unfold stC
  rcases o with w | ⟨w, w1⟩
  · rw [Nat.add_zero, if_pos w]
  · rw [Nat.add_zero, if_neg (by rw [w]; decide), if_pos w, if_pos w1]
def ErQ (r : Int32 × PH) : Prop := r.1 = -1 ∧ IM r.2
theorem er_bd (p : Int32) {h : PH} (i : IM h) : Sf (bd2 (mm_errs p h) fun r g => some (r, g)) ErQ := s_bd2 (sf_errs p i) (fun r g q => s_some q)
theorem pr_go (c0 k : Nat) (h0 : PH) (k0 k1 : PH → Option (Int32 × PH)) (e0 : ∀ g, IM g → Sf (k0 g) ErQ) (e1 : ∀ g, IM g → Sf (k1 g) ErQ) : ∀ (n c : Nat) (hv : PH), 400 < n + c → c0 < c → RS c k hv → FRc c0 h0 hv → Up1 c0 c hv → Sf (mm_readProduct_L10 k0 k1 n hv) (ExpQ c0 k h0) := by
  intro n
  induction n with
  | zero => intro c hv h1 h2 st; have := rs_le st; omega
  | succ n ih =>
    intro c hv h1 h2 st fr u
    rw [mm_readProduct_L10]
    refine s_sign (fun r3 w3 => ?_)
    have body : hv 104 14 = 4 → Sf (bd (mm_isSign 42 hv) fun r5 => bd (mm_reads hv) fun h6 => jn0 (jn0 (bd2 (mm_readUnit h6) fun r9 h10 => if r9 = (-1) then some ((-1), h10) else jn1 (fun (x12 : Int32) => bd (mm_emits x12 0 h10) fun h13 => mm_readProduct_L10 k0 k1 n h13) fun j11 => if r5 = 0 then j11 5 else j11 4) fun j8 => if r5 = 0 then if (h6 104 15) = 0 then k1 h6 else j8 else j8) fun j7 => if r5 = 0 then if (h6 104 14) = 3 then j7 else k0 h6 else j7) (ExpQ c0 k h0) := fun t4 => by
      refine s_sign (fun r5 _ => ?_)
      refine s_bd (rs_take st (by rw [t4]; decide)) (fun h6 q6 => ?_)
      obtain ⟨st6, fr6⟩ := q6
      rw [jn0_e, jn0_e]
      have main : (r5 = 0 → h6 104 14 = 3 ∧ ¬ h6 104 15 = 0) → Sf (bd2 (mm_readUnit h6) fun r9 h10 => if r9 = (-1) then some ((-1), h10) else jn1 (fun (x12 : Int32) => bd (mm_emits x12 0 h10) fun h13 => mm_readProduct_L10 k0 k1 n h13) fun j11 => if r5 = 0 then j11 5 else j11 4) (ExpQ c0 k h0) := fun hr5 => by
        refine s_bd2 (sf_m_readUnit st6) (fun r9 h10 q => ?_)
        rcases q with ⟨q1, q2⟩ | ⟨q1, q2, q3, q4, q5⟩
        · have q1 : r9 = -1 := q1
          rw [if_pos q1]
          exact s_some (Or.inl ⟨rfl, q2⟩)
        · have q1 : r9 = 0 := q1
          have st10 : RS (c + 1) (k + 1) h10 := q2
          have fr10 : FRc c h6 h10 := q3
          rw [if_neg (by rw [q1]; decide)]
          have fA : FRc c hv h10 := frc_tr (Nat.le_refl _) (frc_4 fr6) fr10
          have fB : FRc c0 h0 h10 := frc_tr (Nat.le_refl _) fr (frc_tr (c1 := c) (by omega) (frc_4 fr6) fr10)
          have uA : Up1 c0 c h10 := up_frc fA (by omega) (Nat.le_refl _) u
          have fin : ∀ x : Int32, ¬ x = 0 → ¬ x = 1 → ¬ x = 9 → (x = 5 → r5 = 0) → Sf (bd (mm_emits x 0 h10) fun h13 => mm_readProduct_L10 k0 k1 n h13) (ExpQ c0 k h0) := fun x x0 x1 x9 x5 => by
            obtain ⟨em, st13⟩ := rs_emit st10 x 0
            rw [em, bd_e]
            refine ih (c + 1 + 1) _ (by omega) (by omega) st13 (frc_tr (c1 := c + 1) (by omega) fB frc_emO) (up_bin x h2 (by omega) uA (up_one q4) x0 x1 x9 (fun z => ?_))
            obtain ⟨y1, y2⟩ := hr5 (x5 z)
            obtain ⟨y3, y4⟩ := q5 y1
            have y3 : dOp h10 c = 0 := y3
            have y4 : dAr h10 c = h6 104 15 := y4
            rw [Nat.add_sub_cancel, y4]
            exact ⟨y3, y2⟩
          rw [jn1_e]
          by_cases z : r5 = 0
          · rw [if_pos z]
            exact fin 5 (by decide) (by decide) (by decide) (fun _ => z)
          · rw [if_neg z]
            exact fin 4 (by decide) (by decide) (by decide) (fun w => absurd w (by decide))
      by_cases z : r5 = 0
      · rw [if_pos z]
        refine s_if (fun t3 => ?_) (fun _ => s_w (e0 h6 st6.1) (fun r q => Or.inl q))
        rw [if_pos z]
        exact s_if (fun _ => s_w (e1 h6 st6.1) (fun r q => Or.inl q)) (fun nv => main (fun _ => ⟨t3, nv⟩))
      · rw [if_neg z, if_neg z]
        exact main (fun w => absurd w z)
    rw [jn0_e]
    refine s_if (fun _ => ?_) (fun z => body (w3 z))
    refine s_sign (fun r14 w14 => ?_)
    exact s_if (fun _ => s_some (Or.inr ⟨rfl, c, h2, st, fr, u⟩)) (fun z => body (w14 z))
theorem sf_m_readProduct {c k : Nat} {h : PH} (st : RS c k h) : Sf (mm_readProduct h) (ExpQ c k h) := by
  unfold mm_readProduct
  refine s_bd2 (sf_m_readUnit st) (fun r1 h2 q => ?_)
  rcases q with ⟨q1, q2⟩ | ⟨q1, q2, q3, q4, q5⟩
  · have q1 : r1 = -1 := q1
    rw [if_pos q1]
    exact s_some (Or.inl ⟨rfl, q2⟩)
  · have q1 : r1 = 0 := q1
    rw [if_neg (by rw [q1]; decide)]
    exact pr_go c k h _ _ (fun g ig => er_bd 1 ig) (fun g ig => er_bd 2 ig) FU (c + 1) h2 (by unfold FU; omega) (by omega) q2 q3 (up_one q4)
theorem su_go (c0 k : Nat) (h0 : PH) : ∀ (n c : Nat) (hv : PH), 400 < n + c → c0 < c → RS c k hv → FRc c0 h0 hv → Up1 c0 c hv → Sf (mm_readSum_L10 n hv) (ExpQ c0 k h0) := by
  intro n
  induction n with
  | zero => intro c hv h1 h2 st; have := rs_le st; omega
  | succ n ih =>
    intro c hv h1 h2 st fr u
    rw [mm_readSum_L10]
    refine s_sign (fun r3 w3 => ?_)
    have fin : hv 104 14 = 4 → ∀ x : Int32, ¬ x = 0 → ¬ x = 1 → ¬ x = 9 → ¬ x = 5 → Sf (bd (mm_reads hv) fun h7 => bd2 (mm_readProduct h7) fun r8 h9 => if r8 = (-1) then some ((-1), h9) else bd (mm_emits x 0 h9) fun h10 => mm_readSum_L10 n h10) (ExpQ c0 k h0) := fun t4 x x0 x1 x9 x5 => by
      refine s_bd (rs_take st (by rw [t4]; decide)) (fun h7 q7 => ?_)
      obtain ⟨st7, fr7⟩ := q7
      refine s_bd2 (sf_m_readProduct st7) (fun r8 h9 q => ?_)
      rcases q with ⟨q1, q2⟩ | ⟨q1, c', q2, q3, q4, q5⟩
      · have q1 : r8 = -1 := q1
        rw [if_pos q1]
        exact s_some (Or.inl ⟨rfl, q2⟩)
      · have q1 : r8 = 0 := q1
        have st9 : RS c' (k + 1) h9 := q3
        have fr9 : FRc c h7 h9 := q4
        rw [if_neg (by rw [q1]; decide)]
        obtain ⟨em, st10⟩ := rs_emit st9 x 0
        rw [em, bd_e]
        have fA : FRc c hv h9 := frc_tr (Nat.le_refl _) (frc_4 fr7) fr9
        exact ih (c' + 1) _ (by omega) (by omega) st10 (frc_tr (c1 := c') (by omega) (frc_tr (c1 := c) (by omega) fr fA) frc_emO) (up_bin x h2 q2 (up_frc fA (by omega) (Nat.le_refl _) u) q5 x0 x1 x9 (fun z => absurd z x5))
    have body : hv 104 14 = 4 → Sf (jn1 (fun (x6 : Int32) => bd (mm_reads hv) fun h7 => bd2 (mm_readProduct h7) fun r8 h9 => if r8 = (-1) then some ((-1), h9) else bd (mm_emits x6 0 h9) fun h10 => mm_readSum_L10 n h10) fun j5 => if (hv 104 15) = 43 then j5 2 else j5 3) (ExpQ c0 k h0) := fun t4 => by
      rw [jn1_e]
      exact s_if (fun _ => fin t4 2 (by decide) (by decide) (by decide) (by decide)) (fun _ => fin t4 3 (by decide) (by decide) (by decide) (by decide))
    rw [jn0_e]
    refine s_if (fun _ => ?_) (fun z => body (w3 z))
    refine s_sign (fun r14 w14 => ?_)
    exact s_if (fun _ => s_some (Or.inr ⟨rfl, c, h2, st, fr, u⟩)) (fun z => body (w14 z))
theorem sf_m_readSum {c k : Nat} {h : PH} (st : RS c k h) : Sf (mm_readSum h) (ExpQ c k h) := by
  unfold mm_readSum
  refine s_bd2 (sf_m_readProduct st) (fun r1 h2 q => ?_)
  rcases q with ⟨q1, q2⟩ | ⟨q1, c', q2, q3, q4, q5⟩
  · have q1 : r1 = -1 := q1
    rw [if_pos q1]
    exact s_some (Or.inl ⟨rfl, q2⟩)
  · have q1 : r1 = 0 := q1
    rw [if_neg (by rw [q1]; decide)]
    exact su_go c k h FU c' h2 (by unfold FU; omega) q2 q3 q4 q5
theorem sf_m_readCompared {c k : Nat} {h : PH} (st : RS c k h) : Sf (mm_readCompared h) (ExpQ c k h) := by
  unfold mm_readCompared
  refine s_bd2 (sf_m_readSum st) (fun r1 h2 q => ?_)
  rcases q with ⟨q1, q2⟩ | ⟨q1, c', q2, q3, q4, q5⟩
  · have q1 : r1 = -1 := q1
    rw [if_pos q1]
    exact s_some (Or.inl ⟨rfl, q2⟩)
  · have q1 : r1 = 0 := q1
    have st2 : RS c' k h2 := q3
    have fr2 : FRc c h h2 := q4
    have u2 : Up1 c c' h2 := q5
    rw [if_neg (by rw [q1]; decide)]
    have fin : h2 104 14 = 4 → ∀ x : Int32, ¬ x = 0 → ¬ x = 1 → ¬ x = 9 → ¬ x = 5 → Sf (bd (mm_reads h2) fun h7 => bd2 (mm_readSum h7) fun r8 h9 => if r8 = (-1) then some ((-1), h9) else bd (mm_emits x 0 h9) fun h10 => some (0, h10)) (ExpQ c k h) := fun t4 x x0 x1 x9 x5 => by
      refine s_bd (rs_take st2 (by rw [t4]; decide)) (fun h7 q7 => ?_)
      obtain ⟨st7, fr7⟩ := q7
      refine s_bd2 (sf_m_readSum st7) (fun r8 h9 q => ?_)
      rcases q with ⟨p1, p2⟩ | ⟨p1, c2, p2, p3, p4, p5⟩
      · have p1 : r8 = -1 := p1
        rw [if_pos p1]
        exact s_some (Or.inl ⟨rfl, p2⟩)
      · have p1 : r8 = 0 := p1
        have st9 : RS c2 (k + 1) h9 := p3
        have fr9 : FRc c' h7 h9 := p4
        rw [if_neg (by rw [p1]; decide)]
        obtain ⟨em, st10⟩ := rs_emit st9 x 0
        rw [em, bd_e]
        have fA : FRc c' h2 h9 := frc_tr (Nat.le_refl _) (frc_4 fr7) fr9
        exact s_some (Or.inr ⟨rfl, c2 + 1, by omega, st10, frc_tr (c1 := c2) (by omega) (frc_tr (c1 := c') (by omega) fr2 fA) frc_emO, up_bin x q2 p2 (up_frc fA (by omega) (Nat.le_refl _) u2) p5 x0 x1 x9 (fun z => absurd z x5)⟩)
    have body : h2 104 14 = 4 → Sf (jn1 (fun (x6 : Int32) => bd (mm_reads h2) fun h7 => bd2 (mm_readSum h7) fun r8 h9 => if r8 = (-1) then some ((-1), h9) else bd (mm_emits x6 0 h9) fun h10 => some (0, h10)) fun j5 => if (h2 104 15) = 60 then j5 6 else if (h2 104 15) = 61 then j5 7 else j5 8) (ExpQ c k h) := fun t4 => by
      rw [jn1_e]
      exact s_if (fun _ => fin t4 6 (by decide) (by decide) (by decide) (by decide)) (fun _ => s_if (fun _ => fin t4 7 (by decide) (by decide) (by decide) (by decide)) (fun _ => fin t4 8 (by decide) (by decide) (by decide) (by decide)))
    refine s_sign (fun r3 w3 => ?_)
    rw [jn0_e]
    refine s_if (fun _ => ?_) (fun z => body (w3 z))
    refine s_sign (fun r11 w11 => ?_)
    refine s_if (fun _ => ?_) (fun z => body (w11 z))
    refine s_sign (fun r12 w12 => ?_)
    exact s_if (fun _ => s_w (er_bd 1 st2.1) (fun r q => Or.inl q)) (fun z => body (w12 z))
end
section
/-! SAFETY of the model's reader: what is pending (9 not, 10 and, 11 or, 12 a bracket; the latest first) -/
def Pd : List Int32 → PH → Prop
  | [], _ => True
  | q :: r, h => h 120 r.length = q ∧ Pd r h
def cO : List Int32 → Nat
  | [] => 0
  | q :: r => (if q = 9 ∨ q = 12 then 1 else 0) + cO r
def cB : List Int32 → Nat
  | [] => 0
  | q :: r => (if q = 12 then 1 else 0) + cB r
def cE : List Int32 → Nat
  | [] => 0
  | q :: r => (if q = 12 then 0 else 1) + cE r
def cD : List Int32 → Nat
  | [] => 0
  | q :: r => (if q = 10 ∨ q = 11 then 1 else 0) + cD r
def Gm : List Int32 → Nat → Prop
  | [], _ => True
  | q :: r, m => (q = 12 ∧ Gm r 0) ∨ (m = 0 ∧ q = 9 ∧ Gm r 0) ∨ (m = 0 ∧ q = 10 ∧ Gm r 1) ∨ (m ≤ 1 ∧ q = 11 ∧ Gm r 2)
def dr (p : Int32) : List Int32 → List Int32
  | [] => []
  | q :: r => if q = p then dr p r else q :: r
theorem gm_len : ∀ (ps : List Int32) (m : Nat), Gm ps m → ps.length ≤ 3 * cO ps + (2 - m) := by
  intro ps
  induction ps with
  | nil => intro m _; simp
  | cons q r ih =>
    intro m g
    rw [List.length_cons]
    rcases g with ⟨rfl, g⟩ | ⟨rfl, rfl, g⟩ | ⟨rfl, rfl, g⟩ | ⟨hm, rfl, g⟩
    · have := ih 0 g
      have e : cO (12 :: r) = 1 + cO r := rfl
      omega
    · have := ih 0 g
      have e : cO (9 :: r) = 1 + cO r := rfl
      omega
    · have := ih 1 g
      have e : cO (10 :: r) = 0 + cO r := rfl
      omega
    · have := ih 2 g
      have e : cO (11 :: r) = 0 + cO r := rfl
      omega
theorem gm_dr9 : ∀ ps : List Int32, Gm ps 0 → Gm (dr 9 ps) 0 ∧ ∀ r, ¬ dr 9 ps = 9 :: r := by
  intro ps
  induction ps with
  | nil => intro _; exact ⟨trivial, fun r q => by cases q⟩
  | cons q r ih =>
    intro g
    by_cases e : q = 9
    · rw [dr, if_pos e]
      rcases g with ⟨h1, g⟩ | ⟨-, -, g⟩ | ⟨-, h1, g⟩ | ⟨-, h1, g⟩
      · rw [e] at h1; exact absurd h1 (by decide)
      · exact ih g
      · rw [e] at h1; exact absurd h1 (by decide)
      · rw [e] at h1; exact absurd h1 (by decide)
    · rw [dr, if_neg e]
      exact ⟨g, fun r2 z => e (List.cons.inj z).1⟩
theorem gm_dr10 (ps : List Int32) (g : Gm ps 0) (n9 : ∀ r, ¬ ps = 9 :: r) : Gm (dr 10 ps) 1 := by
  cases ps with
  | nil => trivial
  | cons q r =>
    rcases g with ⟨rfl, g⟩ | ⟨-, rfl, g⟩ | ⟨-, rfl, g⟩ | ⟨-, rfl, g⟩
    · rw [dr, if_neg (by decide)]; exact Or.inl ⟨rfl, g⟩
    · exact absurd rfl (n9 r)
    · rw [dr, if_pos rfl]
      cases r with
      | nil => trivial
      | cons q2 r2 =>
        rcases g with ⟨rfl, g⟩ | ⟨z, -⟩ | ⟨z, -⟩ | ⟨-, rfl, g⟩
        · rw [dr, if_neg (by decide)]; exact Or.inl ⟨rfl, g⟩
        · cases z
        · cases z
        · rw [dr, if_neg (by decide)]; exact Or.inr (Or.inr (Or.inr ⟨by decide, rfl, g⟩))
    · rw [dr, if_neg (by decide)]; exact Or.inr (Or.inr (Or.inr ⟨by decide, rfl, g⟩))
theorem gm_dr11 (ps : List Int32) (g : Gm ps 1) : Gm (dr 11 ps) 2 := by
  cases ps with
  | nil => trivial
  | cons q r =>
    rcases g with ⟨rfl, g⟩ | ⟨z, -⟩ | ⟨z, -⟩ | ⟨-, rfl, g⟩
    · rw [dr, if_neg (by decide)]; exact Or.inl ⟨rfl, g⟩
    · cases z
    · cases z
    · rw [dr, if_pos rfl]
      cases r with
      | nil => trivial
      | cons q2 r2 =>
        rcases g with ⟨rfl, g⟩ | ⟨z, -⟩ | ⟨z, -⟩ | ⟨z, -⟩
        · rw [dr, if_neg (by decide)]; exact Or.inl ⟨rfl, g⟩
        · cases z
        · cases z
        · omega
theorem gm_2 (ps : List Int32) (g : Gm ps 2) : ps = [] ∨ ∃ r, ps = 12 :: r ∧ Gm r 0 := by
  cases ps with
  | nil => exact Or.inl rfl
  | cons q r =>
    rcases g with ⟨rfl, g⟩ | ⟨z, -⟩ | ⟨z, -⟩ | ⟨z, -⟩
    · exact Or.inr ⟨r, rfl, g⟩
    · cases z
    · cases z
    · omega
theorem cB_dr (p : Int32) (hp : ¬ p = 12) : ∀ ps, cB (dr p ps) = cB ps := by
  intro ps
  induction ps with
  | nil => rfl
  | cons q r ih =>
    by_cases e : q = p
    · rw [dr, if_pos e, ih, cB, if_neg (by rw [e]; exact hp), Nat.zero_add]
    · rw [dr, if_neg e]
theorem cO_dr (p : Int32) : ∀ ps, cO (dr p ps) ≤ cO ps := by
  intro ps
  induction ps with
  | nil => exact Nat.le_refl _
  | cons q r ih =>
    by_cases e : q = p
    · rw [dr, if_pos e, cO]; omega
    · rw [dr, if_neg e]; exact Nat.le_refl _
theorem cB_cO : ∀ ps, cB ps ≤ cO ps := by
  intro ps
  induction ps with
  | nil => exact Nat.le_refl _
  | cons q r ih =>
    rw [cB, cO]
    by_cases e : q = 12
    · rw [if_pos e, if_pos (Or.inr e)]; omega
    · rw [if_neg e]; split <;> omega
theorem pd_fr {h g : PH} : ∀ (ps : List Int32), (∀ j, j < ps.length → g 120 j = h 120 j) → Pd ps h → Pd ps g := by
  intro ps
  induction ps with
  | nil => intro _ _; trivial
  | cons q r ih =>
    intro hj hp
    exact ⟨by rw [hj r.length (by rw [List.length_cons]; omega)]; exact hp.1, ih (fun j hj2 => hj j (by rw [List.length_cons]; omega)) hp.2⟩
def FRa (c : Nat) (h g : PH) : Prop := (∀ b, b ≠ 104 → b ≠ 118 → b ≠ 119 → b ≠ 120 → g b = h b) ∧ (∀ q, q < c → dOp g q = dOp h q ∧ dAr g q = dAr h q) ∧ ∀ j, j ≠ 12 → j ≠ 13 → j ≠ 14 → j ≠ 15 → j ≠ 25 → j ≠ 26 → j ≠ 28 → j ≠ 29 → j ≠ 30 → g 104 j = h 104 j
theorem fra_c {c c1 : Nat} {h g : PH} (hc : c ≤ c1) (f : FRc c1 h g) : FRa c h g :=
  ⟨fun b h1 h2 h3 _ => f.1 b h1 h2 h3, fun q hq => f.2.1 q (by omega), fun j h1 h2 h3 h4 h5 _ _ h8 h9 => f.2.2 j h1 h2 h3 h4 h5 h8 h9⟩
theorem fra_tr {c : Nat} {h g f : PH} (a : FRa c h g) (b : FRa c g f) : FRa c h f :=
  ⟨fun x h1 h2 h3 h4 => by rw [b.1 x h1 h2 h3 h4]; exact a.1 x h1 h2 h3 h4, fun q hq => by
    obtain ⟨u1, u2⟩ := b.2.1 q hq
    obtain ⟨w1, w2⟩ := a.2.1 q hq
    exact ⟨u1.trans w1, u2.trans w2⟩, fun j h1 h2 h3 h4 h5 h6 h7 h8 h9 => by rw [b.2.2 j h1 h2 h3 h4 h5 h6 h7 h8 h9]; exact a.2.2 j h1 h2 h3 h4 h5 h6 h7 h8 h9⟩
theorem dOp_up {h : PH} {b j : Nat} {v : Int32} (hb : b ≠ 118) : dOp (up h b j v) = dOp h := funext fun k => up_oc (fun q => hb q.symm)
theorem dAr_up {h : PH} {b j : Nat} {v : Int32} (hb : b ≠ 119) : dAr (up h b j v) = dAr h := funext fun k => up_oc (fun q => hb q.symm)
theorem fra_104 {c : Nat} {h : PH} {j : Nat} {v : Int32} (hj : j = 26 ∨ j = 28) : FRa c h (up h 104 j v) :=
  ⟨fun b h1 _ _ _ => funext fun q => up_oc h1, fun q _ => by rw [dOp_up (by decide), dAr_up (by decide)]; exact ⟨rfl, rfl⟩, fun i h1 h2 h3 h4 h5 h6 h7 h8 h9 => up_oj (by omega)⟩
theorem fra_120 {c : Nat} {h : PH} {j : Nat} {v : Int32} : FRa c h (up h 120 j v) :=
  ⟨fun b h1 _ _ h4 => funext fun q => up_oc h4, fun q _ => by rw [dOp_up (by decide), dAr_up (by decide)]; exact ⟨rfl, rfl⟩, fun i h1 h2 h3 h4 h5 h6 h7 h8 h9 => up_oc (by decide)⟩
theorem rs_wk {c k k' : Nat} {h : PH} (st : RS c k h) (hk : k' ≤ k) : RS c k' h := ⟨st.1, st.2.1, st.2.2.1, st.2.2.2.1, st.2.2.2.2.1, by have := st.2.2.2.2.2; omega⟩
theorem rs_104 {c k : Nat} {h : PH} (st : RS c k h) {j : Nat} (hj : j = 26 ∨ j = 28) (v : Int32) : RS c k (up h 104 j v) := by
  obtain ⟨i, e, s1, s2, s3, s4⟩ := st
  have i2 : IM (up h 104 j v) := by
    rcases hj with rfl | rfl
    · exact im_put i (show sp 104 26 = (-2147483648, 2147483647) from rfl) (r_full v) (by decide)
    · exact im_put i (show sp 104 28 = (-2147483648, 2147483647) from rfl) (r_full v) (by decide)
  have q : ∀ x, x ≠ 26 → x ≠ 28 → up h 104 j v 104 x = h 104 x := fun x h1 h2 => up_oj (by omega)
  refine ⟨i2, ?_, ?_, ?_, ?_, ?_⟩
  · rw [q 25 (by decide) (by decide)]; exact e
  · rw [q 12 (by decide) (by decide), q 11 (by decide) (by decide)]; exact s1
  · rw [q 13 (by decide) (by decide), q 12 (by decide) (by decide)]; exact s2
  · rw [q 14 (by decide) (by decide), q 13 (by decide) (by decide), q 12 (by decide) (by decide)]; exact s3
  · rw [q 13 (by decide) (by decide)]; exact s4
theorem rs_120 {c k : Nat} {h : PH} (st : RS c k h) {j : Nat} (v : Int32) : RS c k (up h 120 j v) := by
  obtain ⟨i, e, s1, s2, s3, s4⟩ := st
  have i2 : IM (up h 120 j v) := im_put i (show sp 120 j = (-2147483648, 2147483647) from rfl) (r_full v) (by decide)
  have q : ∀ x, up h 120 j v 104 x = h 104 x := fun x => up_oc (by decide)
  refine ⟨i2, ?_, ?_, ?_, ?_, ?_⟩
  · rw [q]; exact e
  · rw [q, q]; exact s1
  · rw [q, q]; exact s2
  · rw [q, q, q]; exact s3
  · rw [q]; exact s4
def AS (c0 c k e : Nat) (ps : List Int32) (h0 h : PH) : Prop := RS c k h ∧ h 104 28 = nI ps.length ∧ Pd ps h ∧ h 104 26 = nI (cO ps) ∧ c0 ≤ c ∧ dep (dOp h) (dAr h) c0 (c - c0) c0 0 = some (cD ps + e) ∧ FRa c0 h0 h
theorem as_reads {c0 c k e : Nat} {ps : List Int32} {h0 h : PH} (st : AS c0 c k e ps h0 h) (nz : ¬ h 104 14 = 0) : Sf (mm_reads h) (fun g => AS c0 c (k + 1) e ps h0 g) := by
  obtain ⟨s1, s2, s3, s4, s5, s6, s7⟩ := st
  refine s_w (rs_take s1 nz) (fun g q => ?_)
  obtain ⟨q1, q2⟩ := q
  have f : FRc c h g := frc_4 q2
  refine ⟨q1, ?_, ?_, ?_, s5, ?_, fra_tr s7 (fra_c s5 f)⟩
  · rw [q2.2 28 (by decide) (by decide) (by decide) (by decide)]; exact s2
  · exact pd_fr ps (fun j _ => by rw [q2.1 120 (by decide)]) s3
  · rw [q2.2 26 (by decide) (by decide) (by decide) (by decide)]; exact s4
  · rw [dep_lo f c0 (c - c0) c0 0 (by omega)]; exact s6
theorem waits_at (h : PH) (m : Nat) (hm : m < 40) (e : h 104 28 = nI m) (p : Int32) : mm_waits p h = some (up (up h 120 m p) 104 28 (nI (m + 1))) := by
  unfold mm_waits
  rw [e, ck_nI hm (by decide), lt_e, show ix (nI m) = m from nI_clamp (by omega), lt_e]
  rw [show up h 120 m p 104 28 = h 104 28 from up_oc (by decide), e, nI_1]
theorem as_and {c0 c k : Nat} {ps : List Int32} {h0 h : PH} (st : AS c0 c k 1 ps h0 h) (p : Int32) (hp : p = 10 ∨ p = 11) (hl : ps.length < 40) : ∃ g, mm_waits p h = some g ∧ AS c0 c k 0 (p :: ps) h0 g ∧ g 104 14 = h 104 14 := by
  obtain ⟨s1, s2, s3, s4, s5, s6, s7⟩ := st
  refine ⟨_, waits_at h ps.length hl s2 p, ⟨rs_104 (rs_120 s1 p) (Or.inr rfl) _, up_same, ⟨?_, ?_⟩, ?_, s5, ?_, ?_⟩, ?_⟩
  · rw [up_oc (by decide), up_same]
  · exact pd_fr ps (fun j hj => by rw [up_oc (by decide), up_oj (by omega)]) s3
  · rw [up_oj (by decide), up_oc (by decide), s4, cO, if_neg (by rcases hp with rfl | rfl <;> decide), Nat.zero_add]
  · rw [dOp_up (by decide), dOp_up (by decide), dAr_up (by decide), dAr_up (by decide), s6, cD, if_pos hp, Nat.add_comm]
    rfl
  · exact fra_tr s7 (fra_tr fra_120 (fra_104 (Or.inr rfl)))
  · rw [up_oj (by decide), up_oc (by decide)]
theorem as_open {c0 c k : Nat} {ps : List Int32} {h0 h : PH} (st : AS c0 c k 0 ps h0 h) (p : Int32) (hp : p = 9 ∨ p = 12) (hl : ps.length < 40) : ∃ g, mm_waits p (up h 104 26 (h 104 26 + 1)) = some g ∧ AS c0 c k 0 (p :: ps) h0 g ∧ g 104 14 = h 104 14 := by
  obtain ⟨s1, s2, s3, s4, s5, s6, s7⟩ := st
  have s2' : up h 104 26 (h 104 26 + 1) 104 28 = nI ps.length := by rw [up_oj (by decide)]; exact s2
  refine ⟨_, waits_at _ ps.length hl s2' p, ⟨rs_104 (rs_120 (rs_104 s1 (Or.inl rfl) _) p) (Or.inr rfl) _, up_same, ⟨?_, ?_⟩, ?_, s5, ?_, ?_⟩, ?_⟩
  · rw [up_oc (by decide), up_same]
  · exact pd_fr ps (fun j hj => by rw [up_oc (by decide), up_oj (by omega), up_oc (by decide)]) s3
  · rw [up_oj (by decide), up_oc (by decide), up_same, s4, nI_1, cO, if_pos hp, Nat.add_comm]
  · rw [dOp_up (by decide), dOp_up (by decide), dOp_up (by decide), dAr_up (by decide), dAr_up (by decide), dAr_up (by decide), s6, cD, if_neg (by rcases hp with rfl | rfl <;> decide), Nat.zero_add]
  · exact fra_tr s7 (fra_tr (fra_104 (Or.inl rfl)) (fra_tr fra_120 (fra_104 (Or.inr rfl))))
  · rw [up_oj (by decide), up_oc (by decide), up_oj (by decide)]
def SetQ (c0 c k : Nat) (ps : List Int32) (h0 h g : PH) : Prop := ∃ c' k', c' + k' = c + k ∧ cE ps ≤ k' ∧ AS c0 c' k' 1 ps h0 g ∧ g 104 14 = h 104 14 ∧ g 104 15 = h 104 15
theorem settle_go (c0 : Nat) (h0 : PH) (p : Int32) (hp : p = 9 ∨ p = 10 ∨ p = 11) : ∀ (ps : List Int32) (n c k : Nat) (hv : PH), ps.length < n → ps.length ≤ 40 → cE ps ≤ k → AS c0 c k 1 ps h0 hv → Sf (mm_settles_L0 p n hv) (SetQ c0 c k (dr p ps) h0 hv) := by
  intro ps
  induction ps with
  | nil =>
    intro n c k hv hn hl he st
    obtain ⟨m, rfl⟩ : ∃ m, n = m + 1 := ⟨n - 1, by omega⟩
    rw [mm_settles_L0]
    have e : hv 104 28 = 0 := st.2.1
    rw [e, if_pos (by decide)]
    exact s_some ⟨c, k, rfl, he, st, rfl, rfl⟩
  | cons q r ih =>
    intro n c k hv hn hl he st
    have st0 := st
    obtain ⟨s1, s2, s3, s4, s5, s6, s7⟩ := st
    obtain ⟨m, rfl⟩ : ∃ m, n = m + 1 := ⟨n - 1, by omega⟩
    rw [List.length_cons] at hn hl s2
    rw [mm_settles_L0, s2, if_neg (by
      rw [Int32.le_iff_toInt_le, nI_toInt (by omega)]
      simp only [show (0 : Int32).toInt = 0 from rfl]
      omega), nI_pred, ck_nI (by omega) (by decide), show ix (nI r.length) = r.length from nI_clamp (by omega), s3.1]
    by_cases e : q = p
    · subst e
      rw [if_pos rfl, lt_e, dr, if_pos rfl]
      have n12 : ¬ q = 12 := by rcases hp with rfl | rfl | rfl <;> decide
      rw [cE, if_neg n12] at he
      obtain ⟨k', rfl⟩ : ∃ k', k = k' + 1 := ⟨k - 1, by omega⟩
      obtain ⟨em, st2⟩ := rs_emit (rs_104 s1 (Or.inr rfl) (nI r.length)) q 0
      rw [em, bd_e]
      have fA : FRc c (up hv 104 28 (nI r.length)) (emO (up hv 104 28 (nI r.length)) c q 0) := frc_emO
      have fr : FRa c0 h0 (emO (up hv 104 28 (nI r.length)) c q 0) := fra_tr s7 (fra_tr (fra_104 (Or.inr rfl)) (fra_c s5 fA))
      have g28 : emO (up hv 104 28 (nI r.length)) c q 0 104 28 = nI r.length := by rw [emO_104 (by decide), up_same]
      have g26 : emO (up hv 104 28 (nI r.length)) c q 0 104 26 = nI (cO (q :: r)) := by rw [emO_104 (by decide), up_oj (by decide)]; exact s4
      have gp : Pd r (emO (up hv 104 28 (nI r.length)) c q 0) := pd_fr r (fun j _ => by rw [emO_b 120 (by decide) (by decide) (by decide), up_oc (by decide)]) s3.2
      have g14 : emO (up hv 104 28 (nI r.length)) c q 0 104 14 = hv 104 14 := by rw [emO_104 (by decide), up_oj (by decide)]
      have g15 : emO (up hv 104 28 (nI r.length)) c q 0 104 15 = hv 104 15 := by rw [emO_104 (by decide), up_oj (by decide)]
      have gd : dep (dOp (emO (up hv 104 28 (nI r.length)) c q 0)) (dAr (emO (up hv 104 28 (nI r.length)) c q 0)) c0 (c + 1 - c0) c0 0 = some (cD r + 1) := by
        rw [show c + 1 - c0 = (c - c0) + 1 by omega]
        have o : dOp (emO (up hv 104 28 (nI r.length)) c q 0) c = q := emO_op.1
        refine dep_one (d1 := cD (q :: r) + 1) ?_ ?_
        · rw [dep_lo fA c0 (c - c0) c0 0 (by omega), dOp_up (by decide), dAr_up (by decide)]; exact s6
        · rw [show c0 + (c - c0) = c by omega]
          by_cases e9 : q = 9
          · unfold stC
            rw [o, if_neg (by rw [e9]; decide), if_neg (by rw [e9]; decide), if_pos e9, if_pos (by omega), cD, if_neg (by rw [e9]; decide), Nat.zero_add]
          · have h2 : q = 10 ∨ q = 11 := by
              rcases hp with z | z | z
              · exact absurd z e9
              · exact Or.inl z
              · exact Or.inr z
            rw [cD, if_pos h2, show 1 + cD r + 1 = cD r + 2 by omega]
            refine stC_bin (by rw [o]; rcases h2 with z | z <;> rw [z] <;> decide) (by rw [o]; rcases h2 with z | z <;> rw [z] <;> decide) (by rw [o]; exact e9) (fun z => ?_)
            rw [o] at z
            rcases h2 with w | w <;> rw [w] at z <;> exact absurd z (by decide)
      generalize emO (up hv 104 28 (nI r.length)) c q 0 = g at st2 fr g28 g26 gp g14 g15 gd ⊢
      by_cases e9 : q = 9
      · rw [if_pos e9, lt_e]
        rw [cO, if_pos (Or.inl e9), Nat.add_comm] at g26
        refine s_w (ih m (c + 1) k' _ (by omega) (by omega) (by omega) ⟨rs_104 st2 (Or.inl rfl) _, ?_, ?_, ?_, by omega, ?_, fra_tr fr (fra_104 (Or.inl rfl))⟩) (fun g2 w => ?_)
        · rw [up_oj (by decide)]; exact g28
        · exact pd_fr r (fun j _ => by rw [up_oc (by decide)]) gp
        · rw [up_same, g26, nI_pred]
        · rw [dOp_up (by decide), dAr_up (by decide)]; exact gd
        · obtain ⟨c', k2, w1, w2, w3, w4, w5⟩ := w
          exact ⟨c', k2, by omega, w2, w3, by rw [w4, up_oj (by decide)]; exact g14, by rw [w5, up_oj (by decide)]; exact g15⟩
      · rw [if_neg e9]
        rw [cO, if_neg (by intro z; rcases z with z | z; exact e9 z; exact n12 z), Nat.zero_add] at g26
        refine s_w (ih m (c + 1) k' _ (by omega) (by omega) (by omega) ⟨st2, g28, gp, g26, by omega, gd, fr⟩) (fun g2 w => ?_)
        obtain ⟨c', k2, w1, w2, w3, w4, w5⟩ := w
        exact ⟨c', k2, by omega, w2, w3, by rw [w4]; exact g14, by rw [w5]; exact g15⟩
    · rw [if_neg e, dr, if_neg e]
      exact s_some ⟨c, k, rfl, he, st0, rfl, rfl⟩
theorem sf_m_settles {c0 c k : Nat} {h0 hv : PH} (p : Int32) (hp : p = 9 ∨ p = 10 ∨ p = 11) {ps : List Int32} (hl : ps.length ≤ 40) (he : cE ps ≤ k) (st : AS c0 c k 1 ps h0 hv) : Sf (mm_settles p hv) (SetQ c0 c k (dr p ps) h0 hv) := by
  unfold mm_settles
  exact settle_go c0 h0 p hp ps FU c k hv (by unfold FU; omega) hl he st
end
section
/-! SAFETY of the model's reader: conditions -/
def AnyQ (c0 : Nat) (h0 : PH) (r : Int32 × PH) : Prop := (r.1 = -1 ∧ IM r.2) ∨ (r.1 = 0 ∧ ∃ c k, AS c0 c k 1 [] h0 r.2)
theorem as_close {c0 c k : Nat} {r : List Int32} {h0 h : PH} (st : AS c0 c k 1 (12 :: r) h0 h) : AS c0 c k 1 r h0 (up (up h 104 28 (h 104 28 - 1)) 104 26 (up h 104 28 (h 104 28 - 1) 104 26 - 1)) := by
  obtain ⟨s1, s2, s3, s4, s5, s6, s7⟩ := st
  refine ⟨rs_104 (rs_104 s1 (Or.inr rfl) _) (Or.inl rfl) _, ?_, ?_, ?_, s5, ?_, fra_tr s7 (fra_tr (fra_104 (Or.inr rfl)) (fra_104 (Or.inl rfl)))⟩
  · rw [up_oj (by decide), up_same, s2, List.length_cons, nI_pred]
  · exact pd_fr r (fun j _ => by rw [up_oc (by decide), up_oc (by decide)]) s3.2
  · rw [up_same, up_oj (by decide), s4, cO, if_pos (Or.inr rfl), Nat.add_comm, nI_pred]
  · rw [dOp_up (by decide), dOp_up (by decide), dAr_up (by decide), dAr_up (by decide), s6, cD, if_neg (by decide), Nat.zero_add]
theorem as_exp {c0 c c' k : Nat} {ps : List Int32} {h0 h g : PH} (st : AS c0 c k 0 ps h0 h) (hc : c < c') (s : RS c' k g) (fr : FRc c h g) (u : Up1 c c' g) : AS c0 c' k 1 ps h0 g := by
  obtain ⟨s1, s2, s3, s4, s5, s6, s7⟩ := st
  refine ⟨s, ?_, ?_, ?_, by omega, ?_, fra_tr s7 (fra_c s5 fr)⟩
  · rw [fr.2.2 28 (by decide) (by decide) (by decide) (by decide) (by decide) (by decide) (by decide)]; exact s2
  · exact pd_fr ps (fun j _ => by rw [fr.1 120 (by decide) (by decide) (by decide)]) s3
  · rw [fr.2.2 26 (by decide) (by decide) (by decide) (by decide) (by decide) (by decide) (by decide)]; exact s4
  · rw [show c' - c0 = (c - c0) + (c' - c) by omega, dep_app, dep_lo fr c0 (c - c0) c0 0 (by omega), s6, bd_e, show c0 + (c - c0) = c by omega]
    exact u c0 _ s5
theorem nI_eq8 {m : Nat} (hm : m ≤ 8) (n : ¬ nI m = 8) : m < 8 := by
  by_cases e : m = 8
  · subst e; exact absurd rfl n
  · omega
theorem any_go (c0 : Nat) (h0 : PH) (k0 k1 : PH → Option (Int32 × PH)) (e0 : ∀ g, IM g → Sf (k0 g) ErQ) (e1 : ∀ g, IM g → Sf (k1 g) ErQ) : ∀ (n c k e : Nat) (ps : List Int32) (v1 v2 : Int32) (hv : PH), 400 < n + (c + k) → AS c0 c k e ps h0 hv → Gm ps 0 → cE ps ≤ k → cO ps ≤ 8 → v1 = nI (cB ps) → ((e = 0 ∧ v2 = 1) ∨ (e = 1 ∧ v2 = 0 ∧ ∀ r, ¬ ps = 9 :: r)) → Sf (mm_readAny_L9 k0 k1 n v1 v2 hv) (AnyQ c0 h0) := by
  intro n
  induction n with
  | zero => intro c k e ps v1 v2 hv hn st; have := rs_le st.1; omega
  | succ n ih =>
    intro c k e ps v1 v2 hv hn st hg he ho hv1 hm
    have hl := gm_len ps 0 hg
    rw [mm_readAny_L9]
    rcases hm with ⟨rfl, rfl⟩ | ⟨rfl, rfl, n9⟩
    · rw [if_neg (by decide)]
      refine s_word (fun r19 w19 => ?_)
      have body : ¬ hv 104 14 = 0 → Sf (if (hv 104 26) = 8 then k0 hv else lt (up hv 104 26 ((hv 104 26) + 1)) fun h21 => jn1 (fun (x23 : Int32) => jn1 (fun (x25 : Int32) => bd (mm_waits x25 h21) fun h26 => bd (mm_reads h26) fun h27 => mm_readAny_L9 k0 k1 n x23 1 h27) fun j24 => if r19 = 0 then j24 12 else j24 9) fun j22 => if r19 = 0 then lt (v1 + 1) fun x28 => j22 x28 else j22 v1) (AnyQ c0 h0) := fun nz => by
        refine s_if (fun _ => s_w (e0 hv st.1.1) (fun r q => Or.inl q)) (fun n8 => ?_)
        rw [st.2.2.2.1] at n8
        have o8 := nI_eq8 ho n8
        rw [lt_e]
        have fin : ∀ (p : Int32), (p = 9 ∨ p = 12) → ∀ x : Int32, x = nI (cB (p :: ps)) → Sf (bd (mm_waits p (up hv 104 26 ((hv 104 26) + 1))) fun h26 => bd (mm_reads h26) fun h27 => mm_readAny_L9 k0 k1 n x 1 h27) (AnyQ c0 h0) := fun p hp x hx => by
          obtain ⟨g, w1, w2, w3⟩ := as_open st p hp (by omega)
          rw [w1, bd_e]
          refine s_bd (as_reads w2 (by rw [w3]; exact nz)) (fun h27 q => ?_)
          refine ih c (k + 1) 0 (p :: ps) x 1 h27 (by omega) q ?_ ?_ ?_ hx (Or.inl ⟨rfl, rfl⟩)
          · rcases hp with rfl | rfl
            · exact Or.inr (Or.inl ⟨rfl, rfl, hg⟩)
            · exact Or.inl ⟨rfl, hg⟩
          · rw [cE]; split <;> omega
          · rw [cO, if_pos hp]; omega
        rw [jn1_e]
        by_cases z : r19 = 0
        · rw [if_pos z, lt_e]
          dsimp only
          rw [jn1_e, if_pos z]
          refine fin 12 (Or.inr rfl) _ ?_
          rw [hv1, nI_1, cB, if_pos rfl, Nat.add_comm]
        · rw [if_neg z]
          dsimp only
          rw [jn1_e, if_neg z]
          refine fin 9 (Or.inl rfl) _ ?_
          rw [hv1, cB, if_neg (by decide), Nat.zero_add]
      rw [jn0_e]
      refine s_if (fun _ => ?_) (fun z => body (by rw [(w19 z).1]; decide))
      refine s_sign (fun r29 w29 => ?_)
      refine s_if (fun _ => ?_) (fun z => body (by rw [w29 z]; decide))
      refine s_bd2 (sf_m_readCompared st.1) (fun r30 h31 q => ?_)
      rcases q with ⟨q1, q2⟩ | ⟨q1, c', q2, q3, q4, q5⟩
      · have q1 : r30 = -1 := q1
        rw [if_pos q1]
        exact s_some (Or.inl ⟨rfl, q2⟩)
      · have q1 : r30 = 0 := q1
        rw [if_neg (by rw [q1]; decide)]
        have st31 : AS c0 c' k 1 ps h0 h31 := as_exp st q2 q3 q4 q5
        refine s_bd (sf_m_settles 9 (Or.inl rfl) (by omega) he st31) (fun h32 w => ?_)
        obtain ⟨c2, k2, w1, w2, w3, w4, w5⟩ := w
        obtain ⟨g1, g2⟩ := gm_dr9 ps hg
        exact ih c2 k2 1 (dr 9 ps) v1 0 h32 (by omega) w3 g1 w2 (by have := cO_dr 9 ps; omega) (by rw [cB_dr 9 (by decide)]; exact hv1) (Or.inr ⟨rfl, rfl, g2⟩)
    · rw [if_pos rfl]
      have d10 := gm_dr10 ps hg n9
      have d11 := gm_dr11 _ d10
      have o10 := cO_dr 10 ps
      have o11 := cO_dr 11 (dr 10 ps)
      have l10 := gm_len _ 1 d10
      have l11 := gm_len _ 2 d11
      have b11 : cB (dr 11 (dr 10 ps)) = cB ps := by rw [cB_dr 11 (by decide), cB_dr 10 (by decide)]
      refine s_word (fun r2 w2 => ?_)
      refine s_if (fun _ => ?_) (fun z => ?_)
      · refine s_word (fun r3 w3 => ?_)
        refine s_if (fun _ => ?_) (fun z => ?_)
        · refine s_bd (sf_m_settles 10 (Or.inr (Or.inl rfl)) (by omega) he st) (fun h4 w => ?_)
          obtain ⟨c4, k4, x1, x2, x3, x4, x5⟩ := w
          refine s_bd (sf_m_settles 11 (Or.inr (Or.inr rfl)) (by omega) x2 x3) (fun h5 w => ?_)
          obtain ⟨c5, k5, y1, y2, y3, y4, y5⟩ := w
          have bo := cB_cO ps
          rcases gm_2 _ d11 with en | ⟨r, er, gr⟩
          · rw [en] at y3 b11
            have b0 : cB ps = 0 := b11.symm
            rw [if_pos (by rw [hv1, b0]; rfl)]
            exact s_some (Or.inr ⟨rfl, c5, k5, y3⟩)
          · rw [er] at y2 y3 b11 l11 o11
            have eb : cB (12 :: r) = cB r + 1 := by rw [cB, if_pos rfl, Nat.add_comm]
            have eo : cO (12 :: r) = cO r + 1 := by rw [cO, if_pos (Or.inr rfl), Nat.add_comm]
            have ee : cE (12 :: r) = cE r := by rw [cE, if_pos rfl, Nat.zero_add]
            rw [if_neg (by
              rw [hv1]
              intro q
              have q2 : (nI (cB ps)).toInt = 0 := by rw [q]; rfl
              rw [nI_toInt (by omega)] at q2
              omega)]
            refine s_sign (fun r6 w6 => ?_)
            refine s_if (fun _ => s_w (e1 h5 y3.1.1) (fun r q => Or.inl q)) (fun z6 => ?_)
            rw [lt_e, lt_e, lt_e]
            have st9 := as_close y3
            have t9 : up (up h5 104 28 (h5 104 28 - 1)) 104 26 (up h5 104 28 (h5 104 28 - 1) 104 26 - 1) 104 14 = 4 := by rw [up_oj (by decide), up_oj (by decide)]; exact w6 z6
            generalize up (up h5 104 28 (h5 104 28 - 1)) 104 26 (up h5 104 28 (h5 104 28 - 1) 104 26 - 1) = h9 at st9 t9 ⊢
            rw [List.length_cons] at l11
            refine s_bd (sf_m_settles 9 (Or.inl rfl) (by omega) (by omega) st9) (fun h10 w => ?_)
            obtain ⟨c6, k6, u1, u2, u3, u4, u5⟩ := w
            refine s_bd (as_reads u3 (by rw [u4, t9]; decide)) (fun h11 q => ?_)
            obtain ⟨g1, g2⟩ := gm_dr9 r gr
            refine ih c6 (k6 + 1) 1 (dr 9 r) _ 0 h11 (by omega) q g1 (by omega) (by have := cO_dr 9 r; omega) ?_ (Or.inr ⟨rfl, rfl, g2⟩)
            rw [cB_dr 9 (by decide), hv1, ← b11, eb, nI_pred]
        · refine s_bd (sf_m_settles 10 (Or.inr (Or.inl rfl)) (by omega) he st) (fun h4 w => ?_)
          obtain ⟨c4, k4, x1, x2, x3, x4, x5⟩ := w
          refine s_bd (sf_m_settles 11 (Or.inr (Or.inr rfl)) (by omega) x2 x3) (fun h5 w => ?_)
          obtain ⟨c5, k5, y1, y2, y3, y4, y5⟩ := w
          obtain ⟨g, u1, u2, u3⟩ := as_and y3 11 (Or.inr rfl) (by omega)
          rw [u1, bd_e]
          refine s_bd (as_reads u2 (by rw [u3, y4, x4, (w3 z).1]; decide)) (fun h15 q => ?_)
          refine ih c5 (k5 + 1) 0 (11 :: dr 11 (dr 10 ps)) v1 1 h15 (by omega) q (Or.inr (Or.inr (Or.inr ⟨by decide, rfl, d11⟩))) ?_ ?_ ?_ (Or.inl ⟨rfl, rfl⟩)
          · rw [cE, if_neg (by decide)]; omega
          · rw [cO, if_neg (by decide)]; omega
          · rw [cB, if_neg (by decide), Nat.zero_add, b11]; exact hv1
      · refine s_bd (sf_m_settles 10 (Or.inr (Or.inl rfl)) (by omega) he st) (fun h4 w => ?_)
        obtain ⟨c4, k4, x1, x2, x3, x4, x5⟩ := w
        obtain ⟨g, u1, u2, u3⟩ := as_and x3 10 (Or.inl rfl) (by omega)
        rw [u1, bd_e]
        refine s_bd (as_reads u2 (by rw [u3, x4, (w2 z).1]; decide)) (fun h18 q => ?_)
        refine ih c4 (k4 + 1) 0 (10 :: dr 10 ps) v1 1 h18 (by omega) q (Or.inr (Or.inr (Or.inl ⟨rfl, rfl, d10⟩))) ?_ ?_ ?_ (Or.inl ⟨rfl, rfl⟩)
        · rw [cE, if_neg (by decide)]; omega
        · rw [cO, if_neg (by decide)]; omega
        · rw [cB, if_neg (by decide), Nat.zero_add, cB_dr 10 (by decide)]; exact hv1
theorem sf_m_readAny {c k : Nat} {h : PH} (st : RS c k h) (ho : h 104 26 = 0) : Sf (mm_readAny h) (AnyQ c h) := by
  unfold mm_readAny
  rw [lt_e]
  refine any_go c h _ _ (fun g ig => er_bd 3 ig) (fun g ig => er_bd 1 ig) FU c k 0 [] 0 1 _ (by unfold FU; omega) ⟨rs_104 st (Or.inr rfl) 0, up_same, trivial, ?_, Nat.le_refl _, ?_, fra_104 (Or.inr rfl)⟩ trivial (by exact Nat.zero_le _) (by exact Nat.zero_le _) rfl (Or.inl ⟨rfl, rfl⟩)
  · rw [up_oj (by decide)]; exact ho
  · rw [Nat.sub_self]; rfl
end
