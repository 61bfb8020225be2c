section
/-! SAFETY of the model's reader: tokens -/
def FR4 (h g : PH) : Prop := (∀ b, b ≠ 104 → g b = h b) ∧ ∀ j, j ≠ 12 → j ≠ 13 → j ≠ 14 → j ≠ 15 → g 104 j = h 104 j
theorem fr4_up {h g : PH} (f : FR4 h g) {j : Nat} (hj : j = 12 ∨ j = 13 ∨ j = 14 ∨ j = 15) (v : Int32) : FR4 h (up g 104 j v) :=
  ⟨fun b hb => by rw [← f.1 b hb]; funext q; exact up_oc hb, fun q h1 h2 h3 h4 => by rw [up_oj (by omega)]; exact f.2 q h1 h2 h3 h4⟩
theorem raw_s (x : Int32) (h : PH) (i : IM h) (f : R 0 400 x) : Sf (mm_raw x h) (fun r => ¬ r = -1 → x.toInt < (h 104 11).toInt) := by
  have ft : R 0 400 (h 104 11) := inv_rng i.1 rfl
  unfold mm_raw
  refine s_if (fun c => s_some (fun q => absurd rfl q)) (fun c => ?_)
  have c2 := nle_lt c
  have f2 : R 0 399 x := lt_hi f ft c2 (by decide)
  rw [Int32.lt_iff_toInt_lt] at c2
  exact s_ck f2 (by decide) (s_some (fun _ => c2))
theorem raw_e (x : Int32) (h : PH) (i : IM h) (f : R 0 400 x) : Sf (mm_raw x h) (fun r => ¬ r = -1 → x.toInt < (h 104 11).toInt ∧ r = h 111 (ix x)) := by
  have ft : R 0 400 (h 104 11) := inv_rng i.1 rfl
  unfold mm_raw
  refine s_if (fun c => s_some (fun q => absurd rfl q)) (fun c => ?_)
  have c2 := nle_lt c
  have f2 : R 0 399 x := lt_hi f ft c2 (by decide)
  rw [Int32.lt_iff_toInt_lt] at c2
  exact s_ck f2 (by decide) (s_some (fun _ => ⟨c2, rfl⟩))
theorem im_sp {h : PH} (i : IM h) (v : Int32) (f : R 0 400 v) : IM (up h 104 12 v) := im_put i (show sp 104 12 = (0, 400) from rfl) f (by decide)
theorem im_fm {h : PH} (i : IM h) (v : Int32) (f : R 0 400 v) : IM (up h 104 13 v) := im_put i (show sp 104 13 = (0, 400) from rfl) f (by decide)
theorem im_tk {h : PH} (i : IM h) (v : Int32) : IM (up h 104 14 v) := im_put i (show sp 104 14 = (-2147483648, 2147483647) from rfl) (r_full v) (by decide)
theorem im_vl {h : PH} (i : IM h) (v : Int32) : IM (up h 104 15 v) := im_put i (show sp 104 15 = (-2147483648, 2147483647) from rfl) (r_full v) (by decide)
theorem rsp {h : PH} (i : IM h) : R 0 400 (h 104 12) := inv_rng i.1 rfl
theorem rtp {h : PH} (i : IM h) : R 0 400 (h 104 11) := inv_rng i.1 rfl
/-- the next place -/
theorem nx_sp {h : PH} (i : IM h) (c : (h 104 12).toInt < (h 104 11).toInt) : (h 104 12 + 1).toInt = (h 104 12).toInt + 1 ∧ R 0 400 (h 104 12 + 1) := by
  have f1 := rsp i
  have f2 := rtp i
  have f3 : R 0 399 (h 104 12) := ⟨f1.1, by have := f2.2; omega⟩
  have m1 : R 1 1 (1 : Int32) := ⟨by decide, by decide⟩
  have e := i_add f3 m1 (by decide)
  simp only [show (1 : Int32).toInt = 1 from rfl] at e
  exact ⟨e, r_w (r_add f3 m1 (e := 1) (f := 400) (by decide)) (by decide)⟩
theorem rd0 (o : PH) (s : Int) (k0 : PH → Option PH) {Q : PH → Prop} (hk : ∀ g, IM g → FR4 o g → s ≤ (g 104 12).toInt → (g 104 12).toInt ≤ (g 104 11).toInt → Sf (k0 g) Q) : ∀ (n : Nat) (h : PH), 400 - (h 104 12).toInt < (n : Int) → IM h → FR4 o h → s ≤ (h 104 12).toInt → (h 104 12).toInt ≤ (h 104 11).toInt → Sf (mm_reads_L0 k0 n h) Q := by
  intro n
  induction n with
  | zero => intro h hn i; have := (rsp i).2; omega
  | succ n ih =>
    intro h hn i fr hs ht
    rw [mm_reads_L0]
    refine s_bd (raw_s _ h i (rsp i)) (fun r1 c1 => ?_)
    rw [jn0_e]
    have go : (h 104 12).toInt < (h 104 11).toInt → Sf (lt (up h 104 12 (h 104 12 + 1)) fun h3 => mm_reads_L0 k0 n h3) Q := fun c => by
      obtain ⟨e, f⟩ := nx_sp i c
      rw [lt_e]
      refine ih _ (by rw [up_same, e]; omega) (im_sp i _ f) (fr4_up fr (Or.inl rfl) _) (by rw [up_same, e]; omega) ?_
      rw [up_same, e, up_oj (by decide)]
      omega
    refine s_if (fun c => go (c1 (by rw [c]; decide))) (fun c => ?_)
    refine s_bd (raw_s _ h i (rsp i)) (fun r4 c4 => ?_)
    exact s_if (fun c => go (c4 (by rw [c]; decide))) (fun _ => hk h i fr hs ht)
/-- letters, or digits, as many as stand together -/
theorem rd95 (o : PH) (s : Int) (k0 : PH → Option PH) {Q : PH → Prop} (hk : ∀ g, IM g → FR4 o g → s ≤ (g 104 12).toInt → (g 104 12).toInt ≤ (g 104 11).toInt → g 104 13 = o 104 13 → (∀ x : Nat, (o 104 13).toInt ≤ (x : Int) → (x : Int) < (g 104 12).toInt → ¬ g 111 x = 32) → Sf (k0 g) Q) : ∀ (n : Nat) (h : PH), 400 - (h 104 12).toInt < (n : Int) → IM h → FR4 o h → s ≤ (h 104 12).toInt → (h 104 12).toInt ≤ (h 104 11).toInt → h 104 13 = o 104 13 → (∀ x : Nat, (o 104 13).toInt ≤ (x : Int) → (x : Int) < (h 104 12).toInt → ¬ h 111 x = 32) → Sf (mm_reads_L95 k0 n h) Q := by
  intro n
  induction n with
  | zero => intro h hn i; have := (rsp i).2; omega
  | succ n ih =>
    intro h hn i fr hs ht e13 hl
    rw [mm_reads_L95]
    refine s_bd (raw_e _ h i (rsp i)) (fun r c1 => ?_)
    refine s_bd (P := fun q => ¬ q = 0 → ¬ r = -1 ∧ ¬ r = 32) ?_ (fun q hq => ?_)
    · unfold mm_isLetter
      refine s_isin (fun r1 _ w1 => ?_)
      refine s_if (fun _ => ?_) (fun n1 => s_some (fun _ => ⟨fun z => ?_, fun z => ?_⟩))
      · refine s_isin (fun r2 _ w2 => ?_)
        refine s_if (fun _ => s_some (fun z => absurd rfl z)) (fun n2 => s_some (fun _ => ⟨fun z => ?_, fun z => ?_⟩))
        · rw [z] at w2; exact absurd (w2 n2).1 (by decide)
        · rw [z] at w2; exact absurd (w2 n2).1 (by decide)
      · rw [z] at w1; exact absurd (w1 n1).1 (by decide)
      · rw [z] at w1; exact absurd (w1 n1).1 (by decide)
    · refine s_if (fun _ => hk h i fr hs ht e13 hl) (fun nq => ?_)
      obtain ⟨g1, g2⟩ := hq nq
      obtain ⟨lt1, rv⟩ := c1 g1
      obtain ⟨e, f⟩ := nx_sp i lt1
      rw [lt_e]
      refine ih _ (by rw [up_same, e]; omega) (im_sp i _ f) (fr4_up fr (Or.inl rfl) _) (by rw [up_same, e]; omega) (by rw [up_same, e, up_oj (by decide)]; omega) (by rw [up_oj (by decide)]; exact e13) (fun x h1 h2 => ?_)
      rw [up_same, e] at h2
      rw [up_oc (by decide)]
      by_cases hx : (x : Int) < (h 104 12).toInt
      · exact hl x h1 hx
      · have hx2 : ix (h 104 12) = x := by
          have := clamp_int (i := h 104 12) (rsp i).1
          have : ((ix (h 104 12) : Nat) : Int) = (h 104 12).toInt := this
          omega
        rw [← hx2, ← rv]
        exact g2
theorem rd171 (o : PH) (s : Int) (k0 : PH → Option PH) {Q : PH → Prop} (hk : ∀ g, IM g → FR4 o g → s ≤ (g 104 12).toInt → (g 104 12).toInt ≤ (g 104 11).toInt → g 104 13 = o 104 13 → Sf (k0 g) Q) : ∀ (n : Nat) (h : PH), 400 - (h 104 12).toInt < (n : Int) → IM h → FR4 o h → s ≤ (h 104 12).toInt → (h 104 12).toInt ≤ (h 104 11).toInt → h 104 13 = o 104 13 → Sf (mm_reads_L171 k0 n h) Q := by
  intro n
  induction n with
  | zero => intro h hn i; have := (rsp i).2; omega
  | succ n ih =>
    intro h hn i fr hs ht e13
    rw [mm_reads_L171]
    refine s_bd (raw_e _ h i (rsp i)) (fun r c1 => ?_)
    refine s_bd (P := fun q => ¬ q = 0 → ¬ r = -1) ?_ (fun q hq => ?_)
    · unfold mm_isDigit
      refine s_isin (fun r1 _ w1 => s_some (fun z z2 => ?_))
      have n1 : ¬ r1 = 0 := fun z3 => z (by rw [z3]; rfl)
      rw [z2] at w1
      exact absurd (w1 n1).1 (by decide)
    · refine s_if (fun _ => hk h i fr hs ht e13) (fun nq => ?_)
      obtain ⟨lt1, -⟩ := c1 (hq nq)
      obtain ⟨e, f⟩ := nx_sp i lt1
      refine s_jn1 (P := fun _ => True) (fun x20 _ => ?_) (fun j19 kj => ?_)
      · rw [lt_e, lt_e]
        have e1 : up h 104 15 x20 104 12 = h 104 12 := up_oj (by decide)
        rw [e1]
        refine ih _ (by rw [up_same, e]; omega) (im_sp (im_vl i _) _ f) (fr4_up (fr4_up fr (Or.inr (Or.inr (Or.inr rfl))) _) (Or.inl rfl) _) (by rw [up_same, e]; omega) (by rw [up_same, e, up_oj (by decide), up_oj (by decide)]; omega) (by rw [up_oj (by decide), up_oj (by decide)]; exact e13)
      · refine s_if (fun _ => kj _ trivial) (fun _ => ?_)
        exact s_bd (raw_s _ h i (rsp i)) (fun r23 _ => kj _ trivial)
end
section
/-! SAFETY of the model's reader: words, a token -/
theorem wd_at1 {h : PH} (i : IM h) (j : Nat) (hj : j < 141) : (h 112 j).toInt = wdX.getD j 0 := by
  have q := i.1 112 j
  have e : sp 112 j = (wdX.getD j 0, wdX.getD j 0) := by
    show spX j = _
    unfold spX
    rw [if_pos hj]
  rw [e] at q
  exact Int.le_antisymm q.2 q.1
theorem wd140 {h : PH} (i : IM h) : h 112 140 = 32 := by
  apply Int32.toInt_inj.mp
  rw [wd_at1 i 140 (by decide)]
  rfl
theorem wa20 (a b k : Nat) (hb : b ≤ 400) (hk : k < 140) (p3 : Int32) (h : PH) (i : IM h) (hl : ∀ x : Nat, a ≤ x → x < b → ¬ h 111 x = 32) (k0 : Int32 → Option Int32) {Q : Int32 → Prop} (hk0 : ∀ c : Nat, k + 1 + c ≤ 140 → a + c ≤ b → Sf (k0 (nI c)) Q) : ∀ (n c : Nat), b < n + (a + c) → k + 1 + c ≤ 140 → a + c ≤ b → Sf (mm_wordAt_L20 (nI a) (nI b) p3 (nI k) h k0 n (nI c)) Q := by
  intro n
  induction n with
  | zero => intro c h1 h2 h3; omega
  | succ n ih =>
    intro c h1 h2 h3
    rw [mm_wordAt_L20, nI_add]
    by_cases hc : a + c = b
    · rw [hc, if_pos (nI_le (Nat.le_refl _) (by omega))]
      exact hk0 c h2 h3
    · rw [if_neg (nI_ge (by omega) (by omega)), nI_1, nI_add, ck_nI (by omega) (by omega), ck_nI (by omega) (by omega), show ix (nI (k + 1 + c)) = k + 1 + c from nI_clamp (by omega), show ix (nI (a + c)) = a + c from nI_clamp (by omega)]
      refine s_if (fun e => ?_) (fun _ => hk0 c h2 h3)
      rw [lt_e, nI_1]
      have n140 : ¬ k + 1 + c = 140 := fun q => by
        rw [q, wd140 i] at e
        exact hl (a + c) (by omega) (by omega) e.symm
      exact ih (c + 1) (by omega) (by omega) (by omega)
theorem wa94 (p1 p2 p3 : Int32) (h : PH) (i : IM h) (k0 : Int32 → Option Int32) {Q : Int32 → Prop} (k : Nat) (hk0 : ∀ q : Nat, k ≤ q → q ≤ 140 → Sf (k0 (nI q)) Q) : ∀ (n q : Nat), 140 < n + q → q ≤ 140 → k ≤ q → Sf (mm_wordAt_L94 p1 p2 p3 h k0 n (nI q)) Q := by
  intro n
  induction n with
  | zero => intro q h1 h2; omega
  | succ n ih =>
    intro q h1 h2 h3
    rw [mm_wordAt_L94, ck_nI (by omega) (by omega), show ix (nI q) = q from nI_clamp (by omega)]
    by_cases hq : q = 140
    · subst hq
      rw [if_pos (wd140 i)]
      exact hk0 140 h3 (by omega)
    · refine s_if (fun _ => hk0 q h3 h2) (fun _ => ?_)
      rw [lt_e, nI_1]
      exact ih (q + 1) (by omega) (by omega) (by omega)
theorem wa5 (a b : Nat) (hab : a ≤ b) (hb : b ≤ 400) (h : PH) (i : IM h) (hl : ∀ x : Nat, a ≤ x → x < b → ¬ h 111 x = 32) : ∀ (n k : Nat) (v3 : Int32), 140 < n + k → k ≤ 140 → Sf (mm_wordAt_L5 (nI a) (nI b) h n v3 (nI k)) (fun _ => True) := by
  intro n
  induction n with
  | zero => intro k v3 h1 h2; omega
  | succ n ih =>
    intro k v3 h1 h2
    rw [mm_wordAt_L5]
    by_cases hk : k = 140
    · subst hk
      rw [if_pos (show (140 : Int32) ≤ nI 140 by decide)]
      exact s_some trivial
    · rw [if_neg (show ¬ (140 : Int32) ≤ nI k from nI_ge (b := 140) (by omega) (by omega)), lt_e]
      have key : ∀ k0 : Int32 → Option Int32, (∀ c : Nat, k + 1 + c ≤ 140 → a + c ≤ b → Sf (k0 (nI c)) (fun _ => True)) → Sf (mm_wordAt_L20 (nI a) (nI b) (v3 + 1) (nI k) h k0 FU 0) (fun _ => True) := fun k0 hk0 => by
        have := wa20 a b k hb (by omega) (v3 + 1) h i hl k0 hk0 FU 0 (by unfold FU; omega) (by omega) (by omega)
        rw [nI_0] at this
        exact this
      refine key _ (fun c hc1 hc2 => ?_)
      refine s_jn0 ?_ (fun j4 kj => ?_)
      · rw [lt_e, nI_1]
        exact wa94 (nI a) (nI b) (v3 + 1) h i _ (k + 1) (fun q hq1 hq2 => ih q (v3 + 1) (by omega) hq2) FU (k + 1) (by unfold FU; omega) (by omega) (Nat.le_refl _)
      · refine s_if (fun _ => ?_) (fun _ => kj)
        rw [nI_1, nI_add, ck_nI (by omega) (by omega)]
        exact s_if (fun _ => s_some trivial) (fun _ => kj)
theorem sf_wordAt (a b : Nat) (hab : a ≤ b) (hb : b ≤ 400) (h : PH) (i : IM h) (hl : ∀ x : Nat, a ≤ x → x < b → ¬ h 111 x = 32) : Sf (mm_wordAt (nI a) (nI b) h) (fun _ => True) := by
  have := wa5 a b hab hb h i hl FU 0 (-1) (by unfold FU; omega) (by omega)
  rw [nI_0] at this
  exact this
/-- what a token leaves: the place behind it, and where it stands -/
def TK (h g : PH) : Prop := IM g ∧ FR4 h g ∧ (h 104 12).toInt ≤ (g 104 13).toInt ∧ (g 104 13).toInt ≤ (g 104 12).toInt ∧ (g 104 12).toInt ≤ (g 104 11).toInt ∧ (g 104 14 = 0 ∨ (g 104 13).toInt + 1 ≤ (g 104 12).toInt)
theorem sf_m_reads (h : PH) (i : IM h) (ht : (h 104 12).toInt ≤ (h 104 11).toInt) : Sf (mm_reads h) (fun g => TK h g) := by
  unfold mm_reads
  refine rd0 h (h 104 12).toInt _ (fun h5 i5 fr5 s5 t5 => ?_) FU h (by have := (rsp i).1; have e : ((FU : Nat) : Int) = 100000 := rfl; omega) i ⟨fun _ _ => rfl, fun _ _ _ _ _ => rfl⟩ (Int.le_refl _) ht
  rw [lt_e, lt_e]
  have e13 : up (up h5 104 13 (h5 104 12)) 104 14 1 104 13 = h5 104 12 := by rw [up_oj (by decide), up_same]
  have e12 : up (up h5 104 13 (h5 104 12)) 104 14 1 104 12 = h5 104 12 := by rw [up_oj (by decide), up_oj (by decide)]
  have e11 : up (up h5 104 13 (h5 104 12)) 104 14 1 104 11 = h5 104 11 := by rw [up_oj (by decide), up_oj (by decide)]
  have i7 : IM (up (up h5 104 13 (h5 104 12)) 104 14 1) := im_tk (im_fm i5 _ (rsp i5)) 1
  have fr7 : FR4 h (up (up h5 104 13 (h5 104 12)) 104 14 1) := fr4_up (fr4_up fr5 (Or.inr (Or.inl rfl)) _) (Or.inr (Or.inr (Or.inl rfl))) _
  generalize up (up h5 104 13 (h5 104 12)) 104 14 1 = h7 at e13 e12 e11 i7 fr7 ⊢
  refine s_bd (raw_e _ h7 i7 (rsp i7)) (fun r8 c8 => ?_)
  refine s_if (fun _ => ?_) (fun n8 => ?_)
  · rw [lt_e]
    refine s_some ⟨im_tk i7 0, fr4_up fr7 (Or.inr (Or.inr (Or.inl rfl))) _, ?_, ?_, ?_, Or.inl up_same⟩
    · rw [up_oj (by decide), e13]; exact s5
    · rw [up_oj (by decide), up_oj (by decide), e13, e12]; exact Int.le_refl _
    · rw [up_oj (by decide), up_oj (by decide), e12, e11]; exact t5
  · obtain ⟨lt1, rv⟩ := c8 n8
    obtain ⟨e, f⟩ := nx_sp i7 lt1
    rw [lt_e, lt_e]
    have i11 : IM (up (up h7 104 12 (h7 104 12 + 1)) 104 15 r8) := im_vl (im_sp i7 _ f) r8
    have fr11 : FR4 h (up (up h7 104 12 (h7 104 12 + 1)) 104 15 r8) := fr4_up (fr4_up fr7 (Or.inl rfl) _) (Or.inr (Or.inr (Or.inr rfl))) _
    have g12 : (up (up h7 104 12 (h7 104 12 + 1)) 104 15 r8 104 12).toInt = (h5 104 12).toInt + 1 := by rw [up_oj (by decide), up_same, e, e12]
    have g13 : up (up h7 104 12 (h7 104 12 + 1)) 104 15 r8 104 13 = h5 104 12 := by rw [up_oj (by decide), up_oj (by decide), e13]
    have g11 : up (up h7 104 12 (h7 104 12 + 1)) 104 15 r8 104 11 = h5 104 11 := by rw [up_oj (by decide), up_oj (by decide), e11]
    have g111 : up (up h7 104 12 (h7 104 12 + 1)) 104 15 r8 111 = h7 111 := by funext q; rw [up_oc (by decide), up_oc (by decide)]
    rw [e12, e11] at lt1
    generalize up (up h7 104 12 (h7 104 12 + 1)) 104 15 r8 = h11 at i11 fr11 g12 g13 g11 g111 ⊢
    have fin : ∀ g, IM g → FR4 h g → (h5 104 12).toInt + 1 ≤ (g 104 12).toInt → (g 104 12).toInt ≤ (g 104 11).toInt → g 104 13 = h11 104 13 → TK h g := fun g ig fg s1 s2 s3 => ⟨ig, fg, by rw [s3, g13]; exact s5, by rw [s3, g13]; omega, s2, Or.inr (by rw [s3, g13]; exact s1)⟩
    have tk : ∀ (g : PH) (v : Int32), IM g → FR4 h g → (h5 104 12).toInt + 1 ≤ (g 104 12).toInt → (g 104 12).toInt ≤ (g 104 11).toInt → g 104 13 = h11 104 13 → TK h (up g 104 14 v) := fun g v ig fg s1 s2 s3 => fin _ (im_tk ig v) (fr4_up fg (Or.inr (Or.inr (Or.inl rfl))) v) (by rw [up_oj (by decide)]; exact s1) (by rw [up_oj (by decide), up_oj (by decide)]; exact s2) (by rw [up_oj (by decide)]; exact s3)
    have t11 : (h11 104 12).toInt ≤ (h11 104 11).toInt := by rw [g12, g11]; omega
    have s11 : (h5 104 12).toInt + 1 ≤ (h11 104 12).toInt := by rw [g12]; exact Int.le_refl _
    refine s_bd (P := fun q => ¬ q = 0 → ¬ r8 = 32) ?_ (fun r12 hq => ?_)
    · unfold mm_isLetter
      refine s_isin (fun r1 _ w1 => ?_)
      refine s_if (fun _ => ?_) (fun n1 => s_some (fun _ z => ?_))
      · refine s_isin (fun r2 _ w2 => ?_)
        refine s_if (fun _ => s_some (fun z => absurd rfl z)) (fun n2 => s_some (fun _ z => ?_))
        rw [z] at w2; exact absurd (w2 n2).1 (by decide)
      · rw [z] at w1; exact absurd (w1 n1).1 (by decide)
    · refine s_if (fun _ => ?_) (fun n12 => ?_)
      · refine s_bd (P := fun _ => True) (by unfold mm_isDigit; exact s_isin (fun r1 _ _ => s_some trivial)) (fun r13 _ => ?_)
        refine s_if (fun _ => ?_) (fun _ => ?_)
        · refine s_bd (P := fun _ => True) ?_ (fun r14 _ => ?_)
          · unfold mm_isMarkSign
            repeat (refine s_if (fun _ => s_some trivial) (fun _ => ?_))
            exact s_some trivial
          · refine s_if (fun _ => s_some (fin h11 i11 fr11 s11 t11 rfl)) (fun _ => ?_)
            rw [lt_e]
            exact s_some (tk h11 4 i11 fr11 s11 t11 rfl)
        · rw [lt_e]
          have f16 : FR4 h11 (up h11 104 15 (r8 - 48)) := fr4_up ⟨fun _ _ => rfl, fun _ _ _ _ _ => rfl⟩ (Or.inr (Or.inr (Or.inr rfl))) _
          refine rd171 h11 ((h5 104 12).toInt + 1) _ (fun g ig fg s1 s2 s3 => ?_) FU _ (by have := (rsp (im_vl i11 (r8 - 48))).1; have e : ((FU : Nat) : Int) = 100000 := rfl; omega) (im_vl i11 _) f16 (by rw [up_oj (by decide)]; exact s11) (by rw [up_oj (by decide), up_oj (by decide)]; exact t11) (up_oj (by decide))
          have fg2 : FR4 h g := ⟨fun b hb => by rw [fg.1 b hb, fr11.1 b hb], fun j a1 a2 a3 a4 => by rw [fg.2 j a1 a2 a3 a4, fr11.2 j a1 a2 a3 a4]⟩
          refine s_if (fun _ => s_some (fin g ig fg2 s1 s2 s3)) (fun _ => ?_)
          rw [lt_e]
          exact s_some (tk g 3 ig fg2 s1 s2 s3)
      · refine rd95 h11 ((h5 104 12).toInt + 1) _ (fun g ig fg s1 s2 s3 hl => ?_) FU h11 (by have := (rsp i11).1; have e : ((FU : Nat) : Int) = 100000 := rfl; omega) i11 ⟨fun _ _ => rfl, fun _ _ _ _ _ => rfl⟩ s11 t11 rfl (fun x h1 h2 => ?_)
        · have fg2 : FR4 h g := ⟨fun b hb => by rw [fg.1 b hb, fr11.1 b hb], fun j a1 a2 a3 a4 => by rw [fg.2 j a1 a2 a3 a4, fr11.2 j a1 a2 a3 a4]⟩
          obtain ⟨a, ha1, ha2, ea⟩ := nat_of (show R 0 400 (g 104 13) from inv_rng ig.1 rfl) (by decide)
          obtain ⟨b, hb1, hb2, eb⟩ := nat_of (rsp ig) (by decide)
          have hab : a ≤ b := by
            have q1 : (g 104 13).toInt = (a : Int) := by rw [ea, nI_toInt ha2]
            have q2 : (g 104 12).toInt = (b : Int) := by rw [eb, nI_toInt hb2]
            rw [s3, g13] at q1
            omega
          rw [ea, eb]
          refine s_bd (sf_wordAt a b hab (by omega) g ig (fun x hx1 hx2 => hl x ?_ ?_)) (fun r30 _ => ?_)
          · rw [← s3, ea, nI_toInt ha2]; omega
          · rw [eb, nI_toInt hb2]; omega
          · rw [lt_e]
            have fv := fr4_up fg2 (j := 15) (Or.inr (Or.inr (Or.inr rfl))) r30
            have w1 : (h5 104 12).toInt + 1 ≤ (up g 104 15 r30 104 12).toInt := by rw [up_oj (by decide)]; exact s1
            have w2 : (up g 104 15 r30 104 12).toInt ≤ (up g 104 15 r30 104 11).toInt := by rw [up_oj (by decide), up_oj (by decide)]; exact s2
            have w3 : up g 104 15 r30 104 13 = h11 104 13 := by rw [up_oj (by decide)]; exact s3
            refine s_if (fun _ => s_some (fin _ (im_vl ig _) fv w1 w2 w3)) (fun _ => ?_)
            rw [lt_e]
            exact s_some (tk _ 2 (im_vl ig _) fv w1 w2 w3)
        · have q12 : (h11 104 12).toInt = (h5 104 12).toInt + 1 := g12
          rw [g13] at h1
          have hx : ix (h7 104 12) = x := by
            have := clamp_int (i := h7 104 12) (rsp i7).1
            have : ((ix (h7 104 12) : Nat) : Int) = (h7 104 12).toInt := this
            rw [e12] at this
            rw [e12]
            omega
          rw [g111, ← hx, ← rv]
          exact hq n12
end
