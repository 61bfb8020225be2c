/-! SAFETY of the model's reader: tokens -/
def FR4 (h g : PH) : Prop := (∀ b, b ≠ 104 → g b = h b) ∧ ∀ j, j ≠ 12 → j ≠ 13 → j ≠ 14 → j ≠ 15 → g 104 j = h 104 j
theorem fr4_up {h g : PH} (f : FR4 h g) {j : Nat} (hj : j = 12 ∨ j = 13 ∨ j = 14 ∨ j = 15) (v : Int32) : FR4 h (up g 104 j v) :=
  ⟨fun b hb => by rw [← f.1 b hb]; funext q; exact up_oc hb, fun q h1 h2 h3 h4 => by rw [up_oj (by omega)]; exact f.2 q h1 h2 h3 h4⟩
theorem raw_s (x : Int32) (h : PH) (i : IM h) (f : R 0 400 x) : Sf (mm_raw x h) (fun r => ¬ r = -1 → x.toInt < (h 104 11).toInt) := by
  have ft : R 0 400 (h 104 11) := inv_rng i.1 rfl
  unfold mm_raw
  refine s_if (fun c => s_some (fun q => absurd rfl q)) (fun c => ?_)
  have c2 := nle_lt c
  have f2 : R 0 399 x := lt_hi f ft c2 (by decide)
  rw [Int32.lt_iff_toInt_lt] at c2
  exact s_ck f2 (by decide) (s_some (fun _ => c2))
theorem raw_e (x : Int32) (h : PH) (i : IM h) (f : R 0 400 x) : Sf (mm_raw x h) (fun r => ¬ r = -1 → x.toInt < (h 104 11).toInt ∧ r = h 111 (ix x)) := by
  have ft : R 0 400 (h 104 11) := inv_rng i.1 rfl
  unfold mm_raw
  refine s_if (fun c => s_some (fun q => absurd rfl q)) (fun c => ?_)
  have c2 := nle_lt c
  have f2 : R 0 399 x := lt_hi f ft c2 (by decide)
  rw [Int32.lt_iff_toInt_lt] at c2
  exact s_ck f2 (by decide) (s_some (fun _ => ⟨c2, rfl⟩))
theorem im_sp {h : PH} (i : IM h) (v : Int32) (f : R 0 400 v) : IM (up h 104 12 v) := im_put i (show sp 104 12 = (0, 400) from rfl) f (by decide)
theorem im_fm {h : PH} (i : IM h) (v : Int32) (f : R 0 400 v) : IM (up h 104 13 v) := im_put i (show sp 104 13 = (0, 400) from rfl) f (by decide)
theorem im_tk {h : PH} (i : IM h) (v : Int32) : IM (up h 104 14 v) := im_put i (show sp 104 14 = (-2147483648, 2147483647) from rfl) (r_full v) (by decide)
theorem im_vl {h : PH} (i : IM h) (v : Int32) : IM (up h 104 15 v) := im_put i (show sp 104 15 = (-2147483648, 2147483647) from rfl) (r_full v) (by decide)
theorem rsp {h : PH} (i : IM h) : R 0 400 (h 104 12) := inv_rng i.1 rfl
theorem rtp {h : PH} (i : IM h) : R 0 400 (h 104 11) := inv_rng i.1 rfl
/-- the next place -/
theorem nx_sp {h : PH} (i : IM h) (c : (h 104 12).toInt < (h 104 11).toInt) : (h 104 12 + 1).toInt = (h 104 12).toInt + 1 ∧ R 0 400 (h 104 12 + 1) := by
  have f1 := rsp i
  have f2 := rtp i
  have f3 : R 0 399 (h 104 12) := ⟨f1.1, by have := f2.2; omega⟩
  have m1 : R 1 1 (1 : Int32) := ⟨by decide, by decide⟩
  have e := i_add f3 m1 (by decide)
  simp only [show (1 : Int32).toInt = 1 from rfl] at e
  exact ⟨e, r_w (r_add f3 m1 (e := 1) (f := 400) (by decide)) (by decide)⟩
theorem rd0 (o : PH) (s : Int) (k0 : PH → Option PH) {Q : PH → Prop} (hk : ∀ g, IM g → FR4 o g → s ≤ (g 104 12).toInt → (g 104 12).toInt ≤ (g 104 11).toInt → Sf (k0 g) Q) : ∀ (n : Nat) (h : PH), 400 - (h 104 12).toInt < (n : Int) → IM h → FR4 o h → s ≤ (h 104 12).toInt → (h 104 12).toInt ≤ (h 104 11).toInt → Sf (mm_reads_L0 k0 n h) Q := by
  intro n
  induction n with
  | zero => intro h hn i; have := (rsp i).2; omega
  | succ n ih =>
    intro h hn i fr hs ht
    rw [mm_reads_L0]
    refine s_bd (raw_s _ h i (rsp i)) (fun r1 c1 => ?_)
    rw [jn0_e]
    have go : (h 104 12).toInt < (h 104 11).toInt → Sf (lt (up h 104 12 (h 104 12 + 1)) fun h3 => mm_reads_L0 k0 n h3) Q := fun c => by
      obtain ⟨e, f⟩ := nx_sp i c
      rw [lt_e]
      refine ih _ (by rw [up_same, e]; omega) (im_sp i _ f) (fr4_up fr (Or.inl rfl) _) (by rw [up_same, e]; omega) ?_
      rw [up_same, e, up_oj (by decide)]
      omega
    refine s_if (fun c => go (c1 (by rw [c]; decide))) (fun c => ?_)
    refine s_bd (raw_s _ h i (rsp i)) (fun r4 c4 => ?_)
    exact s_if (fun c => go (c4 (by rw [c]; decide))) (fun _ => hk h i fr hs ht)
/-- letters, or digits, as many as stand together -/
theorem rd95 (o : PH) (s : Int) (k0 : PH → Option PH) {Q : PH → Prop} (hk : ∀ g, IM g → FR4 o g → s ≤ (g 104 12).toInt → (g 104 12).toInt ≤ (g 104 11).toInt → g 104 13 = o 104 13 → (∀ x : Nat, (o 104 13).toInt ≤ (x : Int) → (x : Int) < (g 104 12).toInt → ¬ g 111 x = 32) → Sf (k0 g) Q) : ∀ (n : Nat) (h : PH), 400 - (h 104 12).toInt < (n : Int) → IM h → FR4 o h → s ≤ (h 104 12).toInt → (h 104 12).toInt ≤ (h 104 11).toInt → h 104 13 = o 104 13 → (∀ x : Nat, (o 104 13).toInt ≤ (x : Int) → (x : Int) < (h 104 12).toInt → ¬ h 111 x = 32) → Sf (mm_reads_L95 k0 n h) Q := by
  intro n
  induction n with
  | zero => intro h hn i; have := (rsp i).2; omega
  | succ n ih =>
    intro h hn i fr hs ht e13 hl
    rw [mm_reads_L95]
    refine s_bd (raw_e _ h i (rsp i)) (fun r c1 => ?_)
    refine s_bd (P := fun q => ¬ q = 0 → ¬ r = -1 ∧ ¬ r = 32) ?_ (fun q hq => ?_)
    · unfold mm_isLetter
      refine s_isin (fun r1 _ w1 => ?_)
      refine s_if (fun _ => ?_) (fun n1 => s_some (fun _ => ⟨fun z => ?_, fun z => ?_⟩))
      · refine s_isin (fun r2 _ w2 => ?_)
        refine s_if (fun _ => s_some (fun z => absurd rfl z)) (fun n2 => s_some (fun _ => ⟨fun z => ?_, fun z => ?_⟩))
        · rw [z] at w2; exact absurd (w2 n2).1 (by decide)
        · rw [z] at w2; exact absurd (w2 n2).1 (by decide)
      · rw [z] at w1; exact absurd (w1 n1).1 (by decide)
      · rw [z] at w1; exact absurd (w1 n1).1 (by decide)
    · refine s_if (fun _ => hk h i fr hs ht e13 hl) (fun nq => ?_)
      obtain ⟨g1, g2⟩ := hq nq
      obtain ⟨lt1, rv⟩ := c1 g1
      obtain ⟨e, f⟩ := nx_sp i lt1
      rw [lt_e]
      refine ih _ (by rw [up_same, e]; omega) (im_sp i _ f) (fr4_up fr (Or.inl rfl) _) (by rw [up_same, e]; omega) (by rw [up_same, e, up_oj (by decide)]; omega) (by rw [up_oj (by decide)]; exact e13) (fun x h1 h2 => ?_)
      rw [up_same, e] at h2
      rw [up_oc (by decide)]
      by_cases hx : (x : Int) < (h 104 12).toInt
      · exact hl x h1 hx
      · have hx2 : ix (h 104 12) = x := by
          have := clamp_int (i := h 104 12) (rsp i).1
          have : ((ix (h 104 12) : Nat) : Int) = (h 104 12).toInt := this
          omega
        rw [← hx2, ← rv]
        exact g2
theorem rd171 (o : PH) (s : Int) (k0 : PH → Option PH) {Q : PH → Prop} (hk : ∀ g, IM g → FR4 o g → s ≤ (g 104 12).toInt → (g 104 12).toInt ≤ (g 104 11).toInt → g 104 13 = o 104 13 → Sf (k0 g) Q) : ∀ (n : Nat) (h : PH), 400 - (h 104 12).toInt < (n : Int) → IM h → FR4 o h → s ≤ (h 104 12).toInt → (h 104 12).toInt ≤ (h 104 11).toInt → h 104 13 = o 104 13 → Sf (mm_reads_L171 k0 n h) Q := by
  intro n
  induction n with
  | zero => intro h hn i; have := (rsp i).2; omega
  | succ n ih =>
    intro h hn i fr hs ht e13
    rw [mm_reads_L171]
    refine s_bd (raw_e _ h i (rsp i)) (fun r c1 => ?_)
    refine s_bd (P := fun q => ¬ q = 0 → ¬ r = -1) ?_ (fun q hq => ?_)
    · unfold mm_isDigit
      refine s_isin (fun r1 _ w1 => s_some (fun z z2 => ?_))
      have n1 : ¬ r1 = 0 := fun z3 => z (by rw [z3]; rfl)
      rw [z2] at w1
      exact absurd (w1 n1).1 (by decide)
    · refine s_if (fun _ => hk h i fr hs ht e13) (fun nq => ?_)
      obtain ⟨lt1, -⟩ := c1 (hq nq)
      obtain ⟨e, f⟩ := nx_sp i lt1
      refine s_jn1 (P := fun _ => True) (fun x20 _ => ?_) (fun j19 kj => ?_)
      · rw [lt_e, lt_e]
        have e1 : up h 104 15 x20 104 12 = h 104 12 := up_oj (by decide)
        rw [e1]
        refine ih _ (by rw [up_same, e]; omega) (im_sp (im_vl i _) _ f) (fr4_up (fr4_up fr (Or.inr (Or.inr (Or.inr rfl))) _) (Or.inl rfl) _) (by rw [up_same, e]; omega) (by rw [up_same, e, up_oj (by decide), up_oj (by decide)]; omega) (by rw [up_oj (by decide), up_oj (by decide)]; exact e13)
      · refine s_if (fun _ => kj _ trivial) (fun _ => ?_)
        exact s_bd (raw_s _ h i (rsp i)) (fun r23 _ => kj _ trivial)
