section
/-! SAFETY of the model's law: code that runs over a stack -/
def stC (op arg : Nat → Int32) (f k d : Nat) : Option Nat :=
  if op k = 0 then some (d + 1) else
  if op k = 1 then (if 0 ≤ arg k ∧ arg k ≤ 11 then some (d + 1) else none) else
  if op k = 9 then (if 1 ≤ d then some d else none) else
  if 2 ≤ d ∧ (op k = 5 → f < k ∧ op (k - 1) = 0 ∧ ¬ arg (k - 1) = 0) then some (d - 1) else none
def dep (op arg : Nat → Int32) (f : Nat) : Nat → Nat → Nat → Option Nat
  | 0, _, d => some d
  | m + 1, k, d => bd (stC op arg f k d) fun d' => dep op arg f m (k + 1) d'
def SegOK (op arg : Nat → Int32) (a b : Nat) : Prop := ∃ d, dep op arg a (b - a) a 0 = some d
def LawF (lm : Int32) (lf lw lt op arg : Nat → Int32) : Prop := ∀ l : Nat, (l : Int) < lm.toInt → ∃ a b c : Nat, lf l = nI a ∧ lw l = nI b ∧ lt l = nI c ∧ a ≤ b ∧ b ≤ c ∧ c ≤ 400 ∧ SegOK op arg a b ∧ SegOK op arg b c
def LawOK (h : PH) : Prop := LawF (h 113 0) (h 115) (h 116) (h 117) (h 118) (h 119)
def LawImg (h : PH) : Prop := LawF (h 148 985) (fun l => h 148 (986 + 4 * l + 1)) (fun l => h 148 (986 + 4 * l + 2)) (fun l => h 148 (986 + 4 * l + 3)) (fun k => h 148 (1050 + 2 * k)) (fun k => h 148 (1050 + 2 * k + 1))
def IM (h : PH) : Prop := Inv h ∧ LawOK h ∧ LawImg h
theorem im_put {h : PH} {c j : Nat} {v : Int32} {a b : Int} (hI : IM h) (e : sp c j = (a, b)) (hv : R a b v) (hc : (c < 113 ∨ 119 < c) ∧ ¬ c = 148) : IM (up h c j v) := by
  obtain ⟨i1, i2, i3⟩ := hI
  have ne : ∀ x, (113 ≤ x ∧ x ≤ 119) ∨ x = 148 → up h c j v x = h x := fun x hx => by
    have : ¬ x = c := by omega
    funext k
    simp [up_at, this]
  refine ⟨inv_put i1 e hv, ?_, ?_⟩
  · unfold LawOK
    rw [ne 113 (by omega), ne 115 (by omega), ne 116 (by omega), ne 117 (by omega), ne 118 (by omega), ne 119 (by omega)]
    exact i2
  · unfold LawImg
    rw [ne 148 (by omega)]
    exact i3
theorem jn0_e {ρ : Type} (f : Option ρ) (b : Option ρ → Option ρ) : jn0 f b = b f := Eq.trans (b := b f) rfl rfl
theorem runs_go (h : PH) (a b : Nat) (hb : b ≤ 400) (k0 : PH → Option (Int32 × PH)) {Q : Int32 × PH → Prop} (hk : ∀ g, IM g → (∀ c, c ≠ 125 → g c = h c) → Sf (k0 g) Q) :
    ∀ (n k d : Nat) (g : PH), b < n + k → a ≤ k → k ≤ b → d ≤ k - a → IM g → (∀ c, c ≠ 125 → g c = h c) → (∃ d', dep (h 118) (h 119) a (b - k) k d = some d') → (a < k → h 118 (k - 1) = 0 → g 125 (d - 1) = h 119 (k - 1)) → Sf (mm_runs_L12 0 (nI b) k0 n (nI d) (nI k) g) Q := by
  intro n
  induction n with
  | zero => intro k d g h1 h2 h3; omega
  | succ n ih =>
    intro k d g h1 h2 h3 hd i fr hdep hpv
    rw [mm_runs_L12]
    have e0 : (400 : Int32) * 0 + nI b = nI b := by rw [show (400 : Int32) * 0 = 0 from rfl, Int32.zero_add]
    rw [e0]
    by_cases hkb : k = b
    · subst hkb
      rw [if_pos (nI_le (Nat.le_refl _) (by omega))]
      exact hk g i fr
    · rw [if_neg (nI_ge (by omega) (by omega))]
      have ck5 : ∀ {ρ : Type} (q : Option ρ), ck (nI k) 1200 q = q := fun q => ck_nI (by omega) (by omega)
      have ix5 : ix (nI k) = k := nI_clamp (by omega)
      have o118 : g 118 = h 118 := fr 118 (by decide)
      have o119 : g 119 = h 119 := fr 119 (by decide)
      simp only [ck5, ix5, o118, o119]
      obtain ⟨d', hd'⟩ := hdep
      obtain ⟨m, hm⟩ : ∃ m, b - k = m + 1 := ⟨b - k - 1, by omega⟩
      rw [hm, dep] at hd'
      obtain ⟨d1, s1, s2⟩ := bd_s hd'
      have hm2 : m = b - (k + 1) := by omega
      rw [hm2] at s2
      have nxt : ∀ (g2 : PH), IM g2 → (∀ c, c ≠ 125 → g2 c = h c) → d1 ≤ k + 1 - a → (h 118 k = 0 → g2 125 (d1 - 1) = h 119 k) → Sf (mm_runs_L12 0 (nI b) k0 n (nI d1) (nI k + 1) g2) Q := fun g2 i2 f2 hd1 hp => by
        rw [nI_1]
        exact ih (k + 1) d1 g2 (by omega) (by omega) (by omega) hd1 i2 f2 ⟨d', s2⟩ (fun _ hq => by
          rw [Nat.add_sub_cancel] at hq ⊢
          exact hp hq)
      have wr : ∀ (j : Nat) (v : Int32), IM (up g 125 j v) ∧ ∀ c, c ≠ 125 → up g 125 j v c = h c := fun j v => ⟨im_put i (show sp 125 j = (-2147483648, 2147483647) from rfl) (r_full v) (by decide), fun c hc => by rw [← fr c hc]; funext q; simp [up_at, hc]⟩
      unfold stC at s1
      have push : ∀ (x : Int32), d1 = d + 1 → (h 118 k = 0 → x = h 119 k) → Sf (ck (nI d) 420 <| lt (up g 125 (ix (nI d)) x) fun h5 => lt (nI d + 1) fun x6 => mm_runs_L12 0 (nI b) k0 n x6 (nI k + 1) h5) Q := fun x e1 hx => by
        rw [ck_nI (by omega) (by omega), lt_e, lt_e, nI_1, show ix (nI d) = d from nI_clamp (by omega), ← e1]
        obtain ⟨w1, w2⟩ := wr d x
        refine nxt _ w1 w2 (by omega) (fun hq => ?_)
        rw [e1, Nat.add_sub_cancel, ← hx hq]
        simp [up_at]
      by_cases c0 : h 118 k = 0
      · rw [if_pos c0] at s1
        have e1 : d1 = d + 1 := (Option.some.inj s1).symm
        refine s_jn0 (Q := Q) ?_ (fun j2 hj2 => ?_)
        · refine s_jn1 (P := fun x => h 118 k = 0 → x = h 119 k) (fun x hx => push x e1 hx) (fun j3 hj3 => ?_)
          rw [if_pos c0]
          exact hj3 _ (fun _ => rfl)
        · rw [if_pos c0]; exact hj2
      · rw [if_neg c0] at s1
        by_cases c1 : h 118 k = 1
        · rw [if_pos c1] at s1
          by_cases ca : 0 ≤ h 119 k ∧ h 119 k ≤ 11
          · rw [if_pos ca] at s1
            have e1 : d1 = d + 1 := (Option.some.inj s1).symm
            have ra : R 0 11 (h 119 k) := ⟨by have := ca.1; rw [Int32.le_iff_toInt_le] at this; exact this, by have := ca.2; rw [Int32.le_iff_toInt_le] at this; exact this⟩
            refine s_jn0 (Q := Q) ?_ (fun j2 hj2 => ?_)
            · refine s_jn1 (P := fun _ => True) (fun x _ => push x e1 (fun q => absurd q c0)) (fun j3 hj3 => ?_)
              rw [if_neg c0]
              exact s_ck ra (by decide) (hj3 _ trivial)
            · rw [if_neg c0, if_pos c1]; exact hj2
          · rw [if_neg ca] at s1; cases s1
        · rw [if_neg c1] at s1
          rw [jn0_e, if_neg c0, if_neg c1]
          · by_cases c9 : h 118 k = 9
            · rw [if_pos c9] at s1 ⊢
              by_cases cd : 1 ≤ d
              · rw [if_pos cd] at s1
                have e1 : d1 = d := (Option.some.inj s1).symm
                obtain ⟨q, rfl⟩ : ∃ q, d = q + 1 := ⟨d - 1, by omega⟩
                rw [nI_pred, ck_nI (by omega) (by omega), ck_nI (by omega) (by omega), lt_e]
                obtain ⟨w1, w2⟩ := wr (ix (nI q)) (1 - g 125 (ix (nI q)))
                rw [← e1]
                exact nxt _ w1 w2 (by omega) (fun hq => absurd hq c0)
              · rw [if_neg cd] at s1; cases s1
            · rw [if_neg c9] at s1 ⊢
              by_cases c2 : 2 ≤ d ∧ (h 118 k = 5 → a < k ∧ h 118 (k - 1) = 0 ∧ ¬ h 119 (k - 1) = 0)
              · rw [if_pos c2] at s1
                have e1 : d1 = d - 1 := (Option.some.inj s1).symm
                obtain ⟨q, rfl⟩ : ∃ q, d = q + 2 := ⟨d - 2, by omega⟩
                have p1 : nI (q + 2) - 1 = nI (q + 1) := nI_pred (q + 1)
                rw [lt_e, p1, nI_pred, ck_nI (by omega) (by omega), ck_nI (by omega) (by omega)]
                have ixa : ix (nI (q + 1)) = q + 1 := nI_clamp (by omega)
                have ixb : ix (nI q) = q := nI_clamp (by omega)
                rw [ixa, ixb]
                refine s_bd (P := fun _ => True) ?_ (fun r9 _ => ?_)
                · unfold mm_twoOf
                  refine s_if (fun _ => s_some trivial) (fun _ => s_if (fun _ => s_some trivial) (fun _ => s_if (fun _ => s_some trivial) (fun _ => s_if (fun c5 => ?_) (fun _ => ?_))))
                  · have h5 := c2.2 c5
                    have h6 := hpv h5.1 h5.2.1
                    rw [show q + 2 - 1 = q + 1 by omega] at h6
                    rw [dz_nz (by rw [h6]; exact h5.2.2)]
                    exact s_some trivial
                  · exact s_if (fun _ => s_if (fun _ => s_some trivial) (fun _ => s_some trivial)) (fun _ => s_if (fun _ => s_if (fun _ => s_some trivial) (fun _ => s_some trivial)) (fun _ => s_if (fun _ => s_if (fun _ => s_some trivial) (fun _ => s_some trivial)) (fun _ => s_if (fun _ => s_some trivial) (fun _ => s_if (fun _ => s_some trivial) (fun _ => s_some trivial)))))
                · rw [ck_nI (by omega) (by omega), lt_e]
                  obtain ⟨w1, w2⟩ := wr q r9
                  have := nxt _ w1 w2 (by omega) (fun hq => absurd hq c0)
                  rw [e1, show q + 2 - 1 = q + 1 by omega] at this
                  exact this
              · rw [if_neg c2] at s1; cases s1
theorem c0_420 {ρ : Type} (k : Option ρ) : ck 0 420 k = k := ck_nI (i := 0) (by decide) (by decide)
theorem c0_2 {ρ : Type} (k : Option ρ) : ck 0 2 k = k := ck_nI (i := 0) (by decide) (by decide)
theorem sf_m_runs (h : PH) (i : IM h) (a b : Nat) (hab : a ≤ b) (hb : b ≤ 400) (hs : SegOK (h 118) (h 119) a b) : Sf (mm_runs 0 (nI a) (nI b) h) (fun r => IM r.2 ∧ ∀ c, c ≠ 125 → r.2 c = h c) := by
  unfold mm_runs
  have e0 : (400 : Int32) * 0 + nI a = nI a := by rw [show (400 : Int32) * 0 = 0 from rfl, Int32.zero_add]
  rw [lt_e, e0]
  have key := runs_go h a b hb (fun (h11 : PH) => ck 0 420 <| some (h11 125 (ix 0), h11)) (Q := fun r => IM r.2 ∧ ∀ c, c ≠ 125 → r.2 c = h c) (fun g ig fg => by rw [c0_420]; exact s_some ⟨ig, fg⟩) FU a 0 h (by unfold FU; omega) (Nat.le_refl _) hab (by omega) i (fun _ _ => rfl) hs (fun q => by omega)
  rw [nI_0] at key
  exact key
theorem lineOf_go (h : PH) (p1 : Int32) : ∀ (n l : Nat) (g : PH), 16 < n + l → l ≤ 16 → IM g → (∀ c, c ≠ 125 → g c = h c) → Sf (mm_lineOf_L2 p1 n (nI l) g) (fun r => (r.1 = -1 ∨ ∃ q : Nat, q < 16 ∧ r.1 = nI q ∧ (q : Int) < (h 113 0).toInt) ∧ IM r.2 ∧ ∀ c, c ≠ 125 → r.2 c = h c) := by
  intro n
  induction n with
  | zero => intro l g h1 h2; omega
  | succ n ih =>
    intro l g h1 h2 i fr
    rw [mm_lineOf_L2, c0_2]
    have lm : R 0 16 (g 113 (ix 0)) := inv_rng i.1 rfl
    refine s_if (fun c => s_some ⟨Or.inl rfl, i, fr⟩) (fun c => ?_)
    rw [Int32.le_iff_toInt_le, nI_toInt (by omega)] at c
    have lm2 := lm.2
    have hl : l < 16 := by omega
    have hlm : (l : Int) < (g 113 0).toInt := by
      have : (g 113 (ix 0)).toInt = (g 113 0).toInt := rfl
      omega
    have hlm2 : (l : Int) < (h 113 0).toInt := by rw [← fr 113 (by decide)]; exact hlm
    have ckl : ∀ {ρ : Type} (q : Option ρ), ck (nI l) 48 q = q := fun q => ck_nI (by omega) (by omega)
    have ixl : ix (nI l) = l := nI_clamp (by omega)
    simp only [ckl, ixl]
    have go : ∀ g2, IM g2 → (∀ c, c ≠ 125 → g2 c = h c) → Sf (mm_lineOf_L2 p1 n (nI l + 1) g2) (fun r => (r.1 = -1 ∨ ∃ q : Nat, q < 16 ∧ r.1 = nI q ∧ (q : Int) < (h 113 0).toInt) ∧ IM r.2 ∧ ∀ c, c ≠ 125 → r.2 c = h c) := fun g2 i2 f2 => by
      rw [nI_1]; exact ih (l + 1) g2 (by omega) (by omega) i2 f2
    refine s_if (fun c1 => ?_) (fun c1 => go g i fr)
    refine s_if (fun c2 => s_some ⟨Or.inr ⟨l, hl, rfl, hlm2⟩, i, fr⟩) (fun c2 => ?_)
    obtain ⟨a, b, c', q1, q2, q3, q4, q5, q6, q7, q8⟩ := i.2.1 l hlm
    rw [q2, q3]
    refine s_bd2 (sf_m_runs g i b c' q5 q6 q8) (fun r1 h2 hr => ?_)
    have f2 : ∀ c, c ≠ 125 → h2 c = h c := fun c hc => by rw [← fr c hc]; exact hr.2 c hc
    exact s_if (fun _ => go h2 hr.1 f2) (fun _ => s_some ⟨Or.inr ⟨l, hl, rfl, hlm2⟩, hr.1, f2⟩)
theorem sf_m_lawTells (p1 p2 p3 : Int32) (f3 : R 99 1000 p3) {h0 : PH} (i : IM h0) : Sf (mm_lawTells p1 p2 p3 h0) (fun r => R 0 1000 r.1 ∧ IM r.2) := by
  unfold mm_lawTells mm_lineOf
  have key := lineOf_go h0 p1 FU 0 h0 (by unfold FU; omega) (by omega) i (fun _ _ => rfl)
  rw [nI_0] at key
  refine s_bd2 key (fun r1 h2 hr => ?_)
  obtain ⟨hr1, i2z, f2z⟩ := hr
  have i2 : IM h2 := i2z
  have f2 : ∀ c, c ≠ 125 → h2 c = h0 c := f2z
  refine s_jn2 (P := fun _ g => IM g) (fun x4 h5 i5 => ?_) (fun j3 hj3 => ?_)
  · refine s_bd (P := fun r => R 0 1000 r) ?_ (fun r6 f6 => s_some ⟨f6, i5⟩)
    unfold mm_held
    refine s_if (fun c => ?_) (fun c => s_some (show R 0 1000 (0 : Int32) from ⟨by decide, by decide⟩))
    have g1 : R 0 2147483647 x4 := le_lo (show R 0 0 (0 : Int32) from ⟨by decide, by decide⟩) (r_full x4) c
    exact s_if (fun c2 => s_some (r_w (le_hi g1 f3 c2) (by decide))) (fun c2 => s_some (r_w f3 (by decide)))
  · by_cases c : r1 = -1
    · rw [if_pos c]; exact hj3 _ _ i2
    · rw [if_neg c]
      rcases hr1 with q | ⟨l, hl, q, hq⟩
      · exact absurd q c
      · have q : r1 = nI l := q
        subst q
        rw [ck_nI (by omega) (by omega), ck_nI (by omega) (by omega), show ix (nI l) = l from nI_clamp (by omega)]
        have hlm : (l : Int) < (h2 113 0).toInt := by rw [f2 113 (by decide)]; exact hq
        obtain ⟨a, b, c', q1, q2, q3, q4, q5, q6, q7, q8⟩ := i2.2.1 l hlm
        rw [q1, q2]
        exact s_bd2 (sf_m_runs h2 i2 a b q4 (by omega) q7) (fun r7 h8 h9 => hj3 _ _ h9.1)
end
section
/-! SAFETY of the model, by hand: copies of rows, deeds, the tape -/
theorem deed2 {h : PH} {x : Int32} (hI : Inv h) (hk : ∃ k : Nat, k < 16 ∧ x = nI (5 * k)) : R 0 11 (h 122 (ix (x + 2))) := by
  obtain ⟨k, hk, rfl⟩ := hk
  have e : ix (nI (5 * k) + 2) = 5 * k + 2 := by rw [show nI (5 * k) + 2 = nI (5 * k + 2) from nI_add (5 * k) 2]; exact nI_clamp (by omega)
  rw [e]
  refine inv_rng hI ?_
  show spD (5 * k + 2) = _
  unfold spD
  rw [if_pos (by omega)]
theorem deed3 {h : PH} {x : Int32} (hI : Inv h) (hk : ∃ k : Nat, k < 16 ∧ x = nI (5 * k)) : R 0 3 (h 122 (ix (x + 3))) := by
  obtain ⟨k, hk, rfl⟩ := hk
  have e : ix (nI (5 * k) + 3) = 5 * k + 3 := by rw [show nI (5 * k) + 3 = nI (5 * k + 3) from nI_add (5 * k) 3]; exact nI_clamp (by omega)
  rw [e]
  refine inv_rng hI ?_
  show spD (5 * k + 3) = _
  unfold spD
  rw [if_neg (by omega), if_pos (by omega)]
theorem spW_at (u k : Nat) (hk : k < 115) : spW (115 * u + k) = if k = 2 then (0, 150) else rF := by
  unfold spW
  rw [Nat.mul_add_mod, Nat.mod_eq_of_lt hk]
theorem now_rng {h : PH} (hI : Inv h) (k : Nat) : R (if k = 2 then ((0, 150) : Int × Int) else rF).1 (if k = 2 then ((0, 150) : Int × Int) else rF).2 (h 105 k) := hI 105 k
theorem im55 (k0 : PH → Option PH) (u : Nat) (hu : u ≤ 5) {Q : PH → Prop} (hk : ∀ g, IM g → g 104 3 = nI u → Sf (k0 g) Q) : ∀ (n k : Nat) (h : PH), 115 < n + k → k ≤ 115 → IM h → h 104 3 = nI u → Sf (mm_keepsAhead_L55 k0 n (nI k) h) Q := by
  intro n
  induction n with
  | zero => intro k h h1 h2; omega
  | succ n ih =>
    intro k h h1 h2 i e
    rw [mm_keepsAhead_L55]
    by_cases hk1 : k = 115
    · subst hk1
      rw [if_pos (show (115 : Int32) ≤ nI 115 by decide)]
      exact hk h i e
    · rw [if_neg (show ¬ (115 : Int32) ≤ nI k from nI_ge (b := 115) (by omega) (by omega))]
      have e3 : 115 * h 104 3 + nI k = nI (115 * u + k) := by
        rw [e, ← nI_add]
        congr 1
        exact (Int32.ofNat_mul 115 u).symm
      rw [ck_nI (by omega) (by omega), e3, ck_nI (by omega) (by omega), lt_e, nI_1, show ix (nI (115 * u + k)) = 115 * u + k from nI_clamp (by omega), show ix (nI k) = k from nI_clamp (by omega)]
      refine ih (k + 1) _ (by omega) (by omega) (im_put i (a := (if k = 2 then ((0, 150) : Int × Int) else rF).1) (b := (if k = 2 then ((0, 150) : Int × Int) else rF).2) (show sp 106 (115 * u + k) = _ from spW_at u k (by omega)) (now_rng i.1 k) (by decide)) (by rw [up_oc (by decide)]; exact e)
theorem im21 (k0 : PH → Option PH) {Q : PH → Prop} (hk : ∀ g, IM g → g 104 3 = nI 5 → Sf (k0 g) Q) : ∀ (n k : Nat) (h : PH), 575 < n + k → k ≤ 575 → IM h → h 104 3 = nI 5 → Sf (mm_keepsAhead_L21 k0 n (nI k) h) Q := by
  intro n
  induction n with
  | zero => intro k h h1 h2; omega
  | succ n ih =>
    intro k h h1 h2 i e
    rw [mm_keepsAhead_L21]
    have e3 : 115 * h 104 3 = nI 575 := by rw [e]; decide
    rw [e3]
    by_cases hk1 : k = 575
    · subst hk1
      rw [if_pos (nI_le (Nat.le_refl _) (by omega))]
      exact hk h i e
    · rw [if_neg (nI_ge (by omega) (by omega))]
      have e4 : nI k + 115 = nI (k + 115) := nI_add k 115
      rw [e4, ck_nI (by omega) (by omega), ck_nI (by omega) (by omega), lt_e, nI_1, show ix (nI (k + 115)) = k + 115 from nI_clamp (by omega), show ix (nI k) = k from nI_clamp (by omega)]
      refine ih (k + 1) _ (by omega) (by omega) ?_ (by rw [up_oc (by decide)]; exact e)
      have hv := i.1 106 (k + 115)
      have es : sp 106 (k + 115) = sp 106 k := by
        show spW (k + 115) = spW k
        unfold spW
        rw [Nat.add_mod_right]
      rw [es] at hv
      exact im_put i (a := (sp 106 k).1) (b := (sp 106 k).2) rfl hv (by decide)
theorem sf_m_keepsAhead {h0 : PH} (i : IM h0) : Sf (mm_keepsAhead h0) (fun h => IM h) := by
  have f3 : R 0 6 (h0 104 3) := inv_rng i.1 rfl
  have fin : ∀ (u : Nat) (g : PH), u ≤ 5 → IM g → g 104 3 = nI u → Sf (mm_keepsAhead_L55 (fun h4 => lt (up h4 104 3 (h4 104 3 + 1)) fun h5 => some h5) FU 0 g) (fun h => IM h) := fun u g hu ig eg => by
    have := im55 (fun h4 => lt (up h4 104 3 (h4 104 3 + 1)) fun h5 => some h5) u hu (Q := fun h => IM h) (fun g2 i2 e2 => s_lt (fun h5 e5 => s_some (by
      rw [e5, e2, nI_1]
      exact im_put i2 (show sp 104 3 = (0, 6) from rfl) ⟨by rw [nI_toInt (by omega)]; omega, by rw [nI_toInt (by omega)]; omega⟩ (by decide)))) FU 0 g (by unfold FU; omega) (by omega) ig eg
    rw [nI_0] at this
    exact this
  obtain ⟨u, h1, h2, eu⟩ := nat_of f3 (by decide)
  unfold mm_keepsAhead
  rw [jn1_e]
  by_cases c : h0 104 3 = 6
  · rw [if_pos c]
    have e5 : h0 104 3 - 1 = nI 5 := by rw [c]; decide
    rw [lt_e, e5]
    have := im21 (fun h8 => mm_keepsAhead_L55 (fun h4 => lt (up h4 104 3 (h4 104 3 + 1)) fun h5 => some h5) FU 0 h8) (Q := fun h => IM h) (fun g ig eg => fin 5 g (by omega) ig eg) FU 0 (up h0 104 3 (nI 5)) (by unfold FU; omega) (by omega) (im_put i (show sp 104 3 = (0, 6) from rfl) ⟨by decide, by decide⟩ (by decide)) up_same
    rw [nI_0] at this
    exact this
  · rw [if_neg c]
    refine fin u h0 ?_ i eu
    rcases Nat.lt_or_ge u 6 with q | q
    · omega
    · exfalso; apply c; rw [eu, show u = 6 by omega]; rfl
theorem sp105_at (k : Nat) : sp 105 k = if k = 2 then (0, 150) else rF := rfl
theorem sp107_at (k : Nat) : sp 107 k = if k = 2 then (0, 150) else rF := rfl
theorem im26 (u : Nat) (hu : u ≤ 5) : ∀ (n k : Nat) (h : PH), 115 < n + k → k ≤ 115 → IM h → h 104 3 = nI u → Sf (mm_undo_L26 n (nI k) h) (fun r => R 0 1 r.1 ∧ IM r.2) := by
  intro n
  induction n with
  | zero => intro k h h1 h2; omega
  | succ n ih =>
    intro k h h1 h2 i e
    rw [mm_undo_L26]
    by_cases hk1 : k = 115
    · subst hk1
      rw [if_pos (show (115 : Int32) ≤ nI 115 by decide)]
      exact s_some ⟨(show R 0 1 (1 : Int32) from ⟨by decide, by decide⟩), i⟩
    · rw [if_neg (show ¬ (115 : Int32) ≤ nI k from nI_ge (b := 115) (by omega) (by omega))]
      have e3 : 115 * h 104 3 + nI k = nI (115 * u + k) := by
        rw [e, ← nI_add]
        congr 1
        exact (Int32.ofNat_mul 115 u).symm
      rw [e3, ck_nI (by omega) (by omega), ck_nI (by omega) (by omega), lt_e, nI_1, show ix (nI (115 * u + k)) = 115 * u + k from nI_clamp (by omega), show ix (nI k) = k from nI_clamp (by omega)]
      have hv := i.1 106 (115 * u + k)
      rw [show sp 106 (115 * u + k) = _ from spW_at u k (by omega)] at hv
      exact ih (k + 1) _ (by omega) (by omega) (im_put i (a := (if k = 2 then ((0, 150) : Int × Int) else rF).1) (b := (if k = 2 then ((0, 150) : Int × Int) else rF).2) (sp105_at k) hv (by decide)) (by rw [up_oc (by decide)]; exact e)
theorem sf_m_undo {h0 : PH} (i : IM h0) : Sf (mm_undo h0) (fun r => R 0 1 r.1 ∧ IM r.2) := by
  unfold mm_undo
  rw [lt_e]
  have i1 : IM (up h0 104 0 0) := im_put i (show sp 104 0 = (-2147483648, 2147483647) from rfl) (r_full _) (by decide)
  have f3 : R 0 6 (up h0 104 0 0 104 3) := inv_rng i1.1 rfl
  refine s_if (fun c => s_some ⟨(show R 0 1 (0 : Int32) from ⟨by decide, by decide⟩), i1⟩) (fun c => ?_)
  obtain ⟨u, h1, h2, eu⟩ := nat_of f3 (by decide)
  have u0 : 0 < u := by
    rcases Nat.eq_zero_or_pos u with q | q
    · exfalso; apply c; rw [eu, q]; exact nI_0
    · exact q
  obtain ⟨v, rfl⟩ : ∃ v, u = v + 1 := ⟨u - 1, by omega⟩
  rw [eu, nI_pred, lt_e]
  have := im26 v (by omega) FU 0 (up (up h0 104 0 0) 104 3 (nI v)) (by unfold FU; omega) (by omega) (im_put i1 (show sp 104 3 = (0, 6) from rfl) ⟨by rw [nI_toInt (by omega)]; omega, by rw [nI_toInt (by omega)]; omega⟩ (by decide)) up_same
  rw [nI_0] at this
  exact this
theorem imth (k0 : PH → Option PH) {Q : PH → Prop} (hk : ∀ g, IM g → Sf (k0 g) Q) : ∀ (n k : Nat) (h : PH), 115 < n + k → k ≤ 115 → IM h → Sf (mm_thinks_L2 k0 n (nI k) h) Q := by
  intro n
  induction n with
  | zero => intro k h h1 h2; omega
  | succ n ih =>
    intro k h h1 h2 i
    rw [mm_thinks_L2]
    by_cases hk1 : k = 115
    · subst hk1
      rw [if_pos (show (115 : Int32) ≤ nI 115 by decide)]
      exact hk h i
    · rw [if_neg (show ¬ (115 : Int32) ≤ nI k from nI_ge (b := 115) (by omega) (by omega)), ck_nI (by omega) (by omega), ck_nI (by omega) (by omega), lt_e, nI_1, show ix (nI k) = k from nI_clamp (by omega)]
      exact ih (k + 1) _ (by omega) (by omega) (im_put i (a := (if k = 2 then ((0, 150) : Int × Int) else rF).1) (b := (if k = 2 then ((0, 150) : Int × Int) else rF).2) (sp107_at k) (now_rng i.1 k) (by decide))
theorem sf_m_thinks {h0 : PH} (i : IM h0) : Sf (mm_thinks h0) (fun h => IM h) := by
  unfold mm_thinks
  have := imth (fun h2 => lt (up h2 104 5 1) fun h3 => some h3) (Q := fun h => IM h) (fun g ig => s_lt (fun h3 e3 => s_some (by rw [e3]; exact im_put ig (show sp 104 5 = (0, 1) from rfl) ⟨by decide, by decide⟩ (by decide)))) FU 0 h0 (by unfold FU; omega) (by omega) i
  rw [nI_0] at this
  exact this
theorem imet (k0 : PH → Option PH) {Q : PH → Prop} (hk : ∀ g, IM g → Sf (k0 g) Q) : ∀ (n k : Nat) (h : PH), 115 < n + k → k ≤ 115 → IM h → Sf (mm_endsThought_L2 k0 n (nI k) h) Q := by
  intro n
  induction n with
  | zero => intro k h h1 h2; omega
  | succ n ih =>
    intro k h h1 h2 i
    rw [mm_endsThought_L2]
    by_cases hk1 : k = 115
    · subst hk1
      rw [if_pos (show (115 : Int32) ≤ nI 115 by decide)]
      exact hk h i
    · rw [if_neg (show ¬ (115 : Int32) ≤ nI k from nI_ge (b := 115) (by omega) (by omega)), ck_nI (by omega) (by omega), ck_nI (by omega) (by omega), lt_e, nI_1, show ix (nI k) = k from nI_clamp (by omega)]
      have hv := i.1 107 k
      rw [sp107_at] at hv
      exact ih (k + 1) _ (by omega) (by omega) (im_put i (a := (if k = 2 then ((0, 150) : Int × Int) else rF).1) (b := (if k = 2 then ((0, 150) : Int × Int) else rF).2) (sp105_at k) hv (by decide))
theorem sf_m_endsThought {h0 : PH} (i : IM h0) : Sf (mm_endsThought h0) (fun h => IM h) := by
  unfold mm_endsThought
  have := imet (fun h2 => lt (up h2 104 5 0) fun h3 => some h3) (Q := fun h => IM h) (fun g ig => s_lt (fun h3 e3 => s_some (by rw [e3]; exact im_put ig (show sp 104 5 = (0, 1) from rfl) ⟨by decide, by decide⟩ (by decide)))) FU 0 h0 (by unfold FU; omega) (by omega) i
  rw [nI_0] at this
  exact this
/-- the tape -/
theorem im_types (p : Int32) (g : PH) (l : Nat) (i : IM g) (e : g 104 11 = nI l) (hl : l + 4 ≤ 400) : ∃ g', mm_types p g = some g' ∧ g' 104 11 = nI (l + 4) ∧ IM g' := by
  have st : ∀ (h : PH) (v : Int32) (m : Nat), IM h → m < 400 → IM (up (up h 111 m v) 104 11 (nI (m + 1))) := fun h v m ih hm => im_put (im_put ih (show sp 111 m = (-2147483648, 2147483647) from rfl) (r_full v) (by decide)) (show sp 104 11 = (0, 400) from rfl) ⟨by rw [nI_toInt (by omega)]; omega, by rw [nI_toInt (by omega)]; omega⟩ (by decide)
  unfold mm_types
  rw [show FU = 99995 + 1 + 1 + 1 + 1 + 1 from rfl]
  rw [ty_step (by decide) e (by omega), ty_step (l := l + 1) (by decide) (by simp [up_at]) (by omega), ty_step (l := l + 1 + 1) (by decide) (by simp [up_at]) (by omega), ty_step (l := l + 1 + 1 + 1) (by decide) (by simp [up_at]) (by omega), mm_types_L3, if_pos (by decide)]
  exact ⟨_, rfl, by simp [up_at], st _ _ _ (st _ _ _ (st _ _ _ (st _ _ _ i (by omega)) (by omega)) (by omega)) (by omega)⟩
theorem sf_m_feed (a b c d e : Int32) {h0 : PH} (i : IM h0) : Sf (mm_feed a b c d e h0) (fun r => R (-2147483648) 2147483647 r.1 ∧ IM r.2) := by
  unfold mm_feed
  rw [lt_e]
  have i1 : IM (up h0 104 0 0) := im_put i (show sp 104 0 = (-2147483648, 2147483647) from rfl) (r_full _) (by decide)
  have f3 : R 0 400 (up h0 104 0 0 104 11) := inv_rng i1.1 rfl
  refine s_if (fun cc => ?_) (fun _ => s_some ⟨r_full _, i1⟩)
  obtain ⟨l, l1, l2, el⟩ := nat_of (le_hi f3 (show R 380 380 (380 : Int32) from ⟨by decide, by decide⟩) cc) (by decide)
  obtain ⟨h1, p1, q1, j1⟩ := im_types a _ l i1 el (by omega)
  obtain ⟨h2, p2, q2, j2⟩ := im_types b h1 (l + 4) j1 q1 (by omega)
  obtain ⟨h3, p3, q3, j3⟩ := im_types c h2 (l + 4 + 4) j2 q2 (by omega)
  obtain ⟨h4, p4, q4, j4⟩ := im_types d h3 (l + 4 + 4 + 4) j3 q3 (by omega)
  obtain ⟨h5, p5, q5, j5⟩ := im_types e h4 (l + 4 + 4 + 4 + 4) j4 q4 (by omega)
  rw [p1, bd_e, p2, bd_e, p3, bd_e, p4, bd_e, p5, bd_e]
  exact s_some ⟨r_full _, j5⟩
end
