/-! SAFETY of the model's image, ahead of the law. Printed by wip/gen/pimg.py -/
def IMP (p : Nat) (t : Int32) (h : PH) : Prop := IM h ∧ h 104 73 = nI p ∧ h 104 71 = t
theorem im_img {h : PH} {p : Nat} {v : Int32} (i : IM h) (hp : p < 985) (f : R (sp 148 p).1 (sp 148 p).2 v) : IM (up h 148 p v) := by
  obtain ⟨i1, i2, i3⟩ := i
  have ne : ∀ x, ¬ x = 148 → up h 148 p v x = h x := fun x hx => by funext k; simp [up_at, hx]
  refine ⟨inv_up i1 f, ?_, ?_⟩
  · unfold LawOK
    rw [ne 113 (by decide), ne 115 (by decide), ne 116 (by decide), ne 117 (by decide), ne 118 (by decide), ne 119 (by decide)]
    exact i2
  · have nj : ∀ q, 985 ≤ q → up h 148 p v 148 q = h 148 q := fun q hq => up_oj (by omega)
    unfold LawImg
    have e1 : (fun l => up h 148 p v 148 (986 + 4 * l + 1)) = fun l => h 148 (986 + 4 * l + 1) := funext fun l => nj _ (by omega)
    have e2 : (fun l => up h 148 p v 148 (986 + 4 * l + 2)) = fun l => h 148 (986 + 4 * l + 2) := funext fun l => nj _ (by omega)
    have e3 : (fun l => up h 148 p v 148 (986 + 4 * l + 3)) = fun l => h 148 (986 + 4 * l + 3) := funext fun l => nj _ (by omega)
    have e4 : (fun l => up h 148 p v 148 (1050 + 2 * l)) = fun l => h 148 (1050 + 2 * l) := funext fun l => nj _ (by omega)
    have e5 : (fun l => up h 148 p v 148 (1050 + 2 * l + 1)) = fun l => h 148 (1050 + 2 * l + 1) := funext fun l => nj _ (by omega)
    rw [e1, e2, e3, e4, e5, nj 985 (by omega)]
    exact i3
theorem kp_at (h : PH) (p : Nat) (v : Int32) (hp : p < 2400) (e : h 104 73 = nI p) : mm_keeps v h = if h 104 71 = 0 then some (h 148 p, up h 104 73 (nI (p + 1))) else some (v, up (up h 104 73 (nI (p + 1))) 148 p v) := by
  unfold mm_keeps
  rw [lt_e, e, nI_1]
  have e1 : up h 104 73 (nI (p + 1)) 104 71 = h 104 71 := up_oj (by decide)
  have e2 : up h 104 73 (nI (p + 1)) 104 73 = nI (p + 1) := up_same
  have e3 : ∀ q, up h 104 73 (nI (p + 1)) 148 q = h 148 q := fun q => up_oc (by decide)
  rw [e1, e2, nI_pred, show ix (nI p) = p from nI_clamp (by omega), e3]
  have ck1 : ∀ {ρ : Type} (q : Option ρ), ck (nI p) 2400 q = q := fun q => ck_nI hp (by decide)
  simp only [ck1, lt_e]
theorem imp_keep {h : PH} {C J p : Nat} {t : Int32} (st : IMP p t h) (hp : p < 985) (es : sp C J = sp 148 p) (hC : (C < 113 ∨ 119 < C) ∧ ¬ C = 148) (hJ : C = 104 → J ≠ 73 ∧ J ≠ 71) : ∃ r h2, mm_keeps (h C J) h = some (r, h2) ∧ IMP (p + 1) t (up h2 C J r) := by
  obtain ⟨i, e, et⟩ := st
  have i1 : IM (up h 104 73 (nI (p + 1))) := im_put i (show sp 104 73 = (-2147483648, 2147483647) from rfl) (r_full _) (by decide)
  have fin : ∀ (g : PH) (r : Int32), IM g → g 104 73 = nI (p + 1) → g 104 71 = t → R (sp C J).1 (sp C J).2 r → IMP (p + 1) t (up g C J r) := fun g r ig e1 e2 f => by
    refine ⟨im_put ig (show sp C J = ((sp C J).1, (sp C J).2) from rfl) f hC, ?_, ?_⟩
    · rw [up_at]
      by_cases q : 104 = C
      · rw [if_pos q, if_neg (fun w => (hJ q.symm).1 w.symm), ← q]; exact e1
      · rw [if_neg q]; exact e1
    · rw [up_at]
      by_cases q : 104 = C
      · rw [if_pos q, if_neg (fun w => (hJ q.symm).2 w.symm), ← q]; exact e2
      · rw [if_neg q]; exact e2
  have k1 : up h 104 73 (nI (p + 1)) 104 73 = nI (p + 1) := up_same
  have k2 : up h 104 73 (nI (p + 1)) 104 71 = t := by rw [up_oj (by decide)]; exact et
  rw [kp_at h p _ (by omega) e]
  by_cases c : h 104 71 = 0
  · rw [if_pos c]
    refine ⟨_, _, rfl, fin _ _ i1 k1 k2 ?_⟩
    rw [es]
    exact i.1 148 p
  · rw [if_neg c]
    refine ⟨_, _, rfl, fin _ _ (im_img i1 hp ?_) (by rw [up_oc (by decide)]; exact k1) (by rw [up_oc (by decide)]; exact k2) (i.1 C J)⟩
    rw [← es]
    exact i.1 C J
theorem s_keep0 {ρ : Type} {Q : ρ → Prop} {h : PH} {C J p : Nat} {t : Int32} {K : PH → Option ρ} (st : IMP p t h) (hp : p < 985) (es : sp C J = sp 148 p) (hC : (C < 113 ∨ 119 < C) ∧ ¬ C = 148) (hJ : C = 104 → J ≠ 73 ∧ J ≠ 71) (hK : ∀ h3, IMP (p + 1) t h3 → Sf (K h3) Q) : Sf (bd2 (mm_keeps (h C J) h) fun r h2 => lt (up h2 C J r) fun h3 => K h3) Q := by
  obtain ⟨r, h2, e1, s1⟩ := imp_keep st hp es hC hJ
  rw [e1, bd2_e, lt_e]
  exact hK _ s1
theorem s_keepA {ρ : Type} {Q : ρ → Prop} {h : PH} {C J p N : Nat} {v t : Int32} {K : PH → Option ρ} (st : IMP p t h) (hp : p < 985) (es : sp C J = sp 148 p) (hC : (C < 113 ∨ 119 < C) ∧ ¬ C = 148) (hJ : C = 104 → J ≠ 73 ∧ J ≠ 71) (hc : vp_in v N) (hK : ∀ h3, IMP (p + 1) t h3 → Sf (K h3) Q) : Sf (bd2 (mm_keeps (h C J) h) fun r h2 => ck v N <| lt (up h2 C J r) fun h3 => K h3) Q := by
  obtain ⟨r, h2, e1, s1⟩ := imp_keep st hp es hC hJ
  rw [e1, bd2_e, ck_in hc, lt_e]
  exact hK _ s1
theorem tb_now_0 : ∀ k, k < 115 → sp 105 k = sp 148 (0 + 1 * k + 0) := by decide +kernel
theorem kl_now (t : Int32) (p1 : Int32) (k0 : PH → Option (Int32 × PH)) {Q : Int32 × PH → Prop} (hk : ∀ g, IMP 115 t g → Sf (k0 g) Q) : ∀ (n k : Nat) (h : PH), 115 < n + k → k ≤ 115 → IMP (0 + 1 * k) t h → Sf (mm_image_L35 p1 k0 n (nI k) h) Q := by
  intro n
  induction n with
  | zero => intro k h h1 h2; omega
  | succ n ih =>
    intro k h h1 h2 st
    rw [mm_image_L35]
    by_cases hk1 : k = 115
    · subst hk1
      rw [if_pos (show (115 : Int32) ≤ nI 115 by decide)]
      exact hk h st
    · rw [if_neg (show ¬ (115 : Int32) ≤ nI k from nI_ge (b := 115) (by omega) (by omega))]
      have ixk : ix (nI k) = k := nI_clamp (by omega)
      simp only [ixk]
      rw [ck_nI (by omega) (by omega)]
      refine s_keepA st (by omega) (tb_now_0 k (by omega)) (by decide) (fun q => by omega) (vp_in_nI (by omega) (by omega)) (fun h3 st => ?_)
      rw [nI_1]
      exact ih (k + 1) h3 (by omega) (by omega) st
theorem sf_many (t : Int32) {h0 : PH} (st : IMP 115 t h0) : Sf (mm_keepsMany h0) (fun g => IMP 127 t g) := by
  unfold mm_keepsMany
  refine s_keep0 (p := 115) st (by decide) rfl (by decide) (fun _ => by decide) (fun h3 st => ?_)
  refine s_keep0 (p := 116) st (by decide) rfl (by decide) (fun _ => by decide) (fun h3 st => ?_)
  refine s_keep0 (p := 117) st (by decide) rfl (by decide) (fun _ => by decide) (fun h3 st => ?_)
  refine s_keep0 (p := 118) st (by decide) rfl (by decide) (fun _ => by decide) (fun h3 st => ?_)
  refine s_keep0 (p := 119) st (by decide) rfl (by decide) (fun _ => by decide) (fun h3 st => ?_)
  refine s_keep0 (p := 120) st (by decide) rfl (by decide) (fun _ => by decide) (fun h3 st => ?_)
  refine s_keep0 (p := 121) st (by decide) rfl (by decide) (fun _ => by decide) (fun h3 st => ?_)
  refine s_keep0 (p := 122) st (by decide) rfl (by decide) (fun _ => by decide) (fun h3 st => ?_)
  refine s_keep0 (p := 123) st (by decide) rfl (by decide) (fun _ => by decide) (fun h3 st => ?_)
  refine s_keep0 (p := 124) st (by decide) rfl (by decide) (fun _ => by decide) (fun h3 st => ?_)
  refine s_keep0 (p := 125) st (by decide) rfl (by decide) (fun _ => by decide) (fun h3 st => ?_)
  refine s_keep0 (p := 126) st (by decide) rfl (by decide) (fun _ => by decide) (fun h3 st => ?_)
  exact s_some st
theorem tb_hou_0 : ∀ k, k < 12 → sp 108 k = sp 148 (127 + 4 * k + 0) := by decide +kernel
theorem tb_hou_1 : ∀ k, k < 12 → sp 109 k = sp 148 (127 + 4 * k + 1) := by decide +kernel
theorem tb_hou_2 : ∀ k, k < 12 → sp 123 k = sp 148 (127 + 4 * k + 2) := by decide +kernel
theorem tb_hou_3 : ∀ k, k < 12 → sp 141 k = sp 148 (127 + 4 * k + 3) := by decide +kernel
theorem kl_hou (t : Int32) (k0 : PH → Option (PH)) {Q : PH → Prop} (hk : ∀ g, IMP 175 t g → Sf (k0 g) Q) : ∀ (n k : Nat) (h : PH), 12 < n + k → k ≤ 12 → IMP (127 + 4 * k) t h → Sf (mm_keepsTold_L2 k0 n (nI k) h) Q := by
  intro n
  induction n with
  | zero => intro k h h1 h2; omega
  | succ n ih =>
    intro k h h1 h2 st
    rw [mm_keepsTold_L2]
    by_cases hk1 : k = 12
    · subst hk1
      rw [if_pos (show (12 : Int32) ≤ nI 12 by decide)]
      exact hk h st
    · rw [if_neg (show ¬ (12 : Int32) ≤ nI k from nI_ge (b := 12) (by omega) (by omega))]
      have ixk : ix (nI k) = k := nI_clamp (by omega)
      simp only [ixk]
      rw [ck_nI (by omega) (by omega)]
      refine s_keepA st (by omega) (tb_hou_0 k (by omega)) (by decide) (fun q => by omega) (vp_in_nI (by omega) (by omega)) (fun h3 st => ?_)
      rw [ck_nI (by omega) (by omega)]
      refine s_keepA st (by omega) (tb_hou_1 k (by omega)) (by decide) (fun q => by omega) (vp_in_nI (by omega) (by omega)) (fun h3 st => ?_)
      rw [ck_nI (by omega) (by omega)]
      refine s_keepA st (by omega) (tb_hou_2 k (by omega)) (by decide) (fun q => by omega) (vp_in_nI (by omega) (by omega)) (fun h3 st => ?_)
      rw [ck_nI (by omega) (by omega)]
      refine s_keepA st (by omega) (tb_hou_3 k (by omega)) (by decide) (fun q => by omega) (vp_in_nI (by omega) (by omega)) (fun h3 st => ?_)
      rw [nI_1]
      exact ih (k + 1) h3 (by omega) (by omega) st
theorem tb_pie_0 : ∀ k, k < 9 → sp 127 k = sp 148 (175 + 1 * k + 0) := by decide +kernel
theorem kl_pie (t : Int32) (k0 : PH → Option (PH)) {Q : PH → Prop} (hk : ∀ g, IMP 184 t g → Sf (k0 g) Q) : ∀ (n k : Nat) (h : PH), 9 < n + k → k ≤ 9 → IMP (175 + 1 * k) t h → Sf (mm_keepsTold_L80 k0 n (nI k) h) Q := by
  intro n
  induction n with
  | zero => intro k h h1 h2; omega
  | succ n ih =>
    intro k h h1 h2 st
    rw [mm_keepsTold_L80]
    by_cases hk1 : k = 9
    · subst hk1
      rw [if_pos (show (9 : Int32) ≤ nI 9 by decide)]
      exact hk h st
    · rw [if_neg (show ¬ (9 : Int32) ≤ nI k from nI_ge (b := 9) (by omega) (by omega))]
      have ixk : ix (nI k) = k := nI_clamp (by omega)
      simp only [ixk]
      rw [ck_nI (by omega) (by omega)]
      refine s_keepA st (by omega) (tb_pie_0 k (by omega)) (by decide) (fun q => by omega) (vp_in_nI (by omega) (by omega)) (fun h3 st => ?_)
      rw [nI_1]
      exact ih (k + 1) h3 (by omega) (by omega) st
theorem tb_dou_0 : ∀ k, k < 8 → sp 129 k = sp 148 (184 + 5 * k + 0) := by decide +kernel
theorem tb_dou_1 : ∀ k, k < 8 → sp 133 k = sp 148 (184 + 5 * k + 1) := by decide +kernel
theorem tb_dou_2 : ∀ k, k < 8 → sp 134 k = sp 148 (184 + 5 * k + 2) := by decide +kernel
theorem tb_dou_3 : ∀ k, k < 8 → sp 144 k = sp 148 (184 + 5 * k + 3) := by decide +kernel
theorem tb_dou_4 : ∀ k, k < 8 → sp 145 k = sp 148 (184 + 5 * k + 4) := by decide +kernel
theorem kl_dou (t : Int32) (k0 : PH → Option (PH)) {Q : PH → Prop} (hk : ∀ g, IMP 224 t g → Sf (k0 g) Q) : ∀ (n k : Nat) (h : PH), 8 < n + k → k ≤ 8 → IMP (184 + 5 * k) t h → Sf (mm_keepsTold_L110 k0 n (nI k) h) Q := by
  intro n
  induction n with
  | zero => intro k h h1 h2; omega
  | succ n ih =>
    intro k h h1 h2 st
    rw [mm_keepsTold_L110]
    by_cases hk1 : k = 8
    · subst hk1
      rw [if_pos (show (8 : Int32) ≤ nI 8 by decide)]
      exact hk h st
    · rw [if_neg (show ¬ (8 : Int32) ≤ nI k from nI_ge (b := 8) (by omega) (by omega))]
      have ixk : ix (nI k) = k := nI_clamp (by omega)
      simp only [ixk]
      rw [ck_nI (by omega) (by omega)]
      refine s_keepA st (by omega) (tb_dou_0 k (by omega)) (by decide) (fun q => by omega) (vp_in_nI (by omega) (by omega)) (fun h3 st => ?_)
      rw [ck_nI (by omega) (by omega)]
      refine s_keepA st (by omega) (tb_dou_1 k (by omega)) (by decide) (fun q => by omega) (vp_in_nI (by omega) (by omega)) (fun h3 st => ?_)
      rw [ck_nI (by omega) (by omega)]
      refine s_keepA st (by omega) (tb_dou_2 k (by omega)) (by decide) (fun q => by omega) (vp_in_nI (by omega) (by omega)) (fun h3 st => ?_)
      rw [ck_nI (by omega) (by omega)]
      refine s_keepA st (by omega) (tb_dou_3 k (by omega)) (by decide) (fun q => by omega) (vp_in_nI (by omega) (by omega)) (fun h3 st => ?_)
      rw [ck_nI (by omega) (by omega)]
      refine s_keepA st (by omega) (tb_dou_4 k (by omega)) (by decide) (fun q => by omega) (vp_in_nI (by omega) (by omega)) (fun h3 st => ?_)
      rw [nI_1]
      exact ih (k + 1) h3 (by omega) (by omega) st
theorem tb_mar_0 : ∀ k, k < 5 → sp 132 k = sp 148 (224 + 1 * k + 0) := by decide +kernel
theorem kl_mar (t : Int32) (k0 : PH → Option (PH)) {Q : PH → Prop} (hk : ∀ g, IMP 229 t g → Sf (k0 g) Q) : ∀ (n k : Nat) (h : PH), 5 < n + k → k ≤ 5 → IMP (224 + 1 * k) t h → Sf (mm_keepsTold_L204 k0 n (nI k) h) Q := by
  intro n
  induction n with
  | zero => intro k h h1 h2; omega
  | succ n ih =>
    intro k h h1 h2 st
    rw [mm_keepsTold_L204]
    by_cases hk1 : k = 5
    · subst hk1
      rw [if_pos (show (5 : Int32) ≤ nI 5 by decide)]
      exact hk h st
    · rw [if_neg (show ¬ (5 : Int32) ≤ nI k from nI_ge (b := 5) (by omega) (by omega))]
      have ixk : ix (nI k) = k := nI_clamp (by omega)
      simp only [ixk]
      rw [ck_nI (by omega) (by omega)]
      refine s_keepA st (by omega) (tb_mar_0 k (by omega)) (by decide) (fun q => by omega) (vp_in_nI (by omega) (by omega)) (fun h3 st => ?_)
      rw [nI_1]
      exact ih (k + 1) h3 (by omega) (by omega) st
theorem tb_way_0 : ∀ k, k < 16 → sp 135 k = sp 148 (229 + 1 * k + 0) := by decide +kernel
theorem kl_way (t : Int32) (k0 : PH → Option (PH)) {Q : PH → Prop} (hk : ∀ g, IMP 245 t g → Sf (k0 g) Q) : ∀ (n k : Nat) (h : PH), 16 < n + k → k ≤ 16 → IMP (229 + 1 * k) t h → Sf (mm_keepsTold_L233 k0 n (nI k) h) Q := by
  intro n
  induction n with
  | zero => intro k h h1 h2; omega
  | succ n ih =>
    intro k h h1 h2 st
    rw [mm_keepsTold_L233]
    by_cases hk1 : k = 16
    · subst hk1
      rw [if_pos (show (16 : Int32) ≤ nI 16 by decide)]
      exact hk h st
    · rw [if_neg (show ¬ (16 : Int32) ≤ nI k from nI_ge (b := 16) (by omega) (by omega))]
      have ixk : ix (nI k) = k := nI_clamp (by omega)
      simp only [ixk]
      rw [ck_nI (by omega) (by omega)]
      refine s_keepA st (by omega) (tb_way_0 k (by omega)) (by decide) (fun q => by omega) (vp_in_nI (by omega) (by omega)) (fun h3 st => ?_)
      rw [nI_1]
      exact ih (k + 1) h3 (by omega) (by omega) st
theorem tb_loa_0 : ∀ k, k < 6 → sp 137 k = sp 148 (245 + 2 * k + 0) := by decide +kernel
theorem tb_loa_1 : ∀ k, k < 6 → sp 138 k = sp 148 (245 + 2 * k + 1) := by decide +kernel
theorem kl_loa (t : Int32) (k0 : PH → Option (PH)) {Q : PH → Prop} (hk : ∀ g, IMP 257 t g → Sf (k0 g) Q) : ∀ (n k : Nat) (h : PH), 6 < n + k → k ≤ 6 → IMP (245 + 2 * k) t h → Sf (mm_keepsTold_L263 k0 n (nI k) h) Q := by
  intro n
  induction n with
  | zero => intro k h h1 h2; omega
  | succ n ih =>
    intro k h h1 h2 st
    rw [mm_keepsTold_L263]
    by_cases hk1 : k = 6
    · subst hk1
      rw [if_pos (show (6 : Int32) ≤ nI 6 by decide)]
      exact hk h st
    · rw [if_neg (show ¬ (6 : Int32) ≤ nI k from nI_ge (b := 6) (by omega) (by omega))]
      have ixk : ix (nI k) = k := nI_clamp (by omega)
      simp only [ixk]
      rw [ck_nI (by omega) (by omega)]
      refine s_keepA st (by omega) (tb_loa_0 k (by omega)) (by decide) (fun q => by omega) (vp_in_nI (by omega) (by omega)) (fun h3 st => ?_)
      rw [ck_nI (by omega) (by omega)]
      refine s_keepA st (by omega) (tb_loa_1 k (by omega)) (by decide) (fun q => by omega) (vp_in_nI (by omega) (by omega)) (fun h3 st => ?_)
      rw [nI_1]
      exact ih (k + 1) h3 (by omega) (by omega) st
theorem tb_sky_0 : ∀ k, k < 48 → sp 121 k = sp 148 (257 + 1 * k + 0) := by decide +kernel
theorem kl_sky (t : Int32) (k0 : PH → Option (PH)) {Q : PH → Prop} (hk : ∀ g, IMP 305 t g → Sf (k0 g) Q) : ∀ (n k : Nat) (h : PH), 48 < n + k → k ≤ 48 → IMP (257 + 1 * k) t h → Sf (mm_keepsTold_L309 k0 n (nI k) h) Q := by
  intro n
  induction n with
  | zero => intro k h h1 h2; omega
  | succ n ih =>
    intro k h h1 h2 st
    rw [mm_keepsTold_L309]
    by_cases hk1 : k = 48
    · subst hk1
      rw [if_pos (show (48 : Int32) ≤ nI 48 by decide)]
      exact hk h st
    · rw [if_neg (show ¬ (48 : Int32) ≤ nI k from nI_ge (b := 48) (by omega) (by omega))]
      have ixk : ix (nI k) = k := nI_clamp (by omega)
      simp only [ixk]
      rw [ck_nI (by omega) (by omega)]
      refine s_keepA st (by omega) (tb_sky_0 k (by omega)) (by decide) (fun q => by omega) (vp_in_nI (by omega) (by omega)) (fun h3 st => ?_)
      rw [nI_1]
      exact ih (k + 1) h3 (by omega) (by omega) st
theorem tb_dee_0 : ∀ k, k < 80 → sp 122 k = sp 148 (305 + 1 * k + 0) := by decide +kernel
theorem kl_dee (t : Int32) : ∀ (n k : Nat) (h : PH), 80 < n + k → k ≤ 80 → IMP (305 + 1 * k) t h → Sf (mm_keepsTold_L339 n (nI k) h) (fun g => IMP 385 t g) := by
  intro n
  induction n with
  | zero => intro k h h1 h2; omega
  | succ n ih =>
    intro k h h1 h2 st
    rw [mm_keepsTold_L339]
    by_cases hk1 : k = 80
    · subst hk1
      rw [if_pos (show (80 : Int32) ≤ nI 80 by decide)]
      exact s_some st
    · rw [if_neg (show ¬ (80 : Int32) ≤ nI k from nI_ge (b := 80) (by omega) (by omega))]
      have ixk : ix (nI k) = k := nI_clamp (by omega)
      simp only [ixk]
      rw [ck_nI (by omega) (by omega)]
      refine s_keepA st (by omega) (tb_dee_0 k (by omega)) (by decide) (fun q => by omega) (vp_in_nI (by omega) (by omega)) (fun h3 st => ?_)
      rw [nI_1]
      exact ih (k + 1) h3 (by omega) (by omega) st
theorem fu0 (t : Int32) : True := trivial
theorem sf_told (t : Int32) {h0 : PH} (st : IMP 127 t h0) : Sf (mm_keepsTold h0) (fun g => IMP 385 t g) := by
  unfold mm_keepsTold
  refine kl_hou t _ (fun g st => ?_) FU 0 _ (by unfold FU; omega) (by omega) st
  refine kl_pie t _ (fun g st => ?_) FU 0 _ (by unfold FU; omega) (by omega) st
  refine kl_dou t _ (fun g st => ?_) FU 0 _ (by unfold FU; omega) (by omega) st
  refine kl_mar t _ (fun g st => ?_) FU 0 _ (by unfold FU; omega) (by omega) st
  refine kl_way t _ (fun g st => ?_) FU 0 _ (by unfold FU; omega) (by omega) st
  refine kl_loa t _ (fun g st => ?_) FU 0 _ (by unfold FU; omega) (by omega) st
  refine kl_sky t _ (fun g st => ?_) FU 0 _ (by unfold FU; omega) (by omega) st
  exact kl_dee t FU 0 _ (by unfold FU; omega) (by omega) st
theorem tb_boo_0 : ∀ k, k < 600 → sp 110 k = sp 148 (385 + 1 * k + 0) := by decide +kernel
theorem kl_boo (t : Int32) (p1 : Int32) (k0 : PH → Option (Int32 × PH)) {Q : Int32 × PH → Prop} (hk : ∀ g, IMP 985 t g → Sf (k0 g) Q) : ∀ (n k : Nat) (h : PH), 600 < n + k → k ≤ 600 → IMP (385 + 1 * k) t h → Sf (mm_image_L73 p1 k0 n (nI k) h) Q := by
  intro n
  induction n with
  | zero => intro k h h1 h2; omega
  | succ n ih =>
    intro k h h1 h2 st
    rw [mm_image_L73]
    by_cases hk1 : k = 600
    · subst hk1
      rw [if_pos (show (600 : Int32) ≤ nI 600 by decide)]
      exact hk h st
    · rw [if_neg (show ¬ (600 : Int32) ≤ nI k from nI_ge (b := 600) (by omega) (by omega))]
      have ixk : ix (nI k) = k := nI_clamp (by omega)
      simp only [ixk]
      rw [ck_nI (by omega) (by omega)]
      refine s_keepA st (by omega) (tb_boo_0 k (by omega)) (by decide) (fun q => by omega) (vp_in_nI (by omega) (by omega)) (fun h3 st => ?_)
      rw [nI_1]
      exact ih (k + 1) h3 (by omega) (by omega) st
