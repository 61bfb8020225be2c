section
/-! THE MODEL'S IMAGE: what it holds. Position p of its row is the slot pm p. Printed by wip/gen/pimc.py -/
def pm (p : Nat) : Nat × Nat :=
  if p < 115 then (105, p) else
  if p < 127 then (104, [6, 33, 35, 37, 42, 45, 49, 51, 54, 57, 62, 66].getD (p - 115) 0) else
  if p < 175 then ([108, 109, 123, 141].getD ((p - 127) % 4) 0, (p - 127) / 4) else
  if p < 184 then (127, p - 175) else
  if p < 224 then ([129, 133, 134, 144, 145].getD ((p - 184) % 5) 0, (p - 184) / 5) else
  if p < 229 then (132, p - 224) else
  if p < 245 then (135, p - 229) else
  if p < 257 then ([137, 138].getD ((p - 245) % 2) 0, (p - 245) / 2) else
  if p < 305 then (121, p - 257) else
  if p < 385 then (122, p - 305) else
  if p < 985 then (110, p - 385) else
  if p < 986 then (113, 0) else
  if p < 1050 then ([114, 115, 116, 117].getD ((p - 986) % 4) 0, (p - 986) / 4) else
  ([118, 119].getD ((p - 1050) % 2) 0, (p - 1050) / 2)
def pv (c j : Nat) : Nat :=
  if c = 105 then j else
  if c = 104 then 115 + [6, 33, 35, 37, 42, 45, 49, 51, 54, 57, 62, 66].idxOf j else
  if c = 108 then 127 + 4 * j else if c = 109 then 128 + 4 * j else if c = 123 then 129 + 4 * j else if c = 141 then 130 + 4 * j else
  if c = 127 then 175 + j else
  if c = 129 then 184 + 5 * j else if c = 133 then 185 + 5 * j else if c = 134 then 186 + 5 * j else if c = 144 then 187 + 5 * j else if c = 145 then 188 + 5 * j else
  if c = 132 then 224 + j else if c = 135 then 229 + j else
  if c = 137 then 245 + 2 * j else if c = 138 then 246 + 2 * j else
  if c = 121 then 257 + j else if c = 122 then 305 + j else if c = 110 then 385 + j else
  if c = 113 then 985 else
  if c = 114 then 986 + 4 * j else if c = 115 then 987 + 4 * j else if c = 116 then 988 + 4 * j else if c = 117 then 989 + 4 * j else
  if c = 118 then 1050 + 2 * j else 1051 + 2 * j
theorem pv_pm : ∀ p, p < 1850 → pv (pm p).1 (pm p).2 = p := by decide +kernel
theorem pm_ok : ∀ p, p < 1850 → (pm p).1 ≠ 148 ∧ ((pm p).1 = 104 → (pm p).2 ≠ 73 ∧ (pm p).2 ≠ 71 ∧ (pm p).2 ≠ 72 ∧ (pm p).2 ≠ 0 ∧ (pm p).2 ≠ 3) := by decide +kernel
theorem pm_inj {p q : Nat} (hp : p < 1850) (hq : q < 1850) (h : p ≠ q) : (pm q).1 ≠ (pm p).1 ∨ (pm q).2 ≠ (pm p).2 := by
  by_cases e1 : (pm q).1 = (pm p).1
  · refine Or.inr (fun e2 => h ?_)
    rw [← pv_pm p hp, ← pv_pm q hq, e1, e2]
  · exact Or.inl e1
/-- the image's state ahead of position p; o: the heap it began with -/
def SI (o : PH) (t : Int32) (p : Nat) (g : PH) : Prop := g 104 73 = nI p ∧ g 104 71 = t ∧ g 104 72 = 1 ∧ (¬ t = 0 → (∀ q, q < p → g 148 q = o (pm q).1 (pm q).2) ∧ ∀ b j, b ≠ 148 → (b = 104 → j ≠ 73) → g b j = o b j) ∧ (t = 0 → (∀ q, q < p → g (pm q).1 (pm q).2 = o 148 q) ∧ g 148 = o 148)
theorem up_ne {h : PH} {c j b i : Nat} {v : Int32} (hb : b ≠ c ∨ i ≠ j) : up h c j v b i = h b i := by
  rw [up_at]
  by_cases e : b = c
  · rw [if_pos e]
    by_cases e2 : i = j
    · exact absurd e2 (by rcases hb with q | q; exact absurd e q; exact q)
    · rw [if_neg e2, e]
  · rw [if_neg e]
theorem si_step {o g : PH} {t : Int32} {p C J : Nat} (st : SI o t p g) (hp : p < 1850) (hpm : pm p = (C, J)) : ∃ r g2, mm_keeps (g C J) g = some (r, g2) ∧ SI o t (p + 1) (up g2 C J r) := by
  obtain ⟨e, et, e72, s1, s2⟩ := st
  have ok := pm_ok p hp
  rw [hpm] at ok
  have oC : C ≠ 148 := ok.1
  have oJ : C = 104 → J ≠ 73 ∧ J ≠ 71 ∧ J ≠ 72 := fun q => ⟨(ok.2 q).1, (ok.2 q).2.1, (ok.2 q).2.2.1⟩
  rw [kp_at g p _ (by omega) e]
  have n73 : ∀ (g2 : PH) (r : Int32) (x : Nat), (x = 73 ∨ x = 71 ∨ x = 72) → up g2 C J r 104 x = g2 104 x := fun g2 r x hx => up_ne (by
    by_cases q : 104 = C
    · have := oJ q.symm
      omega
    · exact Or.inl q)
  by_cases c : g 104 71 = 0
  · rw [if_pos c]
    have t0 : t = 0 := by rw [← et]; exact c
    refine ⟨_, _, rfl, ?_, ?_, ?_, fun q => absurd t0 q, fun _ => ⟨fun q hq => ?_, ?_⟩⟩
    · rw [n73 _ _ 73 (Or.inl rfl), up_same]
    · rw [n73 _ _ 71 (Or.inr (Or.inl rfl)), up_oj (by decide)]; exact et
    · rw [n73 _ _ 72 (Or.inr (Or.inr rfl)), up_oj (by decide)]; exact e72
    · by_cases eq : q = p
      · subst eq
        rw [hpm, up_same, (s2 t0).2]
      · have ne := pm_inj hp (q := q) (by omega) (fun w => eq w.symm)
        rw [hpm] at ne
        rw [up_ne ne, up_ne ?_]
        · exact (s2 t0).1 q (by omega)
        · by_cases q4 : (pm q).1 = 104
          · exact Or.inr ((pm_ok q (by omega)).2 q4).1
          · exact Or.inl q4
    · rw [← (s2 t0).2]
      funext j
      rw [up_oc (fun q => oC q.symm), up_oc (by decide)]
  · rw [if_neg c]
    have t0 : ¬ t = 0 := by rw [← et]; exact c
    refine ⟨_, _, rfl, ?_, ?_, ?_, fun _ => ⟨fun q hq => ?_, fun b j hb hj => ?_⟩, fun q => absurd q t0⟩
    · rw [n73 _ _ 73 (Or.inl rfl), up_oc (by decide), up_same]
    · rw [n73 _ _ 71 (Or.inr (Or.inl rfl)), up_oc (by decide), up_oj (by decide)]; exact et
    · rw [n73 _ _ 72 (Or.inr (Or.inr rfl)), up_oc (by decide), up_oj (by decide)]; exact e72
    · rw [up_oc (fun q => oC q.symm)]
      by_cases eq : q = p
      · subst eq
        rw [up_same, hpm]
        exact (s1 t0).2 C J oC (fun q => (oJ q).1)
      · rw [up_oj eq, up_oc (by decide)]
        exact (s1 t0).1 q (by omega)
    · by_cases eb : b = C ∧ j = J
      · rw [eb.1, eb.2, up_same]
        exact (s1 t0).2 C J oC (fun q => (oJ q).1)
      · rw [up_ne (by
          by_cases e1 : b = C
          · exact Or.inr (fun e2 => eb ⟨e1, e2⟩)
          · exact Or.inl e1), up_oc hb, up_ne (by
          by_cases e1 : b = 104
          · exact Or.inr (hj e1)
          · exact Or.inl e1)]
        exact (s1 t0).2 b j hb hj
theorem si0 {ρ : Type} {Q : ρ → Prop} {o h : PH} {C J p : Nat} {t : Int32} {K : PH → Option ρ} (st : SI o t p h) (hp : p < 1850) (hpm : pm p = (C, J)) (hK : ∀ h3, SI o t (p + 1) h3 → Sf (K h3) Q) : Sf (bd2 (mm_keeps (h C J) h) fun r h2 => lt (up h2 C J r) fun h3 => K h3) Q := by
  obtain ⟨r, h2, e1, s1⟩ := si_step st hp hpm
  rw [e1, bd2_e, lt_e]
  exact hK _ s1
theorem siA {ρ : Type} {Q : ρ → Prop} {o h : PH} {C J p N : Nat} {v t : Int32} {K : PH → Option ρ} (st : SI o t p h) (hp : p < 1850) (hpm : pm p = (C, J)) (hc : vp_in v N) (hK : ∀ h3, SI o t (p + 1) h3 → Sf (K h3) Q) : Sf (bd2 (mm_keeps (h C J) h) fun r h2 => ck v N <| lt (up h2 C J r) fun h3 => K h3) Q := by
  obtain ⟨r, h2, e1, s1⟩ := si_step st hp hpm
  rw [e1, bd2_e, ck_in hc, lt_e]
  exact hK _ s1
theorem pb_now_0 : ∀ k, k < 115 → pm (0 + 1 * k + 0) = (105, k) := by decide +kernel
theorem kc_now (o : PH) (t : Int32) (p1 : Int32) (k0 : PH → Option (Int32 × PH)) {Q : Int32 × PH → Prop} (hk : ∀ g, SI o t 115 g → Sf (k0 g) Q) : ∀ (n k : Nat) (h : PH), 115 < n + k → k ≤ 115 → SI o t (0 + 1 * k) h → Sf (mm_image_L35 p1 k0 n (nI k) h) Q := by
  intro n
  induction n with
  | zero => intro k h h1 h2; omega
  | succ n ih =>
    intro k h h1 h2 st
    rw [mm_image_L35]
    by_cases hk1 : k = 115
    · subst hk1
      rw [if_pos (show (115 : Int32) ≤ nI 115 by decide)]
      exact hk h st
    · rw [if_neg (show ¬ (115 : Int32) ≤ nI k from nI_ge (b := 115) (by omega) (by omega))]
      have ixk : ix (nI k) = k := nI_clamp (by omega)
      simp only [ixk]
      rw [ck_nI (by omega) (by omega)]
      refine siA st (by omega) (pb_now_0 k (by omega)) (vp_in_nI (by omega) (by omega)) (fun h3 st => ?_)
      rw [nI_1]
      exact ih (k + 1) h3 (by omega) (by omega) st
theorem kc_many (o : PH) (t : Int32) {h0 : PH} (st : SI o t 115 h0) : Sf (mm_keepsMany h0) (fun g => SI o t 127 g) := by
  unfold mm_keepsMany
  refine si0 (p := 115) st (by decide) rfl (fun h3 st => ?_)
  refine si0 (p := 116) st (by decide) rfl (fun h3 st => ?_)
  refine si0 (p := 117) st (by decide) rfl (fun h3 st => ?_)
  refine si0 (p := 118) st (by decide) rfl (fun h3 st => ?_)
  refine si0 (p := 119) st (by decide) rfl (fun h3 st => ?_)
  refine si0 (p := 120) st (by decide) rfl (fun h3 st => ?_)
  refine si0 (p := 121) st (by decide) rfl (fun h3 st => ?_)
  refine si0 (p := 122) st (by decide) rfl (fun h3 st => ?_)
  refine si0 (p := 123) st (by decide) rfl (fun h3 st => ?_)
  refine si0 (p := 124) st (by decide) rfl (fun h3 st => ?_)
  refine si0 (p := 125) st (by decide) rfl (fun h3 st => ?_)
  refine si0 (p := 126) st (by decide) rfl (fun h3 st => ?_)
  exact s_some st
theorem pb_hou_0 : ∀ k, k < 12 → pm (127 + 4 * k + 0) = (108, k) := by decide +kernel
theorem pb_hou_1 : ∀ k, k < 12 → pm (127 + 4 * k + 1) = (109, k) := by decide +kernel
theorem pb_hou_2 : ∀ k, k < 12 → pm (127 + 4 * k + 2) = (123, k) := by decide +kernel
theorem pb_hou_3 : ∀ k, k < 12 → pm (127 + 4 * k + 3) = (141, k) := by decide +kernel
theorem kc_hou (o : PH) (t : Int32) (k0 : PH → Option (PH)) {Q : PH → Prop} (hk : ∀ g, SI o t 175 g → Sf (k0 g) Q) : ∀ (n k : Nat) (h : PH), 12 < n + k → k ≤ 12 → SI o t (127 + 4 * k) h → Sf (mm_keepsTold_L2 k0 n (nI k) h) Q := by
  intro n
  induction n with
  | zero => intro k h h1 h2; omega
  | succ n ih =>
    intro k h h1 h2 st
    rw [mm_keepsTold_L2]
    by_cases hk1 : k = 12
    · subst hk1
      rw [if_pos (show (12 : Int32) ≤ nI 12 by decide)]
      exact hk h st
    · rw [if_neg (show ¬ (12 : Int32) ≤ nI k from nI_ge (b := 12) (by omega) (by omega))]
      have ixk : ix (nI k) = k := nI_clamp (by omega)
      simp only [ixk]
      rw [ck_nI (by omega) (by omega)]
      refine siA st (by omega) (pb_hou_0 k (by omega)) (vp_in_nI (by omega) (by omega)) (fun h3 st => ?_)
      rw [ck_nI (by omega) (by omega)]
      refine siA st (by omega) (pb_hou_1 k (by omega)) (vp_in_nI (by omega) (by omega)) (fun h3 st => ?_)
      rw [ck_nI (by omega) (by omega)]
      refine siA st (by omega) (pb_hou_2 k (by omega)) (vp_in_nI (by omega) (by omega)) (fun h3 st => ?_)
      rw [ck_nI (by omega) (by omega)]
      refine siA st (by omega) (pb_hou_3 k (by omega)) (vp_in_nI (by omega) (by omega)) (fun h3 st => ?_)
      rw [nI_1]
      exact ih (k + 1) h3 (by omega) (by omega) st
theorem pb_pie_0 : ∀ k, k < 9 → pm (175 + 1 * k + 0) = (127, k) := by decide +kernel
theorem kc_pie (o : PH) (t : Int32) (k0 : PH → Option (PH)) {Q : PH → Prop} (hk : ∀ g, SI o t 184 g → Sf (k0 g) Q) : ∀ (n k : Nat) (h : PH), 9 < n + k → k ≤ 9 → SI o t (175 + 1 * k) h → Sf (mm_keepsTold_L80 k0 n (nI k) h) Q := by
  intro n
  induction n with
  | zero => intro k h h1 h2; omega
  | succ n ih =>
    intro k h h1 h2 st
    rw [mm_keepsTold_L80]
    by_cases hk1 : k = 9
    · subst hk1
      rw [if_pos (show (9 : Int32) ≤ nI 9 by decide)]
      exact hk h st
    · rw [if_neg (show ¬ (9 : Int32) ≤ nI k from nI_ge (b := 9) (by omega) (by omega))]
      have ixk : ix (nI k) = k := nI_clamp (by omega)
      simp only [ixk]
      rw [ck_nI (by omega) (by omega)]
      refine siA st (by omega) (pb_pie_0 k (by omega)) (vp_in_nI (by omega) (by omega)) (fun h3 st => ?_)
      rw [nI_1]
      exact ih (k + 1) h3 (by omega) (by omega) st
theorem pb_dou_0 : ∀ k, k < 8 → pm (184 + 5 * k + 0) = (129, k) := by decide +kernel
theorem pb_dou_1 : ∀ k, k < 8 → pm (184 + 5 * k + 1) = (133, k) := by decide +kernel
theorem pb_dou_2 : ∀ k, k < 8 → pm (184 + 5 * k + 2) = (134, k) := by decide +kernel
theorem pb_dou_3 : ∀ k, k < 8 → pm (184 + 5 * k + 3) = (144, k) := by decide +kernel
theorem pb_dou_4 : ∀ k, k < 8 → pm (184 + 5 * k + 4) = (145, k) := by decide +kernel
theorem kc_dou (o : PH) (t : Int32) (k0 : PH → Option (PH)) {Q : PH → Prop} (hk : ∀ g, SI o t 224 g → Sf (k0 g) Q) : ∀ (n k : Nat) (h : PH), 8 < n + k → k ≤ 8 → SI o t (184 + 5 * k) h → Sf (mm_keepsTold_L110 k0 n (nI k) h) Q := by
  intro n
  induction n with
  | zero => intro k h h1 h2; omega
  | succ n ih =>
    intro k h h1 h2 st
    rw [mm_keepsTold_L110]
    by_cases hk1 : k = 8
    · subst hk1
      rw [if_pos (show (8 : Int32) ≤ nI 8 by decide)]
      exact hk h st
    · rw [if_neg (show ¬ (8 : Int32) ≤ nI k from nI_ge (b := 8) (by omega) (by omega))]
      have ixk : ix (nI k) = k := nI_clamp (by omega)
      simp only [ixk]
      rw [ck_nI (by omega) (by omega)]
      refine siA st (by omega) (pb_dou_0 k (by omega)) (vp_in_nI (by omega) (by omega)) (fun h3 st => ?_)
      rw [ck_nI (by omega) (by omega)]
      refine siA st (by omega) (pb_dou_1 k (by omega)) (vp_in_nI (by omega) (by omega)) (fun h3 st => ?_)
      rw [ck_nI (by omega) (by omega)]
      refine siA st (by omega) (pb_dou_2 k (by omega)) (vp_in_nI (by omega) (by omega)) (fun h3 st => ?_)
      rw [ck_nI (by omega) (by omega)]
      refine siA st (by omega) (pb_dou_3 k (by omega)) (vp_in_nI (by omega) (by omega)) (fun h3 st => ?_)
      rw [ck_nI (by omega) (by omega)]
      refine siA st (by omega) (pb_dou_4 k (by omega)) (vp_in_nI (by omega) (by omega)) (fun h3 st => ?_)
      rw [nI_1]
      exact ih (k + 1) h3 (by omega) (by omega) st
theorem pb_mar_0 : ∀ k, k < 5 → pm (224 + 1 * k + 0) = (132, k) := by decide +kernel
theorem kc_mar (o : PH) (t : Int32) (k0 : PH → Option (PH)) {Q : PH → Prop} (hk : ∀ g, SI o t 229 g → Sf (k0 g) Q) : ∀ (n k : Nat) (h : PH), 5 < n + k → k ≤ 5 → SI o t (224 + 1 * k) h → Sf (mm_keepsTold_L204 k0 n (nI k) h) Q := by
  intro n
  induction n with
  | zero => intro k h h1 h2; omega
  | succ n ih =>
    intro k h h1 h2 st
    rw [mm_keepsTold_L204]
    by_cases hk1 : k = 5
    · subst hk1
      rw [if_pos (show (5 : Int32) ≤ nI 5 by decide)]
      exact hk h st
    · rw [if_neg (show ¬ (5 : Int32) ≤ nI k from nI_ge (b := 5) (by omega) (by omega))]
      have ixk : ix (nI k) = k := nI_clamp (by omega)
      simp only [ixk]
      rw [ck_nI (by omega) (by omega)]
      refine siA st (by omega) (pb_mar_0 k (by omega)) (vp_in_nI (by omega) (by omega)) (fun h3 st => ?_)
      rw [nI_1]
      exact ih (k + 1) h3 (by omega) (by omega) st
theorem pb_way_0 : ∀ k, k < 16 → pm (229 + 1 * k + 0) = (135, k) := by decide +kernel
theorem kc_way (o : PH) (t : Int32) (k0 : PH → Option (PH)) {Q : PH → Prop} (hk : ∀ g, SI o t 245 g → Sf (k0 g) Q) : ∀ (n k : Nat) (h : PH), 16 < n + k → k ≤ 16 → SI o t (229 + 1 * k) h → Sf (mm_keepsTold_L233 k0 n (nI k) h) Q := by
  intro n
  induction n with
  | zero => intro k h h1 h2; omega
  | succ n ih =>
    intro k h h1 h2 st
    rw [mm_keepsTold_L233]
    by_cases hk1 : k = 16
    · subst hk1
      rw [if_pos (show (16 : Int32) ≤ nI 16 by decide)]
      exact hk h st
    · rw [if_neg (show ¬ (16 : Int32) ≤ nI k from nI_ge (b := 16) (by omega) (by omega))]
      have ixk : ix (nI k) = k := nI_clamp (by omega)
      simp only [ixk]
      rw [ck_nI (by omega) (by omega)]
      refine siA st (by omega) (pb_way_0 k (by omega)) (vp_in_nI (by omega) (by omega)) (fun h3 st => ?_)
      rw [nI_1]
      exact ih (k + 1) h3 (by omega) (by omega) st
theorem pb_loa_0 : ∀ k, k < 6 → pm (245 + 2 * k + 0) = (137, k) := by decide +kernel
theorem pb_loa_1 : ∀ k, k < 6 → pm (245 + 2 * k + 1) = (138, k) := by decide +kernel
theorem kc_loa (o : PH) (t : Int32) (k0 : PH → Option (PH)) {Q : PH → Prop} (hk : ∀ g, SI o t 257 g → Sf (k0 g) Q) : ∀ (n k : Nat) (h : PH), 6 < n + k → k ≤ 6 → SI o t (245 + 2 * k) h → Sf (mm_keepsTold_L263 k0 n (nI k) h) Q := by
  intro n
  induction n with
  | zero => intro k h h1 h2; omega
  | succ n ih =>
    intro k h h1 h2 st
    rw [mm_keepsTold_L263]
    by_cases hk1 : k = 6
    · subst hk1
      rw [if_pos (show (6 : Int32) ≤ nI 6 by decide)]
      exact hk h st
    · rw [if_neg (show ¬ (6 : Int32) ≤ nI k from nI_ge (b := 6) (by omega) (by omega))]
      have ixk : ix (nI k) = k := nI_clamp (by omega)
      simp only [ixk]
      rw [ck_nI (by omega) (by omega)]
      refine siA st (by omega) (pb_loa_0 k (by omega)) (vp_in_nI (by omega) (by omega)) (fun h3 st => ?_)
      rw [ck_nI (by omega) (by omega)]
      refine siA st (by omega) (pb_loa_1 k (by omega)) (vp_in_nI (by omega) (by omega)) (fun h3 st => ?_)
      rw [nI_1]
      exact ih (k + 1) h3 (by omega) (by omega) st
theorem pb_sky_0 : ∀ k, k < 48 → pm (257 + 1 * k + 0) = (121, k) := by decide +kernel
theorem kc_sky (o : PH) (t : Int32) (k0 : PH → Option (PH)) {Q : PH → Prop} (hk : ∀ g, SI o t 305 g → Sf (k0 g) Q) : ∀ (n k : Nat) (h : PH), 48 < n + k → k ≤ 48 → SI o t (257 + 1 * k) h → Sf (mm_keepsTold_L309 k0 n (nI k) h) Q := by
  intro n
  induction n with
  | zero => intro k h h1 h2; omega
  | succ n ih =>
    intro k h h1 h2 st
    rw [mm_keepsTold_L309]
    by_cases hk1 : k = 48
    · subst hk1
      rw [if_pos (show (48 : Int32) ≤ nI 48 by decide)]
      exact hk h st
    · rw [if_neg (show ¬ (48 : Int32) ≤ nI k from nI_ge (b := 48) (by omega) (by omega))]
      have ixk : ix (nI k) = k := nI_clamp (by omega)
      simp only [ixk]
      rw [ck_nI (by omega) (by omega)]
      refine siA st (by omega) (pb_sky_0 k (by omega)) (vp_in_nI (by omega) (by omega)) (fun h3 st => ?_)
      rw [nI_1]
      exact ih (k + 1) h3 (by omega) (by omega) st
theorem pb_dee_0 : ∀ k, k < 80 → pm (305 + 1 * k + 0) = (122, k) := by decide +kernel
theorem kc_dee (o : PH) (t : Int32) : ∀ (n k : Nat) (h : PH), 80 < n + k → k ≤ 80 → SI o t (305 + 1 * k) h → Sf (mm_keepsTold_L339 n (nI k) h) (fun g => SI o t 385 g) := by
  intro n
  induction n with
  | zero => intro k h h1 h2; omega
  | succ n ih =>
    intro k h h1 h2 st
    rw [mm_keepsTold_L339]
    by_cases hk1 : k = 80
    · subst hk1
      rw [if_pos (show (80 : Int32) ≤ nI 80 by decide)]
      exact s_some st
    · rw [if_neg (show ¬ (80 : Int32) ≤ nI k from nI_ge (b := 80) (by omega) (by omega))]
      have ixk : ix (nI k) = k := nI_clamp (by omega)
      simp only [ixk]
      rw [ck_nI (by omega) (by omega)]
      refine siA st (by omega) (pb_dee_0 k (by omega)) (vp_in_nI (by omega) (by omega)) (fun h3 st => ?_)
      rw [nI_1]
      exact ih (k + 1) h3 (by omega) (by omega) st
theorem kc_told (o : PH) (t : Int32) {h0 : PH} (st : SI o t 127 h0) : Sf (mm_keepsTold h0) (fun g => SI o t 385 g) := by
  unfold mm_keepsTold
  refine kc_hou o t _ (fun g st => ?_) FU 0 _ (by unfold FU; omega) (by omega) st
  refine kc_pie o t _ (fun g st => ?_) FU 0 _ (by unfold FU; omega) (by omega) st
  refine kc_dou o t _ (fun g st => ?_) FU 0 _ (by unfold FU; omega) (by omega) st
  refine kc_mar o t _ (fun g st => ?_) FU 0 _ (by unfold FU; omega) (by omega) st
  refine kc_way o t _ (fun g st => ?_) FU 0 _ (by unfold FU; omega) (by omega) st
  refine kc_loa o t _ (fun g st => ?_) FU 0 _ (by unfold FU; omega) (by omega) st
  refine kc_sky o t _ (fun g st => ?_) FU 0 _ (by unfold FU; omega) (by omega) st
  exact kc_dee o t FU 0 _ (by unfold FU; omega) (by omega) st
theorem pb_boo_0 : ∀ k, k < 600 → pm (385 + 1 * k + 0) = (110, k) := by decide +kernel
theorem kc_boo (o : PH) (t : Int32) (p1 : Int32) (k0 : PH → Option (Int32 × PH)) {Q : Int32 × PH → Prop} (hk : ∀ g, SI o t 985 g → Sf (k0 g) Q) : ∀ (n k : Nat) (h : PH), 600 < n + k → k ≤ 600 → SI o t (385 + 1 * k) h → Sf (mm_image_L73 p1 k0 n (nI k) h) Q := by
  intro n
  induction n with
  | zero => intro k h h1 h2; omega
  | succ n ih =>
    intro k h h1 h2 st
    rw [mm_image_L73]
    by_cases hk1 : k = 600
    · subst hk1
      rw [if_pos (show (600 : Int32) ≤ nI 600 by decide)]
      exact hk h st
    · rw [if_neg (show ¬ (600 : Int32) ≤ nI k from nI_ge (b := 600) (by omega) (by omega))]
      have ixk : ix (nI k) = k := nI_clamp (by omega)
      simp only [ixk]
      rw [ck_nI (by omega) (by omega)]
      refine siA st (by omega) (pb_boo_0 k (by omega)) (vp_in_nI (by omega) (by omega)) (fun h3 st => ?_)
      rw [nI_1]
      exact ih (k + 1) h3 (by omega) (by omega) st
theorem pb_cod_0 : ∀ k, k < 400 → pm (1050 + 2 * k + 0) = (118, k) := by decide +kernel
theorem pb_cod_1 : ∀ k, k < 400 → pm (1050 + 2 * k + 1) = (119, k) := by decide +kernel
theorem kc_cod (o : PH) (t : Int32) : ∀ (n k : Nat) (h : PH), 400 < n + k → k ≤ 400 → SI o t (1050 + 2 * k) h → Sf (mm_keepsLaw_L96 n (nI k) h) (fun g => SI o t 1850 g) := by
  intro n
  induction n with
  | zero => intro k h h1 h2; omega
  | succ n ih =>
    intro k h h1 h2 st
    rw [mm_keepsLaw_L96]
    by_cases hk1 : k = 400
    · subst hk1
      rw [if_pos (show (400 : Int32) ≤ nI 400 by decide)]
      exact s_some st
    · rw [if_neg (show ¬ (400 : Int32) ≤ nI k from nI_ge (b := 400) (by omega) (by omega))]
      have ixk : ix (nI k) = k := nI_clamp (by omega)
      simp only [ixk]
      rw [ck_nI (by omega) (by omega)]
      refine siA st (by omega) (pb_cod_0 k (by omega)) (vp_in_nI (by omega) (by omega)) (fun h3 st => ?_)
      rw [ck_nI (by omega) (by omega)]
      refine siA st (by omega) (pb_cod_1 k (by omega)) (vp_in_nI (by omega) (by omega)) (fun h3 st => ?_)
      rw [nI_1]
      exact ih (k + 1) h3 (by omega) (by omega) st
theorem pb_lin_0 : ∀ k, k < 16 → pm (986 + 4 * k + 0) = (114, k) := by decide +kernel
theorem pb_lin_1 : ∀ k, k < 16 → pm (986 + 4 * k + 1) = (115, k) := by decide +kernel
theorem pb_lin_2 : ∀ k, k < 16 → pm (986 + 4 * k + 2) = (116, k) := by decide +kernel
theorem pb_lin_3 : ∀ k, k < 16 → pm (986 + 4 * k + 3) = (117, k) := by decide +kernel
theorem kc_lin (o : PH) (t : Int32) (k0 : PH → Option (PH)) {Q : PH → Prop} (hk : ∀ g, SI o t 1050 g → Sf (k0 g) Q) : ∀ (n k : Nat) (h : PH), 16 < n + k → k ≤ 16 → SI o t (986 + 4 * k) h → Sf (mm_keepsLaw_L18 k0 n (nI k) h) Q := by
  intro n
  induction n with
  | zero => intro k h h1 h2; omega
  | succ n ih =>
    intro k h h1 h2 st
    rw [mm_keepsLaw_L18]
    by_cases hk1 : k = 16
    · subst hk1
      rw [if_pos (show (16 : Int32) ≤ nI 16 by decide)]
      exact hk h st
    · rw [if_neg (show ¬ (16 : Int32) ≤ nI k from nI_ge (b := 16) (by omega) (by omega))]
      have ixk : ix (nI k) = k := nI_clamp (by omega)
      simp only [ixk]
      rw [ck_nI (by omega) (by omega)]
      refine siA st (by omega) (pb_lin_0 k (by omega)) (vp_in_nI (by omega) (by omega)) (fun h3 st => ?_)
      rw [ck_nI (by omega) (by omega)]
      refine siA st (by omega) (pb_lin_1 k (by omega)) (vp_in_nI (by omega) (by omega)) (fun h3 st => ?_)
      rw [ck_nI (by omega) (by omega)]
      refine siA st (by omega) (pb_lin_2 k (by omega)) (vp_in_nI (by omega) (by omega)) (fun h3 st => ?_)
      rw [ck_nI (by omega) (by omega)]
      refine siA st (by omega) (pb_lin_3 k (by omega)) (vp_in_nI (by omega) (by omega)) (fun h3 st => ?_)
      rw [nI_1]
      exact ih (k + 1) h3 (by omega) (by omega) st
theorem kc_law (o : PH) (t : Int32) {h0 : PH} (st : SI o t 985 h0) : Sf (mm_keepsLaw h0) (fun g => SI o t 1850 g) := by
  unfold mm_keepsLaw
  rw [c0_2]
  refine siA (p := 985) st (by decide) rfl (vp_in_nI (n := 0) (by decide) (by decide)) (fun h3 st => ?_)
  refine kc_lin o t _ (fun g st => ?_) FU 0 _ (by unfold FU; omega) (by omega) st
  exact kc_cod o t FU 0 _ (by unfold FU; omega) (by omega) st
theorem kc_image (p1 : Int32) (hp : p1 = 0 ∨ p1 = 1) (h : PH) (hh : p1 = 1 ∨ ¬ h 104 72 = 0) : ∃ g, mm_image p1 h = some (1, g) ∧ g 104 72 = 1 ∧ (p1 = 1 → (∀ q, q < 1850 → g 148 q = h (pm q).1 (pm q).2) ∧ ∀ b j, b ≠ 148 → (b = 104 → j ≠ 73 ∧ j ≠ 72 ∧ j ≠ 71 ∧ j ≠ 0) → g b j = h b j) ∧ (p1 = 0 → (∀ q, q < 1850 → g (pm q).1 (pm q).2 = h 148 q) ∧ g 148 = h 148 ∧ g 104 3 = 0) := by
  have main : Sf (mm_image p1 h) (fun r => r.1 = 1 ∧ ∃ g, SI (up (up (up (up h 104 0 0) 104 71 p1) 104 72 1) 104 73 0) p1 1850 g ∧ r.2 = if p1 = 0 then up g 104 3 0 else g) := by
    unfold mm_image
    rw [lt_e, jn0_e]
    have body : Sf (kz p1 <| lt (up (up h 104 0 0) 104 71 p1) fun h3 => lt (up h3 104 72 1) fun h4 => lt (up h4 104 73 0) fun h5 => mm_image_L35 p1 (fun (h9 : PH) => bd (mm_keepsMany h9) fun h10 => bd (mm_keepsTold h10) fun h11 => mm_image_L73 p1 (fun (h15 : PH) => bd (mm_keepsLaw h15) fun h16 => if p1 = 0 then lt (up h16 104 3 0) fun h17 => some ((1 : Int32), h17) else some (1, h16)) FU 0 h11) FU 0 h5) (fun r => r.1 = 1 ∧ ∃ g, SI (up (up (up (up h 104 0 0) 104 71 p1) 104 72 1) 104 73 0) p1 1850 g ∧ r.2 = if p1 = 0 then up g 104 3 0 else g) := by
      have kz1 : ∀ {ρ : Type} (q : Option ρ), kz p1 q = q := fun q => by
        unfold kz
        rw [if_pos hp]
      rw [kz1, lt_e, lt_e, lt_e]
      generalize ho : up (up (up (up h 104 0 0) 104 71 p1) 104 72 1) 104 73 0 = o
      have e73 : o 104 73 = nI 0 := by rw [← ho]; exact up_same
      have e71 : o 104 71 = p1 := by rw [← ho, up_oj (by decide), up_oj (by decide), up_same]
      have e72 : o 104 72 = 1 := by rw [← ho, up_oj (by decide), up_same]
      have st : SI o p1 0 o := ⟨e73, e71, e72, fun _ => ⟨fun q hq => by omega, fun _ _ _ _ => rfl⟩, fun _ => ⟨fun q hq => by omega, rfl⟩⟩
      refine kc_now o p1 p1 _ (fun g st => ?_) FU 0 _ (by unfold FU; omega) (by omega) st
      refine s_bd (kc_many o p1 st) (fun h10 st => ?_)
      refine s_bd (kc_told o p1 st) (fun h11 st => ?_)
      refine kc_boo o p1 p1 _ (fun g st => ?_) FU 0 _ (by unfold FU; omega) (by omega) st
      refine s_bd (kc_law o p1 st) (fun h16 st => ?_)
      refine s_if (fun c => ?_) (fun c => s_some ⟨rfl, h16, st, by rw [if_neg c]⟩)
      rw [lt_e]
      exact s_some ⟨rfl, h16, st, by rw [if_pos c]⟩
    refine s_if (fun c => ?_) (fun _ => body)
    refine s_if (fun c2 => ?_) (fun _ => body)
    rw [up_oj (by decide)] at c2
    rcases hh with w | w
    · rw [w] at c; exact absurd c (by decide)
    · exact absurd c2 w
  obtain ⟨⟨r, g2⟩, e, w1, g, st, w2⟩ := main
  have r1 : r = 1 := w1
  have e2 : g2 = if p1 = 0 then up g 104 3 0 else g := w2
  clear w1 w2
  subst r1
  generalize ho : up (up (up (up h 104 0 0) 104 71 p1) 104 72 1) 104 73 0 = o at st
  have oo : ∀ b j, (b = 104 → j ≠ 73 ∧ j ≠ 72 ∧ j ≠ 71 ∧ j ≠ 0) → o b j = h b j := fun b j hb => by
    rw [← ho]
    by_cases eb : b = 104
    · obtain ⟨j1, j2, j3, j4⟩ := hb eb
      subst eb
      rw [up_oj j1, up_oj j2, up_oj j3, up_oj j4]
    · rw [up_oc eb, up_oc eb, up_oc eb, up_oc eb]
  obtain ⟨s1, s2, s72, s3, s4⟩ := st
  refine ⟨g2, e, ?_, fun q1 => ?_, fun q0 => ?_⟩
  · rw [e2]
    split
    · rw [up_oj (by decide)]; exact s72
    · exact s72
  · have t0 : ¬ p1 = 0 := by rw [q1]; decide
    rw [if_neg t0] at e2
    subst e2
    refine ⟨fun q hq => ?_, fun b j hb hj => ?_⟩
    · rw [(s3 t0).1 q hq]
      exact oo _ _ (fun w => by obtain ⟨k1, k2, k3, k4, k5⟩ := (pm_ok q hq).2 w; exact ⟨k1, k3, k2, k4⟩)
    · rw [(s3 t0).2 b j hb (fun w => (hj w).1)]
      exact oo b j hj
  · rw [if_pos q0] at e2
    subst e2
    refine ⟨fun q hq => ?_, ?_, up_same⟩
    · rw [up_ne (by
        by_cases w : (pm q).1 = 104
        · exact Or.inr ((pm_ok q hq).2 w).2.2.2.2
        · exact Or.inl w), (s4 q0).1 q hq]
      exact oo 148 q (fun w => by omega)
    · funext j
      rw [up_oc (by decide), (s4 q0).2]
      exact oo 148 j (fun w => by omega)
end
section
/-! THE CLASS'S IMAGE: rows and boroughs copied -/
theorem cpy_at (h : PH) (a1 a0 n b j : Nat) : cpy h a1 a0 0 0 n b j = if b = a0 then (if j < n then h a1 j else h a0 j) else h b j := by
  unfold cpy setC
  by_cases e : b = a0
  · subst e
    rw [if_pos rfl, if_pos rfl]
    unfold va_cpy
    by_cases c : j < n
    · rw [if_pos ⟨by omega, by omega⟩, if_pos c, show 0 + (j - 0) = j by omega]
    · rw [if_neg (by omega), if_neg c]
  · rw [if_neg e, if_neg e]
def CP (a0 a1 w : Nat) (h g : PH) : Prop := (∀ b, b ≠ a0 → b ≠ a0 + 1 → g b = h b) ∧ g a0 3 = h a1 3 ∧ (∀ j, j ≠ 3 → g a0 j = h a0 j) ∧ ∀ j, j < (h a1 3).toNatClampNeg * w → g (a0 + 1) j = h (a1 + 1) j
theorem cp_R (a0 a1 m w : Nat) (hs : sp a0 = spR m w) (hs' : sp a1 = spR m w) (hl : ln (a0 + 1) = m * w) (hl' : ln (a1 + 1) = m * w) (hm : m ≤ 400) (hw5 : w ≤ 5) (n1 : a1 ≠ a0 + 1) {h : PH} (i : Inv h) : ∃ g, mR_copyFrom a0 a1 h = some g ∧ CP a0 a1 w h g := by
  obtain ⟨q0, q1, q2, q3⟩ := rows_i hs i
  obtain ⟨p0, p1, p2, p3⟩ := rows_i hs' i
  unfold mR_copyFrom
  rw [lt_e]
  generalize e1 : h a1 3 * h a1 1 = x1
  have pos : 0 ≤ (h a1 3).toInt * (w : Int) := Int.mul_nonneg (by omega) (by omega)
  have le1 : (h a1 3).toInt * (w : Int) ≤ m * w := Int.mul_le_mul_of_nonneg_right p3 (by omega)
  have big := mw_big hm hw5
  have ex : x1.toInt = (h a1 3).toInt * (w : Int) := by rw [← e1]; exact mul_small rfl p1 pos (by omega)
  have en : ((ln (a0 + 1) : Nat) : Int) = (m : Int) * (w : Int) := by rw [hl]; exact Int.natCast_mul m w
  have en' : ((ln (a1 + 1) : Nat) : Int) = (m : Int) * (w : Int) := by rw [hl']; exact Int.natCast_mul m w
  have cw : h a1 1 = h a0 1 := Int32.toInt_inj.mp (by rw [p1, q1])
  have eL : (Int32.ofNat (ln (a0 + 1))).toInt = ((ln (a0 + 1) : Nat) : Int) := nI_toInt (by omega)
  have hx : ((ix x1 : Nat) : Int) = x1.toInt := clamp_int (by omega)
  have hc : (((h a1 3).toNatClampNeg : Nat) : Int) = (h a1 3).toInt := clamp_int (by omega)
  have ixx : ix x1 = (h a1 3).toNatClampNeg * w := by
    have : ((((h a1 3).toNatClampNeg * w : Nat)) : Int) = (h a1 3).toInt * (w : Int) := by rw [Int.natCast_mul, hc]
    omega
  have hcc : ∀ {ρ : Type} (k : Option ρ), cc (ln (a1 + 1)) (ln (a0 + 1)) 0 0 x1 k = k := by
    intro ρ k
    unfold cc
    refine if_neg ?_
    have h00 : ix (0 : Int32) = 0 := rfl
    rintro (q | q | q | q | q)
    · exact absurd q (by decide)
    · exact absurd q (by decide)
    · rw [Int32.lt_iff_toInt_lt] at q
      simp only [show (0 : Int32).toInt = 0 from rfl] at q
      omega
    · rw [h00] at q; omega
    · rw [h00] at q; omega
  have n2 : ¬ Int32.ofNat (ln (a0 + 1)) < x1 := by
    rw [Int32.lt_iff_toInt_lt, eL, en]
    omega
  rw [if_pos cw, if_neg n2, hcc, lt_e, lt_e, ixx, show ix (0 : Int32) = 0 from rfl]
  refine ⟨_, rfl, fun b hb hb1 => ?_, ?_, fun j hj => ?_, fun j hj => ?_⟩
  · funext j
    rw [up_oc hb, cpy_at, if_neg hb1]
  · rw [up_same, cpy_at, if_neg n1]
  · rw [up_oj hj, cpy_at, if_neg (by omega)]
  · rw [up_oc (by omega), cpy_at, if_pos rfl, if_pos hj]
def widT (k : Nat) : Nat := [5, 2, 5, 5, 5, 4, 1, 1, 1, 2, 1, 2, 2, 2].getD k 0
def TCp (A B K : Nat) (h g : PH) : Prop := (∀ b, (b ≤ A ∨ A + 2 * K < b) → g b = h b) ∧ (∀ k, k < K → g (A + 1 + 2 * k) 3 = h (B + 1 + 2 * k) 3 ∧ ∀ j, j < (h (B + 1 + 2 * k) 3).toNatClampNeg * widT k → g (A + 2 + 2 * k) j = h (B + 2 + 2 * k) j) ∧ ∀ k j, k < 14 → j ≠ 3 → g (A + 1 + 2 * k) j = h (A + 1 + 2 * k) j
theorem tcp_step {A B K : Nat} {h g g' : PH} (hK : K < 14) (hAB : A + 28 < B ∨ B + 28 < A) (st : TCp A B K h g) (c : CP (A + 1 + 2 * K) (B + 1 + 2 * K) (widT K) g g') : TCp A B (K + 1) h g' := by
  obtain ⟨s1, s2, s3⟩ := st
  obtain ⟨c1, c2, c3, c4⟩ := c
  have b1 : g (B + 1 + 2 * K) = h (B + 1 + 2 * K) := s1 _ (by omega)
  have b2 : g (B + 1 + 2 * K + 1) = h (B + 1 + 2 * K + 1) := s1 _ (by omega)
  refine ⟨fun b hb => ?_, fun k hk => ?_, fun k j hk hj => ?_⟩
  · rw [c1 b (by omega) (by omega)]
    exact s1 b (by omega)
  · by_cases e : k = K
    · subst e
      refine ⟨by rw [c2, b1], fun j hj => ?_⟩
      have := c4 j (by rw [b1]; exact hj)
      rw [b2] at this
      rw [show A + 2 + 2 * k = A + 1 + 2 * k + 1 by omega, show B + 2 + 2 * k = B + 1 + 2 * k + 1 by omega]
      exact this
    · obtain ⟨d1, d2⟩ := s2 k (by omega)
      rw [c1 (A + 1 + 2 * k) (by omega) (by omega), c1 (A + 2 + 2 * k) (by omega) (by omega)]
      exact ⟨d1, d2⟩
  · by_cases e : k = K
    · subst e
      rw [c3 j hj]
      exact s3 k j hk hj
    · rw [c1 (A + 1 + 2 * k) (by omega) (by omega)]
      exact s3 k j hk hj
theorem tc_5_39 {h : PH} (i : Inv h) : ∃ g, mO_copyFrom 5 39 h = some g ∧ Inv g ∧ TCp 5 39 14 h g := by
  unfold mO_copyFrom
  have st0 : TCp 5 39 0 h h := ⟨fun _ _ => rfl, fun k hk => by omega, fun _ _ _ _ => rfl⟩
  have i0 := i
  obtain ⟨h1, e1, c1⟩ := cp_R 6 40 16 5 rfl rfl rfl rfl (by decide) (by decide) (by decide) i0
  have i1 : Inv h1 := by
    obtain ⟨g, eg, ig⟩ := sf_R_copyFrom 6 40 isR_6 isR_40 i0
    rw [e1] at eg
    cases eg
    exact ig
  have st1 : TCp 5 39 1 h h1 := tcp_step (K := 0) (by decide) (by decide) st0 c1
  obtain ⟨h2, e2, c2⟩ := cp_R 8 42 400 2 rfl rfl rfl rfl (by decide) (by decide) (by decide) i1
  have i2 : Inv h2 := by
    obtain ⟨g, eg, ig⟩ := sf_R_copyFrom 8 42 isR_8 isR_42 i1
    rw [e2] at eg
    cases eg
    exact ig
  have st2 : TCp 5 39 2 h h2 := tcp_step (K := 1) (by decide) (by decide) st1 c2
  obtain ⟨h3, e3, c3⟩ := cp_R 10 44 16 5 rfl rfl rfl rfl (by decide) (by decide) (by decide) i2
  have i3 : Inv h3 := by
    obtain ⟨g, eg, ig⟩ := sf_R_copyFrom 10 44 isR_10 isR_44 i2
    rw [e3] at eg
    cases eg
    exact ig
  have st3 : TCp 5 39 3 h h3 := tcp_step (K := 2) (by decide) (by decide) st2 c3
  obtain ⟨h4, e4, c4⟩ := cp_R 12 46 16 5 rfl rfl rfl rfl (by decide) (by decide) (by decide) i3
  have i4 : Inv h4 := by
    obtain ⟨g, eg, ig⟩ := sf_R_copyFrom 12 46 isR_12 isR_46 i3
    rw [e4] at eg
    cases eg
    exact ig
  have st4 : TCp 5 39 4 h h4 := tcp_step (K := 3) (by decide) (by decide) st3 c4
  obtain ⟨h5, e5, c5⟩ := cp_R 14 48 16 5 rfl rfl rfl rfl (by decide) (by decide) (by decide) i4
  have i5 : Inv h5 := by
    obtain ⟨g, eg, ig⟩ := sf_R_copyFrom 14 48 isR_14 isR_48 i4
    rw [e5] at eg
    cases eg
    exact ig
  have st5 : TCp 5 39 5 h h5 := tcp_step (K := 4) (by decide) (by decide) st4 c5
  obtain ⟨h6, e6, c6⟩ := cp_R 16 50 150 4 rfl rfl rfl rfl (by decide) (by decide) (by decide) i5
  have i6 : Inv h6 := by
    obtain ⟨g, eg, ig⟩ := sf_R_copyFrom 16 50 isR_16 isR_50 i5
    rw [e6] at eg
    cases eg
    exact ig
  have st6 : TCp 5 39 6 h h6 := tcp_step (K := 5) (by decide) (by decide) st5 c6
  obtain ⟨h7, e7, c7⟩ := cp_R 18 52 9 1 rfl rfl rfl rfl (by decide) (by decide) (by decide) i6
  have i7 : Inv h7 := by
    obtain ⟨g, eg, ig⟩ := sf_R_copyFrom 18 52 isR_18 isR_52 i6
    rw [e7] at eg
    cases eg
    exact ig
  have st7 : TCp 5 39 7 h h7 := tcp_step (K := 6) (by decide) (by decide) st6 c7
  obtain ⟨h8, e8, c8⟩ := cp_R 20 54 8 1 rfl rfl rfl rfl (by decide) (by decide) (by decide) i7
  have i8 : Inv h8 := by
    obtain ⟨g, eg, ig⟩ := sf_R_copyFrom 20 54 isR_20 isR_54 i7
    rw [e8] at eg
    cases eg
    exact ig
  have st8 : TCp 5 39 8 h h8 := tcp_step (K := 7) (by decide) (by decide) st7 c8
  obtain ⟨h9, e9, c9⟩ := cp_R 22 56 5 1 rfl rfl rfl rfl (by decide) (by decide) (by decide) i8
  have i9 : Inv h9 := by
    obtain ⟨g, eg, ig⟩ := sf_R_copyFrom 22 56 isR_22 isR_56 i8
    rw [e9] at eg
    cases eg
    exact ig
  have st9 : TCp 5 39 9 h h9 := tcp_step (K := 8) (by decide) (by decide) st8 c9
  obtain ⟨h10, e10, c10⟩ := cp_R 24 58 8 2 rfl rfl rfl rfl (by decide) (by decide) (by decide) i9
  have i10 : Inv h10 := by
    obtain ⟨g, eg, ig⟩ := sf_R_copyFrom 24 58 isR_24 isR_58 i9
    rw [e10] at eg
    cases eg
    exact ig
  have st10 : TCp 5 39 10 h h10 := tcp_step (K := 9) (by decide) (by decide) st9 c10
  obtain ⟨h11, e11, c11⟩ := cp_R 26 60 16 1 rfl rfl rfl rfl (by decide) (by decide) (by decide) i10
  have i11 : Inv h11 := by
    obtain ⟨g, eg, ig⟩ := sf_R_copyFrom 26 60 isR_26 isR_60 i10
    rw [e11] at eg
    cases eg
    exact ig
  have st11 : TCp 5 39 11 h h11 := tcp_step (K := 10) (by decide) (by decide) st10 c11
  obtain ⟨h12, e12, c12⟩ := cp_R 28 62 6 2 rfl rfl rfl rfl (by decide) (by decide) (by decide) i11
  have i12 : Inv h12 := by
    obtain ⟨g, eg, ig⟩ := sf_R_copyFrom 28 62 isR_28 isR_62 i11
    rw [e12] at eg
    cases eg
    exact ig
  have st12 : TCp 5 39 12 h h12 := tcp_step (K := 11) (by decide) (by decide) st11 c12
  obtain ⟨h13, e13, c13⟩ := cp_R 30 64 12 2 rfl rfl rfl rfl (by decide) (by decide) (by decide) i12
  have i13 : Inv h13 := by
    obtain ⟨g, eg, ig⟩ := sf_R_copyFrom 30 64 isR_30 isR_64 i12
    rw [e13] at eg
    cases eg
    exact ig
  have st13 : TCp 5 39 13 h h13 := tcp_step (K := 12) (by decide) (by decide) st12 c13
  obtain ⟨h14, e14, c14⟩ := cp_R 32 66 8 2 rfl rfl rfl rfl (by decide) (by decide) (by decide) i13
  have i14 : Inv h14 := by
    obtain ⟨g, eg, ig⟩ := sf_R_copyFrom 32 66 isR_32 isR_66 i13
    rw [e14] at eg
    cases eg
    exact ig
  have st14 : TCp 5 39 14 h h14 := tcp_step (K := 13) (by decide) (by decide) st13 c14
  refine ⟨h14, ?_, i14, st14⟩
  refine Eq.trans (congrArg (fun z => bd z _) e1) ?_
  refine Eq.trans (bd_e _ _) ?_
  refine Eq.trans (congrArg (fun z => bd z _) e2) ?_
  refine Eq.trans (bd_e _ _) ?_
  refine Eq.trans (congrArg (fun z => bd z _) e3) ?_
  refine Eq.trans (bd_e _ _) ?_
  refine Eq.trans (congrArg (fun z => bd z _) e4) ?_
  refine Eq.trans (bd_e _ _) ?_
  refine Eq.trans (congrArg (fun z => bd z _) e5) ?_
  refine Eq.trans (bd_e _ _) ?_
  refine Eq.trans (congrArg (fun z => bd z _) e6) ?_
  refine Eq.trans (bd_e _ _) ?_
  refine Eq.trans (congrArg (fun z => bd z _) e7) ?_
  refine Eq.trans (bd_e _ _) ?_
  refine Eq.trans (congrArg (fun z => bd z _) e8) ?_
  refine Eq.trans (bd_e _ _) ?_
  refine Eq.trans (congrArg (fun z => bd z _) e9) ?_
  refine Eq.trans (bd_e _ _) ?_
  refine Eq.trans (congrArg (fun z => bd z _) e10) ?_
  refine Eq.trans (bd_e _ _) ?_
  refine Eq.trans (congrArg (fun z => bd z _) e11) ?_
  refine Eq.trans (bd_e _ _) ?_
  refine Eq.trans (congrArg (fun z => bd z _) e12) ?_
  refine Eq.trans (bd_e _ _) ?_
  refine Eq.trans (congrArg (fun z => bd z _) e13) ?_
  refine Eq.trans (bd_e _ _) ?_
  refine Eq.trans (congrArg (fun z => bd z _) e14) ?_
  refine Eq.trans (bd_e _ _) ?_
  rfl
theorem tc_39_5 {h : PH} (i : Inv h) : ∃ g, mO_copyFrom 39 5 h = some g ∧ Inv g ∧ TCp 39 5 14 h g := by
  unfold mO_copyFrom
  have st0 : TCp 39 5 0 h h := ⟨fun _ _ => rfl, fun k hk => by omega, fun _ _ _ _ => rfl⟩
  have i0 := i
  obtain ⟨h1, e1, c1⟩ := cp_R 40 6 16 5 rfl rfl rfl rfl (by decide) (by decide) (by decide) i0
  have i1 : Inv h1 := by
    obtain ⟨g, eg, ig⟩ := sf_R_copyFrom 40 6 isR_40 isR_6 i0
    rw [e1] at eg
    cases eg
    exact ig
  have st1 : TCp 39 5 1 h h1 := tcp_step (K := 0) (by decide) (by decide) st0 c1
  obtain ⟨h2, e2, c2⟩ := cp_R 42 8 400 2 rfl rfl rfl rfl (by decide) (by decide) (by decide) i1
  have i2 : Inv h2 := by
    obtain ⟨g, eg, ig⟩ := sf_R_copyFrom 42 8 isR_42 isR_8 i1
    rw [e2] at eg
    cases eg
    exact ig
  have st2 : TCp 39 5 2 h h2 := tcp_step (K := 1) (by decide) (by decide) st1 c2
  obtain ⟨h3, e3, c3⟩ := cp_R 44 10 16 5 rfl rfl rfl rfl (by decide) (by decide) (by decide) i2
  have i3 : Inv h3 := by
    obtain ⟨g, eg, ig⟩ := sf_R_copyFrom 44 10 isR_44 isR_10 i2
    rw [e3] at eg
    cases eg
    exact ig
  have st3 : TCp 39 5 3 h h3 := tcp_step (K := 2) (by decide) (by decide) st2 c3
  obtain ⟨h4, e4, c4⟩ := cp_R 46 12 16 5 rfl rfl rfl rfl (by decide) (by decide) (by decide) i3
  have i4 : Inv h4 := by
    obtain ⟨g, eg, ig⟩ := sf_R_copyFrom 46 12 isR_46 isR_12 i3
    rw [e4] at eg
    cases eg
    exact ig
  have st4 : TCp 39 5 4 h h4 := tcp_step (K := 3) (by decide) (by decide) st3 c4
  obtain ⟨h5, e5, c5⟩ := cp_R 48 14 16 5 rfl rfl rfl rfl (by decide) (by decide) (by decide) i4
  have i5 : Inv h5 := by
    obtain ⟨g, eg, ig⟩ := sf_R_copyFrom 48 14 isR_48 isR_14 i4
    rw [e5] at eg
    cases eg
    exact ig
  have st5 : TCp 39 5 5 h h5 := tcp_step (K := 4) (by decide) (by decide) st4 c5
  obtain ⟨h6, e6, c6⟩ := cp_R 50 16 150 4 rfl rfl rfl rfl (by decide) (by decide) (by decide) i5
  have i6 : Inv h6 := by
    obtain ⟨g, eg, ig⟩ := sf_R_copyFrom 50 16 isR_50 isR_16 i5
    rw [e6] at eg
    cases eg
    exact ig
  have st6 : TCp 39 5 6 h h6 := tcp_step (K := 5) (by decide) (by decide) st5 c6
  obtain ⟨h7, e7, c7⟩ := cp_R 52 18 9 1 rfl rfl rfl rfl (by decide) (by decide) (by decide) i6
  have i7 : Inv h7 := by
    obtain ⟨g, eg, ig⟩ := sf_R_copyFrom 52 18 isR_52 isR_18 i6
    rw [e7] at eg
    cases eg
    exact ig
  have st7 : TCp 39 5 7 h h7 := tcp_step (K := 6) (by decide) (by decide) st6 c7
  obtain ⟨h8, e8, c8⟩ := cp_R 54 20 8 1 rfl rfl rfl rfl (by decide) (by decide) (by decide) i7
  have i8 : Inv h8 := by
    obtain ⟨g, eg, ig⟩ := sf_R_copyFrom 54 20 isR_54 isR_20 i7
    rw [e8] at eg
    cases eg
    exact ig
  have st8 : TCp 39 5 8 h h8 := tcp_step (K := 7) (by decide) (by decide) st7 c8
  obtain ⟨h9, e9, c9⟩ := cp_R 56 22 5 1 rfl rfl rfl rfl (by decide) (by decide) (by decide) i8
  have i9 : Inv h9 := by
    obtain ⟨g, eg, ig⟩ := sf_R_copyFrom 56 22 isR_56 isR_22 i8
    rw [e9] at eg
    cases eg
    exact ig
  have st9 : TCp 39 5 9 h h9 := tcp_step (K := 8) (by decide) (by decide) st8 c9
  obtain ⟨h10, e10, c10⟩ := cp_R 58 24 8 2 rfl rfl rfl rfl (by decide) (by decide) (by decide) i9
  have i10 : Inv h10 := by
    obtain ⟨g, eg, ig⟩ := sf_R_copyFrom 58 24 isR_58 isR_24 i9
    rw [e10] at eg
    cases eg
    exact ig
  have st10 : TCp 39 5 10 h h10 := tcp_step (K := 9) (by decide) (by decide) st9 c10
  obtain ⟨h11, e11, c11⟩ := cp_R 60 26 16 1 rfl rfl rfl rfl (by decide) (by decide) (by decide) i10
  have i11 : Inv h11 := by
    obtain ⟨g, eg, ig⟩ := sf_R_copyFrom 60 26 isR_60 isR_26 i10
    rw [e11] at eg
    cases eg
    exact ig
  have st11 : TCp 39 5 11 h h11 := tcp_step (K := 10) (by decide) (by decide) st10 c11
  obtain ⟨h12, e12, c12⟩ := cp_R 62 28 6 2 rfl rfl rfl rfl (by decide) (by decide) (by decide) i11
  have i12 : Inv h12 := by
    obtain ⟨g, eg, ig⟩ := sf_R_copyFrom 62 28 isR_62 isR_28 i11
    rw [e12] at eg
    cases eg
    exact ig
  have st12 : TCp 39 5 12 h h12 := tcp_step (K := 11) (by decide) (by decide) st11 c12
  obtain ⟨h13, e13, c13⟩ := cp_R 64 30 12 2 rfl rfl rfl rfl (by decide) (by decide) (by decide) i12
  have i13 : Inv h13 := by
    obtain ⟨g, eg, ig⟩ := sf_R_copyFrom 64 30 isR_64 isR_30 i12
    rw [e13] at eg
    cases eg
    exact ig
  have st13 : TCp 39 5 13 h h13 := tcp_step (K := 12) (by decide) (by decide) st12 c13
  obtain ⟨h14, e14, c14⟩ := cp_R 66 32 8 2 rfl rfl rfl rfl (by decide) (by decide) (by decide) i13
  have i14 : Inv h14 := by
    obtain ⟨g, eg, ig⟩ := sf_R_copyFrom 66 32 isR_66 isR_32 i13
    rw [e14] at eg
    cases eg
    exact ig
  have st14 : TCp 39 5 14 h h14 := tcp_step (K := 13) (by decide) (by decide) st13 c14
  refine ⟨h14, ?_, i14, st14⟩
  refine Eq.trans (congrArg (fun z => bd z _) e1) ?_
  refine Eq.trans (bd_e _ _) ?_
  refine Eq.trans (congrArg (fun z => bd z _) e2) ?_
  refine Eq.trans (bd_e _ _) ?_
  refine Eq.trans (congrArg (fun z => bd z _) e3) ?_
  refine Eq.trans (bd_e _ _) ?_
  refine Eq.trans (congrArg (fun z => bd z _) e4) ?_
  refine Eq.trans (bd_e _ _) ?_
  refine Eq.trans (congrArg (fun z => bd z _) e5) ?_
  refine Eq.trans (bd_e _ _) ?_
  refine Eq.trans (congrArg (fun z => bd z _) e6) ?_
  refine Eq.trans (bd_e _ _) ?_
  refine Eq.trans (congrArg (fun z => bd z _) e7) ?_
  refine Eq.trans (bd_e _ _) ?_
  refine Eq.trans (congrArg (fun z => bd z _) e8) ?_
  refine Eq.trans (bd_e _ _) ?_
  refine Eq.trans (congrArg (fun z => bd z _) e9) ?_
  refine Eq.trans (bd_e _ _) ?_
  refine Eq.trans (congrArg (fun z => bd z _) e10) ?_
  refine Eq.trans (bd_e _ _) ?_
  refine Eq.trans (congrArg (fun z => bd z _) e11) ?_
  refine Eq.trans (bd_e _ _) ?_
  refine Eq.trans (congrArg (fun z => bd z _) e12) ?_
  refine Eq.trans (bd_e _ _) ?_
  refine Eq.trans (congrArg (fun z => bd z _) e13) ?_
  refine Eq.trans (bd_e _ _) ?_
  refine Eq.trans (congrArg (fun z => bd z _) e14) ?_
  refine Eq.trans (bd_e _ _) ?_
  rfl
theorem bc_1_37 (h : PH) : ∃ g, mB_copyFrom 1 37 h = some g ∧ (∀ c, c ≠ 1 → c ≠ 2 → g c = h c) ∧ (∀ j, 1 ≤ j → j ≤ 7 → g 1 j = h 37 j) ∧ ∀ j, j < 132 → g 2 j = h 38 j := by
  unfold mB_copyFrom
  have hcc : ∀ {ρ : Type} (k : Option ρ), cc 132 132 0 0 132 k = k := fun k => if_neg (by decide)
  rw [hcc, lt_e, lt_e, lt_e, lt_e, lt_e, lt_e, lt_e, lt_e, show ix (0 : Int32) = 0 from rfl, show ix (132 : Int32) = 132 from rfl]
  refine ⟨_, rfl, fun c h1 h2 => ?_, fun j h1 h2 => ?_, fun j hj => ?_⟩
  · funext j
    rw [up_oc h1, up_oc h1, up_oc h1, up_oc h1, up_oc h1, up_oc h1, up_oc h1, cpy_at, if_neg h2]
  · have h7 : j = 1 ∨ j = 2 ∨ j = 3 ∨ j = 4 ∨ j = 5 ∨ j = 6 ∨ j = 7 := by omega
    rcases h7 with rfl | rfl | rfl | rfl | rfl | rfl | rfl <;> simp [up_at, cpy_at]
  · simp [up_at, cpy_at, hj]
theorem bc_37_1 (h : PH) : ∃ g, mB_copyFrom 37 1 h = some g ∧ (∀ c, c ≠ 37 → c ≠ 38 → g c = h c) ∧ (∀ j, 1 ≤ j → j ≤ 7 → g 37 j = h 1 j) ∧ ∀ j, j < 132 → g 38 j = h 2 j := by
  unfold mB_copyFrom
  have hcc : ∀ {ρ : Type} (k : Option ρ), cc 132 132 0 0 132 k = k := fun k => if_neg (by decide)
  rw [hcc, lt_e, lt_e, lt_e, lt_e, lt_e, lt_e, lt_e, lt_e, show ix (0 : Int32) = 0 from rfl, show ix (132 : Int32) = 132 from rfl]
  refine ⟨_, rfl, fun c h1 h2 => ?_, fun j h1 h2 => ?_, fun j hj => ?_⟩
  · funext j
    rw [up_oc h1, up_oc h1, up_oc h1, up_oc h1, up_oc h1, up_oc h1, up_oc h1, cpy_at, if_neg h2]
  · have h7 : j = 1 ∨ j = 2 ∨ j = 3 ∨ j = 4 ∨ j = 5 ∨ j = 6 ∨ j = 7 := by omega
    rcases h7 with rfl | rfl | rfl | rfl | rfl | rfl | rfl <;> simp [up_at, cpy_at]
  · simp [up_at, cpy_at, hj]
theorem xi_back (h : PH) (i : Inv h) (hp : ¬ h 0 13 = 0) : ∃ g, mX_image 0 h = some (1, g) ∧ (∀ k, k < 14 → g (6 + 2 * k) 3 = h (40 + 2 * k) 3 ∧ ∀ j, j < (h (40 + 2 * k) 3).toNatClampNeg * widT k → g (7 + 2 * k) j = h (41 + 2 * k) j) ∧ (∀ j, 1 ≤ j → j ≤ 7 → g 1 j = h 37 j) ∧ (∀ j, j < 132 → g 2 j = h 38 j) ∧ (∀ b, 33 < b → b ≠ 70 → g b = h b) ∧ g 0 = h 0 ∧ g 70 3 = 0 := by
  obtain ⟨h1, e1, f1, f2, f3⟩ := bc_1_37 h
  have i1 : Inv h1 := by
    obtain ⟨g, eg, ig⟩ := sf_B_copyFrom 1 37 ⟨rfl, rfl⟩ ⟨rfl, rfl⟩ i
    rw [e1] at eg
    cases eg
    exact ig
  obtain ⟨h2, e2, i2, t1, t2, t3⟩ := tc_5_39 i1
  refine ⟨up h2 70 3 0, ?_, fun k hk => ?_, fun j a b => ?_, fun j a => ?_, fun b hb h70 => ?_, ?_, up_same⟩
  · unfold mX_image
    rw [if_pos rfl, if_neg hp, e1, bd_e, e2, bd_e]
    unfold mP_forget
    rw [lt_e, bd_e]
  · obtain ⟨d1, d2⟩ := t2 k hk
    rw [show 5 + 1 + 2 * k = 6 + 2 * k by omega, show 39 + 1 + 2 * k = 40 + 2 * k by omega] at d1
    rw [show 5 + 2 + 2 * k = 7 + 2 * k by omega, show 39 + 2 + 2 * k = 41 + 2 * k by omega, show 39 + 1 + 2 * k = 40 + 2 * k by omega] at d2
    rw [f1 (40 + 2 * k) (by omega) (by omega)] at d1 d2
    rw [f1 (41 + 2 * k) (by omega) (by omega)] at d2
    refine ⟨by rw [up_oc (by omega)]; exact d1, fun j hj => by rw [up_oc (by omega)]; exact d2 j hj⟩
  · rw [up_oc (by decide), t1 1 (by decide)]; exact f2 j a b
  · rw [up_oc (by decide), t1 2 (by decide)]; exact f3 j a
  · rw [up_cell h70, t1 b (by omega), f1 b (by omega) (by omega)]
  · rw [up_cell (by decide), t1 0 (by decide), f1 0 (by decide) (by decide)]
theorem xi_take (p : Int32) (hp : ¬ p = 0) (h : PH) (i : Inv h) : ∃ g, mX_image p h = some (1, g) ∧ (∀ k, k < 14 → g (40 + 2 * k) 3 = h (6 + 2 * k) 3 ∧ ∀ j, j < (h (6 + 2 * k) 3).toNatClampNeg * widT k → g (41 + 2 * k) j = h (7 + 2 * k) j) ∧ (∀ j, 1 ≤ j → j ≤ 7 → g 37 j = h 1 j) ∧ (∀ j, j < 132 → g 38 j = h 2 j) ∧ (∀ b, b ≠ 0 → b < 37 ∨ 67 < b → g b = h b) ∧ g 0 13 = 1 := by
  obtain ⟨h1, e1, f1, f2, f3⟩ := bc_37_1 h
  have i1 : Inv h1 := by
    obtain ⟨g, eg, ig⟩ := sf_B_copyFrom 37 1 ⟨rfl, rfl⟩ ⟨rfl, rfl⟩ i
    rw [e1] at eg
    cases eg
    exact ig
  obtain ⟨h2, e2, i2, t1, t2, t3⟩ := tc_39_5 i1
  refine ⟨up h2 0 13 1, ?_, fun k hk => ?_, fun j a b => ?_, fun j a => ?_, fun b h0 hb => ?_, up_same⟩
  · unfold mX_image
    rw [if_neg hp, e1, bd_e, e2, bd_e, lt_e]
  · obtain ⟨d1, d2⟩ := t2 k hk
    rw [show 39 + 1 + 2 * k = 40 + 2 * k by omega, show 5 + 1 + 2 * k = 6 + 2 * k by omega] at d1
    rw [show 39 + 2 + 2 * k = 41 + 2 * k by omega, show 5 + 2 + 2 * k = 7 + 2 * k by omega, show 5 + 1 + 2 * k = 6 + 2 * k by omega] at d2
    rw [f1 (6 + 2 * k) (by omega) (by omega)] at d1 d2
    rw [f1 (7 + 2 * k) (by omega) (by omega)] at d2
    refine ⟨by rw [up_oc (by omega)]; exact d1, fun j hj => by rw [up_oc (by omega)]; exact d2 j hj⟩
  · rw [up_oc (by decide), t1 37 (by decide)]; exact f2 j a b
  · rw [up_oc (by decide), t1 38 (by decide)]; exact f3 j a
  · rw [up_cell h0, t1 b (by omega), f1 b (by omega) (by omega)]
end
section
/-! THE RELATION of what is told for thought, now and in the image; of the tape's length; of the image's being there. Printed by wip/gen/prel.py -/
def W1 (a b : Int) (n : Int32) (X : Nat → Int32) (m : Int32) (Y : Nat → Int32) : Prop := n = m ∧ ∀ k : Nat, (k : Int) < n.toInt → X k = Y k ∧ R a b (X k)
def W2 (a b c d : Int) (n : Int32) (X : Nat → Int32) (m : Int32) (Y Z : Nat → Int32) : Prop := n = m ∧ ∀ k : Nat, (k : Int) < n.toInt → (X (2 * k) = Y k ∧ R a b (X (2 * k))) ∧ (X (2 * k + 1) = Z k ∧ R c d (X (2 * k + 1)))
def lfh (X : Nat → Int32) (w : Int32) : Nat → Int32
  | 0 => 0
  | k + 1 => if lfh X w k = 0 then (if X (2 * k) = w then X (2 * k + 1) + 1 else 0) else lfh X w k
def WH (n : Int32) (X : Nat → Int32) (m : Int32) (Y : Nat → Int32) : Prop := n = m ∧ (∀ k : Nat, (k : Int) < n.toInt → R 0 11 (X (2 * k)) ∧ R 0 11 (X (2 * k + 1))) ∧ ∀ w, w < 12 → Y w = lfh X (nI w) n.toNatClampNeg
theorem lfh_x {X X' : Nat → Int32} {w : Int32} : ∀ (k : Nat), (∀ j, j < 2 * k → X' j = X j) → lfh X' w k = lfh X w k := by
  intro k
  induction k with
  | zero => intro _; rfl
  | succ k ih =>
    intro h
    rw [lfh, lfh, ih (fun j hj => h j (by omega)), h (2 * k) (by omega), h (2 * k + 1) (by omega)]
theorem cl_lt {n : Int32} {k : Nat} (h : (k : Int) < n.toInt) : k < n.toNatClampNeg := by
  have : ((n.toNatClampNeg : Nat) : Int) = n.toInt := clamp_int (by omega)
  omega
theorem w1_x {a b : Int} {n n' m m' : Int32} {X X' Y Y' : Nat → Int32} (h : W1 a b n X m Y) (en : n' = n) (em : m' = m) (M : Nat) (hM : n.toInt ≤ M) (hX : ∀ j, j < n.toNatClampNeg * 1 → X' j = X j) (hY : ∀ j, j < M → Y' j = Y j) : W1 a b n' X' m' Y' := by
  subst en em
  refine ⟨h.1, fun k hk => ?_⟩
  have := cl_lt hk
  rw [hX k (by omega), hY k (by omega)]
  exact h.2 k hk
theorem w2_x {a b c d : Int} {n n' m m' : Int32} {X X' Y Y' Z Z' : Nat → Int32} (h : W2 a b c d n X m Y Z) (en : n' = n) (em : m' = m) (M : Nat) (hM : n.toInt ≤ M) (hX : ∀ j, j < n.toNatClampNeg * 2 → X' j = X j) (hY : ∀ j, j < M → Y' j = Y j) (hZ : ∀ j, j < M → Z' j = Z j) : W2 a b c d n' X' m' Y' Z' := by
  subst en em
  refine ⟨h.1, fun k hk => ?_⟩
  have := cl_lt hk
  rw [hX (2 * k) (by omega), hX (2 * k + 1) (by omega), hY k (by omega), hZ k (by omega)]
  exact h.2 k hk
theorem wh_x {n n' m m' : Int32} {X X' Y Y' : Nat → Int32} (h : WH n X m Y) (en : n' = n) (em : m' = m) (hX : ∀ j, j < n.toNatClampNeg * 2 → X' j = X j) (hY : ∀ j, j < 12 → Y' j = Y j) : WH n' X' m' Y' := by
  subst en em
  refine ⟨h.1, fun k hk => ?_, fun w hw => ?_⟩
  · have := cl_lt hk
    rw [hX (2 * k) (by omega), hX (2 * k + 1) (by omega)]
    exact h.2.1 k hk
  · rw [hY w hw, lfh_x _ (fun j hj => hX j (by omega))]
    exact h.2.2 w hw
theorem w1_0 {a b : Int} {X Y : Nat → Int32} : W1 a b 0 X 0 Y := ⟨rfl, fun k hk => by simp only [show (0 : Int32).toInt = 0 from rfl] at hk; omega⟩
theorem w2_0 {a b c d : Int} {X Y Z : Nat → Int32} : W2 a b c d 0 X 0 Y Z := ⟨rfl, fun k hk => by simp only [show (0 : Int32).toInt = 0 from rfl] at hk; omega⟩
theorem wh_0 {X Y : Nat → Int32} (h : ∀ w, w < 12 → Y w = 0) : WH 0 X 0 Y := ⟨rfl, fun k hk => by simp only [show (0 : Int32).toInt = 0 from rfl] at hk; omega, fun w hw => by rw [h w hw]; rfl⟩
theorem w1_add {a b : Int} {n : Nat} {X X' Y Y' : Nat → Int32} {v : Int32} (h : W1 a b (nI n) X (nI n) Y) (hn : n < 400) (hv : R a b v) (x1 : X' n = v) (x2 : ∀ k, k < n → X' k = X k) (y1 : Y' n = v) (y2 : ∀ k, k < n → Y' k = Y k) : W1 a b (nI (n + 1)) X' (nI (n + 1)) Y' := by
  refine ⟨rfl, fun k hk => ?_⟩
  rw [nI_toInt (by omega)] at hk
  by_cases e : k = n
  · subst e; rw [x1, y1]; exact ⟨rfl, hv⟩
  · rw [x2 k (by omega), y2 k (by omega)]
    exact h.2 k (by rw [nI_toInt (by omega)]; omega)
theorem w2_add {a b c d : Int} {n : Nat} {X X' Y Y' Z Z' : Nat → Int32} {u v : Int32} (h : W2 a b c d (nI n) X (nI n) Y Z) (hn : n < 400) (hu : R a b u) (hv : R c d v) (x0 : X' (2 * n) = u) (x1 : X' (2 * n + 1) = v) (x2 : ∀ k, k < 2 * n → X' k = X k) (y1 : Y' n = u) (y2 : ∀ k, k < n → Y' k = Y k) (z1 : Z' n = v) (z2 : ∀ k, k < n → Z' k = Z k) : W2 a b c d (nI (n + 1)) X' (nI (n + 1)) Y' Z' := by
  refine ⟨rfl, fun k hk => ?_⟩
  rw [nI_toInt (by omega)] at hk
  by_cases e : k = n
  · subst e; rw [x0, x1, y1, z1]; exact ⟨⟨rfl, hu⟩, rfl, hv⟩
  · rw [x2 (2 * k) (by omega), x2 (2 * k + 1) (by omega), y2 k (by omega), z2 k (by omega)]
    exact h.2 k (by rw [nI_toInt (by omega)]; omega)
theorem wh_add {n : Nat} {X X' Y Y' : Nat → Int32} {u v : Int32} (h : WH (nI n) X (nI n) Y) (hn : n < 400) (hu : R 0 11 u) (hv : R 0 11 v) (x0 : X' (2 * n) = u) (x1 : X' (2 * n + 1) = v) (x2 : ∀ k, k < 2 * n → X' k = X k) (y1 : ∀ w, w < 12 → Y' w = if nI w = u ∧ Y w = 0 then v + 1 else Y w) : WH (nI (n + 1)) X' (nI (n + 1)) Y' := by
  refine ⟨rfl, fun k hk => ?_, fun w hw => ?_⟩
  · rw [nI_toInt (by omega)] at hk
    by_cases e : k = n
    · subst e; rw [x0, x1]; exact ⟨hu, hv⟩
    · rw [x2 (2 * k) (by omega), x2 (2 * k + 1) (by omega)]
      exact h.2.1 k (by rw [nI_toInt (by omega)]; omega)
  · have e := h.2.2 w hw
    rw [show (nI n).toNatClampNeg = n from nI_clamp (by omega)] at e
    rw [show (nI (n + 1)).toNatClampNeg = n + 1 from nI_clamp (by omega), lfh, lfh_x n (fun j hj => x2 j (by omega)), ← e, x0, x1, y1 w hw]
    by_cases c : Y w = 0
    · rw [if_pos c]
      by_cases c2 : nI w = u
      · rw [if_pos ⟨c2, c⟩, if_pos c2.symm]
      · rw [if_neg (fun z => c2 z.1), if_neg (fun z => c2 z.symm), c]
    · rw [if_neg c, if_neg (fun z => c z.2)]
def LS_piece (h : PH) : Prop := W1 0 99 (h 18 3) (h 19) (h 104 42) (h 127)
def LI_piece (h : PH) : Prop := W1 0 99 (h 52 3) (h 53) (h 148 119) (fun k => h 148 (175 + 1 * k))
def LS_dough (h : PH) : Prop := W1 1 30 (h 20 3) (h 21) (h 104 45) (h 129)
def LI_dough (h : PH) : Prop := W1 1 30 (h 54 3) (h 55) (h 148 120) (fun k => h 148 (184 + 5 * k))
def LS_mark (h : PH) : Prop := W1 1 60 (h 22 3) (h 23) (h 104 49) (h 132)
def LI_mark (h : PH) : Prop := W1 1 60 (h 56 3) (h 57) (h 148 121) (fun k => h 148 (224 + 1 * k))
def LS_bite (h : PH) : Prop := W2 0 255 0 9 (h 24 3) (h 25) (h 104 51) (h 133) (h 134)
def LI_bite (h : PH) : Prop := W2 0 255 0 9 (h 58 3) (h 59) (h 148 122) (fun k => h 148 (185 + 5 * k)) (fun k => h 148 (186 + 5 * k))
def LS_crumb (h : PH) : Prop := W1 0 3 (h 26 3) (h 27) (h 104 54) (h 135)
def LI_crumb (h : PH) : Prop := W1 0 3 (h 60 3) (h 61) (h 148 123) (fun k => h 148 (229 + 1 * k))
def LS_loaf (h : PH) : Prop := W2 1 30 1 30 (h 28 3) (h 29) (h 104 57) (h 137) (h 138)
def LI_loaf (h : PH) : Prop := W2 1 30 1 30 (h 62 3) (h 63) (h 148 124) (fun k => h 148 (245 + 2 * k)) (fun k => h 148 (246 + 2 * k))
def LS_heir (h : PH) : Prop := WH (h 30 3) (h 31) (h 104 62) (h 141)
def LI_heir (h : PH) : Prop := WH (h 64 3) (h 65) (h 148 125) (fun k => h 148 (130 + 4 * k))
def LS_member (h : PH) : Prop := W2 0 4095 1 9 (h 32 3) (h 33) (h 104 66) (h 144) (h 145)
def LI_member (h : PH) : Prop := W2 0 4095 1 9 (h 66 3) (h 67) (h 148 126) (fun k => h 148 (187 + 5 * k)) (fun k => h 148 (188 + 5 * k))
def LSa (h : PH) : Prop := LS_piece h ∧ LS_dough h ∧ LS_mark h ∧ LS_bite h ∧ LS_crumb h ∧ LS_loaf h ∧ LS_heir h ∧ LS_member h
def LIa (h : PH) : Prop := LI_piece h ∧ LI_dough h ∧ LI_mark h ∧ LI_bite h ∧ LI_crumb h ∧ LI_loaf h ∧ LI_heir h ∧ LI_member h
def RLA (h : PH) : Prop := LSa h ∧ (¬ h 104 72 = 0 → LIa h) ∧ h 0 13 = h 104 72 ∧ h 85 4 = h 104 11
theorem ls_fr_piece {h g : PH} (e1 : g 18 = h 18) (e2 : g 19 = h 19) (e3 : g 104 42 = h 104 42) (y0 : g 127 = h 127) : LS_piece h → LS_piece g := fun q => by
  unfold LS_piece at q ⊢
  rw [e1, e2, e3, y0]
  exact q
theorem li_fr_piece {h g : PH} (e1 : g 52 = h 52) (e2 : g 53 = h 53) (e3 : g 148 = h 148) : LI_piece h → LI_piece g := fun q => by
  unfold LI_piece at q ⊢
  rw [e1, e2, e3]
  exact q
theorem ls_fr_dough {h g : PH} (e1 : g 20 = h 20) (e2 : g 21 = h 21) (e3 : g 104 45 = h 104 45) (y0 : g 129 = h 129) : LS_dough h → LS_dough g := fun q => by
  unfold LS_dough at q ⊢
  rw [e1, e2, e3, y0]
  exact q
theorem li_fr_dough {h g : PH} (e1 : g 54 = h 54) (e2 : g 55 = h 55) (e3 : g 148 = h 148) : LI_dough h → LI_dough g := fun q => by
  unfold LI_dough at q ⊢
  rw [e1, e2, e3]
  exact q
theorem ls_fr_mark {h g : PH} (e1 : g 22 = h 22) (e2 : g 23 = h 23) (e3 : g 104 49 = h 104 49) (y0 : g 132 = h 132) : LS_mark h → LS_mark g := fun q => by
  unfold LS_mark at q ⊢
  rw [e1, e2, e3, y0]
  exact q
theorem li_fr_mark {h g : PH} (e1 : g 56 = h 56) (e2 : g 57 = h 57) (e3 : g 148 = h 148) : LI_mark h → LI_mark g := fun q => by
  unfold LI_mark at q ⊢
  rw [e1, e2, e3]
  exact q
theorem ls_fr_bite {h g : PH} (e1 : g 24 = h 24) (e2 : g 25 = h 25) (e3 : g 104 51 = h 104 51) (y0 : g 133 = h 133) (y1 : g 134 = h 134) : LS_bite h → LS_bite g := fun q => by
  unfold LS_bite at q ⊢
  rw [e1, e2, e3, y0, y1]
  exact q
theorem li_fr_bite {h g : PH} (e1 : g 58 = h 58) (e2 : g 59 = h 59) (e3 : g 148 = h 148) : LI_bite h → LI_bite g := fun q => by
  unfold LI_bite at q ⊢
  rw [e1, e2, e3]
  exact q
theorem ls_fr_crumb {h g : PH} (e1 : g 26 = h 26) (e2 : g 27 = h 27) (e3 : g 104 54 = h 104 54) (y0 : g 135 = h 135) : LS_crumb h → LS_crumb g := fun q => by
  unfold LS_crumb at q ⊢
  rw [e1, e2, e3, y0]
  exact q
theorem li_fr_crumb {h g : PH} (e1 : g 60 = h 60) (e2 : g 61 = h 61) (e3 : g 148 = h 148) : LI_crumb h → LI_crumb g := fun q => by
  unfold LI_crumb at q ⊢
  rw [e1, e2, e3]
  exact q
theorem ls_fr_loaf {h g : PH} (e1 : g 28 = h 28) (e2 : g 29 = h 29) (e3 : g 104 57 = h 104 57) (y0 : g 137 = h 137) (y1 : g 138 = h 138) : LS_loaf h → LS_loaf g := fun q => by
  unfold LS_loaf at q ⊢
  rw [e1, e2, e3, y0, y1]
  exact q
theorem li_fr_loaf {h g : PH} (e1 : g 62 = h 62) (e2 : g 63 = h 63) (e3 : g 148 = h 148) : LI_loaf h → LI_loaf g := fun q => by
  unfold LI_loaf at q ⊢
  rw [e1, e2, e3]
  exact q
theorem ls_fr_heir {h g : PH} (e1 : g 30 = h 30) (e2 : g 31 = h 31) (e3 : g 104 62 = h 104 62) (y0 : g 141 = h 141) : LS_heir h → LS_heir g := fun q => by
  unfold LS_heir at q ⊢
  rw [e1, e2, e3, y0]
  exact q
theorem li_fr_heir {h g : PH} (e1 : g 64 = h 64) (e2 : g 65 = h 65) (e3 : g 148 = h 148) : LI_heir h → LI_heir g := fun q => by
  unfold LI_heir at q ⊢
  rw [e1, e2, e3]
  exact q
theorem ls_fr_member {h g : PH} (e1 : g 32 = h 32) (e2 : g 33 = h 33) (e3 : g 104 66 = h 104 66) (y0 : g 144 = h 144) (y1 : g 145 = h 145) : LS_member h → LS_member g := fun q => by
  unfold LS_member at q ⊢
  rw [e1, e2, e3, y0, y1]
  exact q
theorem li_fr_member {h g : PH} (e1 : g 66 = h 66) (e2 : g 67 = h 67) (e3 : g 148 = h 148) : LI_member h → LI_member g := fun q => by
  unfold LI_member at q ⊢
  rw [e1, e2, e3]
  exact q
theorem lia_fr {h g : PH} (hc : ∀ b, 52 ≤ b → b ≤ 67 → g b = h b) (e3 : g 148 = h 148) : LIa h → LIa g := fun q => ⟨li_fr_piece (hc 52 (by decide) (by decide)) (hc 53 (by decide) (by decide)) e3 q.1, li_fr_dough (hc 54 (by decide) (by decide)) (hc 55 (by decide) (by decide)) e3 q.2.1, li_fr_mark (hc 56 (by decide) (by decide)) (hc 57 (by decide) (by decide)) e3 q.2.2.1, li_fr_bite (hc 58 (by decide) (by decide)) (hc 59 (by decide) (by decide)) e3 q.2.2.2.1, li_fr_crumb (hc 60 (by decide) (by decide)) (hc 61 (by decide) (by decide)) e3 q.2.2.2.2.1, li_fr_loaf (hc 62 (by decide) (by decide)) (hc 63 (by decide) (by decide)) e3 q.2.2.2.2.2.1, li_fr_heir (hc 64 (by decide) (by decide)) (hc 65 (by decide) (by decide)) e3 q.2.2.2.2.2.2.1, li_fr_member (hc 66 (by decide) (by decide)) (hc 67 (by decide) (by decide)) e3 q.2.2.2.2.2.2.2⟩
def KC : List Nat := [0, 18, 19, 20, 21, 22, 23, 24, 25, 26, 27, 28, 29, 30, 31, 32, 33, 52, 53, 54, 55, 56, 57, 58, 59, 60, 61, 62, 63, 64, 65, 66, 67, 85]
def KM : List Nat := [1011, 1072, 1042, 1045, 1049, 1051, 1054, 1057, 1062, 1066, 127, 129, 132, 133, 134, 135, 137, 138, 141, 144, 145, 148]
/-- a call that leaves all these cells as they were keeps the relation -/
theorem rla_fr {h g : PH} (hc : ∀ b, b ∈ KC → g b = h b) (h4 : ∀ j, 1000 + j ∈ KM → g 104 j = h 104 j) (hm : ∀ b, 104 < b → b ∈ KM → g b = h b) (rl : RLA h) : RLA g := by
  obtain ⟨q, qi, qf, qt⟩ := rl
  refine ⟨⟨ls_fr_piece (hc 18 (by decide)) (hc 19 (by decide)) (h4 42 (by decide)) (hm 127 (by decide) (by decide)) q.1, ls_fr_dough (hc 20 (by decide)) (hc 21 (by decide)) (h4 45 (by decide)) (hm 129 (by decide) (by decide)) q.2.1, ls_fr_mark (hc 22 (by decide)) (hc 23 (by decide)) (h4 49 (by decide)) (hm 132 (by decide) (by decide)) q.2.2.1, ls_fr_bite (hc 24 (by decide)) (hc 25 (by decide)) (h4 51 (by decide)) (hm 133 (by decide) (by decide)) (hm 134 (by decide) (by decide)) q.2.2.2.1, ls_fr_crumb (hc 26 (by decide)) (hc 27 (by decide)) (h4 54 (by decide)) (hm 135 (by decide) (by decide)) q.2.2.2.2.1, ls_fr_loaf (hc 28 (by decide)) (hc 29 (by decide)) (h4 57 (by decide)) (hm 137 (by decide) (by decide)) (hm 138 (by decide) (by decide)) q.2.2.2.2.2.1, ls_fr_heir (hc 30 (by decide)) (hc 31 (by decide)) (h4 62 (by decide)) (hm 141 (by decide) (by decide)) q.2.2.2.2.2.2.1, ls_fr_member (hc 32 (by decide)) (hc 33 (by decide)) (h4 66 (by decide)) (hm 144 (by decide) (by decide)) (hm 145 (by decide) (by decide)) q.2.2.2.2.2.2.2⟩, fun z => lia_fr (fun b h1 h2 => hc b ?_) (hm 148 (by decide) (by decide)) (qi ?_), ?_, ?_⟩
  · have : ∀ b, b < 68 → 52 ≤ b → b ∈ KC := by decide
    exact this b (by omega) h1
  · rw [h4 72 (by decide)] at z; exact z
  · rw [hc 0 (by decide), h4 72 (by decide)]; exact qf
  · rw [hc 85 (by decide), h4 11 (by decide)]; exact qt
theorem rla_cs {S T : List Nat} {h h1 h2 : PH} (f1 : Fr S h1 h) (f2 : Fk T h2 h1) (s1 : ∀ b, b ∈ KC → b ∉ S) (s2 : ∀ b, b ∈ KM → b ∉ T) (s3 : ∀ b, b ∈ S → b < 104) (s4 : ∀ b, b ∈ T → 104 ≤ b) (rl : RLA h) : RLA h2 := by
  have k4 : ∀ j, kk 104 j = 1000 + j := fun j => rfl
  have kn : ∀ b j, b ≠ 104 → kk b j = b := fun b j hb => by unfold kk; rw [if_neg hb]
  refine rla_fr (fun b hb => ?_) (fun j hj => ?_) (fun b h4 hb => ?_) rl
  · have lt : b < 104 := by
      have : ∀ b, b ∈ KC → b < 104 := by decide
      exact this b hb
    rw [← f1 b (s1 b hb)]
    funext j
    exact f2 b j (by rw [kn b j (by omega)]; intro q; have := s4 b q; omega)
  · rw [← f1 104 (fun q => by have := s3 104 q; omega)]
    exact f2 104 j (by rw [k4]; exact s2 _ hj)
  · rw [← f1 b (fun q => by have := s3 b q; omega)]
    funext j
    exact f2 b j (by rw [kn b j (by omega)]; exact s2 b hb)
theorem rla_first : RLA hI := by
  have n0 : ¬ ¬ hI 104 72 = 0 := fun q => q rfl
  have z : ∀ w, w < 12 → hI 141 w = 0 := fun w _ => rfl
  exact ⟨⟨w1_0, w1_0, w1_0, w2_0, w1_0, w2_0, wh_0 z, w2_0⟩, fun q => absurd q n0, rfl, rfl⟩
end
