/-! THE MODEL'S IMAGE: what it holds. Position p of its row is the slot pm p. Printed by wip/gen/pimc.py -/
def pm (p : Nat) : Nat × Nat :=
  if p < 115 then (105, p) else
  if p < 127 then (104, [6, 33, 35, 37, 42, 45, 49, 51, 54, 57, 62, 66].getD (p - 115) 0) else
  if p < 175 then ([108, 109, 123, 141].getD ((p - 127) % 4) 0, (p - 127) / 4) else
  if p < 184 then (127, p - 175) else
  if p < 224 then ([129, 133, 134, 144, 145].getD ((p - 184) % 5) 0, (p - 184) / 5) else
  if p < 229 then (132, p - 224) else
  if p < 245 then (135, p - 229) else
  if p < 257 then ([137, 138].getD ((p - 245) % 2) 0, (p - 245) / 2) else
  if p < 305 then (121, p - 257) else
  if p < 385 then (122, p - 305) else
  if p < 985 then (110, p - 385) else
  if p < 986 then (113, 0) else
  if p < 1050 then ([114, 115, 116, 117].getD ((p - 986) % 4) 0, (p - 986) / 4) else
  ([118, 119].getD ((p - 1050) % 2) 0, (p - 1050) / 2)
def pv (c j : Nat) : Nat :=
  if c = 105 then j else
  if c = 104 then 115 + [6, 33, 35, 37, 42, 45, 49, 51, 54, 57, 62, 66].idxOf j else
  if c = 108 then 127 + 4 * j else if c = 109 then 128 + 4 * j else if c = 123 then 129 + 4 * j else if c = 141 then 130 + 4 * j else
  if c = 127 then 175 + j else
  if c = 129 then 184 + 5 * j else if c = 133 then 185 + 5 * j else if c = 134 then 186 + 5 * j else if c = 144 then 187 + 5 * j else if c = 145 then 188 + 5 * j else
  if c = 132 then 224 + j else if c = 135 then 229 + j else
  if c = 137 then 245 + 2 * j else if c = 138 then 246 + 2 * j else
  if c = 121 then 257 + j else if c = 122 then 305 + j else if c = 110 then 385 + j else
  if c = 113 then 985 else
  if c = 114 then 986 + 4 * j else if c = 115 then 987 + 4 * j else if c = 116 then 988 + 4 * j else if c = 117 then 989 + 4 * j else
  if c = 118 then 1050 + 2 * j else 1051 + 2 * j
theorem pv_pm : ∀ p, p < 1850 → pv (pm p).1 (pm p).2 = p := by decide +kernel
theorem pm_ok : ∀ p, p < 1850 → (pm p).1 ≠ 148 ∧ ((pm p).1 = 104 → (pm p).2 ≠ 73 ∧ (pm p).2 ≠ 71 ∧ (pm p).2 ≠ 72 ∧ (pm p).2 ≠ 0 ∧ (pm p).2 ≠ 3) := by decide +kernel
theorem pm_inj {p q : Nat} (hp : p < 1850) (hq : q < 1850) (h : p ≠ q) : (pm q).1 ≠ (pm p).1 ∨ (pm q).2 ≠ (pm p).2 := by
  by_cases e1 : (pm q).1 = (pm p).1
  · refine Or.inr (fun e2 => h ?_)
    rw [← pv_pm p hp, ← pv_pm q hq, e1, e2]
  · exact Or.inl e1
/-- the image's state ahead of position p; o: the heap it began with -/
def SI (o : PH) (t : Int32) (p : Nat) (g : PH) : Prop := g 104 73 = nI p ∧ g 104 71 = t ∧ g 104 72 = 1 ∧ (¬ t = 0 → (∀ q, q < p → g 148 q = o (pm q).1 (pm q).2) ∧ ∀ b j, b ≠ 148 → (b = 104 → j ≠ 73) → g b j = o b j) ∧ (t = 0 → (∀ q, q < p → g (pm q).1 (pm q).2 = o 148 q) ∧ g 148 = o 148)
theorem up_ne {h : PH} {c j b i : Nat} {v : Int32} (hb : b ≠ c ∨ i ≠ j) : up h c j v b i = h b i := by
  rw [up_at]
  by_cases e : b = c
  · rw [if_pos e]
    by_cases e2 : i = j
    · exact absurd e2 (by rcases hb with q | q; exact absurd e q; exact q)
    · rw [if_neg e2, e]
  · rw [if_neg e]
theorem si_step {o g : PH} {t : Int32} {p C J : Nat} (st : SI o t p g) (hp : p < 1850) (hpm : pm p = (C, J)) : ∃ r g2, mm_keeps (g C J) g = some (r, g2) ∧ SI o t (p + 1) (up g2 C J r) := by
  obtain ⟨e, et, e72, s1, s2⟩ := st
  have ok := pm_ok p hp
  rw [hpm] at ok
  have oC : C ≠ 148 := ok.1
  have oJ : C = 104 → J ≠ 73 ∧ J ≠ 71 ∧ J ≠ 72 := fun q => ⟨(ok.2 q).1, (ok.2 q).2.1, (ok.2 q).2.2.1⟩
  rw [kp_at g p _ (by omega) e]
  have n73 : ∀ (g2 : PH) (r : Int32) (x : Nat), (x = 73 ∨ x = 71 ∨ x = 72) → up g2 C J r 104 x = g2 104 x := fun g2 r x hx => up_ne (by
    by_cases q : 104 = C
    · have := oJ q.symm
      omega
    · exact Or.inl q)
  by_cases c : g 104 71 = 0
  · rw [if_pos c]
    have t0 : t = 0 := by rw [← et]; exact c
    refine ⟨_, _, rfl, ?_, ?_, ?_, fun q => absurd t0 q, fun _ => ⟨fun q hq => ?_, ?_⟩⟩
    · rw [n73 _ _ 73 (Or.inl rfl), up_same]
    · rw [n73 _ _ 71 (Or.inr (Or.inl rfl)), up_oj (by decide)]; exact et
    · rw [n73 _ _ 72 (Or.inr (Or.inr rfl)), up_oj (by decide)]; exact e72
    · by_cases eq : q = p
      · subst eq
        rw [hpm, up_same, (s2 t0).2]
      · have ne := pm_inj hp (q := q) (by omega) (fun w => eq w.symm)
        rw [hpm] at ne
        rw [up_ne ne, up_ne ?_]
        · exact (s2 t0).1 q (by omega)
        · by_cases q4 : (pm q).1 = 104
          · exact Or.inr ((pm_ok q (by omega)).2 q4).1
          · exact Or.inl q4
    · rw [← (s2 t0).2]
      funext j
      rw [up_oc (fun q => oC q.symm), up_oc (by decide)]
  · rw [if_neg c]
    have t0 : ¬ t = 0 := by rw [← et]; exact c
    refine ⟨_, _, rfl, ?_, ?_, ?_, fun _ => ⟨fun q hq => ?_, fun b j hb hj => ?_⟩, fun q => absurd q t0⟩
    · rw [n73 _ _ 73 (Or.inl rfl), up_oc (by decide), up_same]
    · rw [n73 _ _ 71 (Or.inr (Or.inl rfl)), up_oc (by decide), up_oj (by decide)]; exact et
    · rw [n73 _ _ 72 (Or.inr (Or.inr rfl)), up_oc (by decide), up_oj (by decide)]; exact e72
    · rw [up_oc (fun q => oC q.symm)]
      by_cases eq : q = p
      · subst eq
        rw [up_same, hpm]
        exact (s1 t0).2 C J oC (fun q => (oJ q).1)
      · rw [up_oj eq, up_oc (by decide)]
        exact (s1 t0).1 q (by omega)
    · by_cases eb : b = C ∧ j = J
      · rw [eb.1, eb.2, up_same]
        exact (s1 t0).2 C J oC (fun q => (oJ q).1)
      · rw [up_ne (by
          by_cases e1 : b = C
          · exact Or.inr (fun e2 => eb ⟨e1, e2⟩)
          · exact Or.inl e1), up_oc hb, up_ne (by
          by_cases e1 : b = 104
          · exact Or.inr (hj e1)
          · exact Or.inl e1)]
        exact (s1 t0).2 b j hb hj
theorem si0 {ρ : Type} {Q : ρ → Prop} {o h : PH} {C J p : Nat} {t : Int32} {K : PH → Option ρ} (st : SI o t p h) (hp : p < 1850) (hpm : pm p = (C, J)) (hK : ∀ h3, SI o t (p + 1) h3 → Sf (K h3) Q) : Sf (bd2 (mm_keeps (h C J) h) fun r h2 => lt (up h2 C J r) fun h3 => K h3) Q := by
  obtain ⟨r, h2, e1, s1⟩ := si_step st hp hpm
  rw [e1, bd2_e, lt_e]
  exact hK _ s1
theorem siA {ρ : Type} {Q : ρ → Prop} {o h : PH} {C J p N : Nat} {v t : Int32} {K : PH → Option ρ} (st : SI o t p h) (hp : p < 1850) (hpm : pm p = (C, J)) (hc : vp_in v N) (hK : ∀ h3, SI o t (p + 1) h3 → Sf (K h3) Q) : Sf (bd2 (mm_keeps (h C J) h) fun r h2 => ck v N <| lt (up h2 C J r) fun h3 => K h3) Q := by
  obtain ⟨r, h2, e1, s1⟩ := si_step st hp hpm
  rw [e1, bd2_e, ck_in hc, lt_e]
  exact hK _ s1
theorem pb_now_0 : ∀ k, k < 115 → pm (0 + 1 * k + 0) = (105, k) := by decide +kernel
theorem kc_now (o : PH) (t : Int32) (p1 : Int32) (k0 : PH → Option (Int32 × PH)) {Q : Int32 × PH → Prop} (hk : ∀ g, SI o t 115 g → Sf (k0 g) Q) : ∀ (n k : Nat) (h : PH), 115 < n + k → k ≤ 115 → SI o t (0 + 1 * k) h → Sf (mm_image_L35 p1 k0 n (nI k) h) Q := by
  intro n
  induction n with
  | zero => intro k h h1 h2; omega
  | succ n ih =>
    intro k h h1 h2 st
    rw [mm_image_L35]
    by_cases hk1 : k = 115
    · subst hk1
      rw [if_pos (show (115 : Int32) ≤ nI 115 by decide)]
      exact hk h st
    · rw [if_neg (show ¬ (115 : Int32) ≤ nI k from nI_ge (b := 115) (by omega) (by omega))]
      have ixk : ix (nI k) = k := nI_clamp (by omega)
      simp only [ixk]
      rw [ck_nI (by omega) (by omega)]
      refine siA st (by omega) (pb_now_0 k (by omega)) (vp_in_nI (by omega) (by omega)) (fun h3 st => ?_)
      rw [nI_1]
      exact ih (k + 1) h3 (by omega) (by omega) st
theorem kc_many (o : PH) (t : Int32) {h0 : PH} (st : SI o t 115 h0) : Sf (mm_keepsMany h0) (fun g => SI o t 127 g) := by
  unfold mm_keepsMany
  refine si0 (p := 115) st (by decide) rfl (fun h3 st => ?_)
  refine si0 (p := 116) st (by decide) rfl (fun h3 st => ?_)
  refine si0 (p := 117) st (by decide) rfl (fun h3 st => ?_)
  refine si0 (p := 118) st (by decide) rfl (fun h3 st => ?_)
  refine si0 (p := 119) st (by decide) rfl (fun h3 st => ?_)
  refine si0 (p := 120) st (by decide) rfl (fun h3 st => ?_)
  refine si0 (p := 121) st (by decide) rfl (fun h3 st => ?_)
  refine si0 (p := 122) st (by decide) rfl (fun h3 st => ?_)
  refine si0 (p := 123) st (by decide) rfl (fun h3 st => ?_)
  refine si0 (p := 124) st (by decide) rfl (fun h3 st => ?_)
  refine si0 (p := 125) st (by decide) rfl (fun h3 st => ?_)
  refine si0 (p := 126) st (by decide) rfl (fun h3 st => ?_)
  exact s_some st
theorem pb_hou_0 : ∀ k, k < 12 → pm (127 + 4 * k + 0) = (108, k) := by decide +kernel
theorem pb_hou_1 : ∀ k, k < 12 → pm (127 + 4 * k + 1) = (109, k) := by decide +kernel
theorem pb_hou_2 : ∀ k, k < 12 → pm (127 + 4 * k + 2) = (123, k) := by decide +kernel
theorem pb_hou_3 : ∀ k, k < 12 → pm (127 + 4 * k + 3) = (141, k) := by decide +kernel
theorem kc_hou (o : PH) (t : Int32) (k0 : PH → Option (PH)) {Q : PH → Prop} (hk : ∀ g, SI o t 175 g → Sf (k0 g) Q) : ∀ (n k : Nat) (h : PH), 12 < n + k → k ≤ 12 → SI o t (127 + 4 * k) h → Sf (mm_keepsTold_L2 k0 n (nI k) h) Q := by
  intro n
  induction n with
  | zero => intro k h h1 h2; omega
  | succ n ih =>
    intro k h h1 h2 st
    rw [mm_keepsTold_L2]
    by_cases hk1 : k = 12
    · subst hk1
      rw [if_pos (show (12 : Int32) ≤ nI 12 by decide)]
      exact hk h st
    · rw [if_neg (show ¬ (12 : Int32) ≤ nI k from nI_ge (b := 12) (by omega) (by omega))]
      have ixk : ix (nI k) = k := nI_clamp (by omega)
      simp only [ixk]
      rw [ck_nI (by omega) (by omega)]
      refine siA st (by omega) (pb_hou_0 k (by omega)) (vp_in_nI (by omega) (by omega)) (fun h3 st => ?_)
      rw [ck_nI (by omega) (by omega)]
      refine siA st (by omega) (pb_hou_1 k (by omega)) (vp_in_nI (by omega) (by omega)) (fun h3 st => ?_)
      rw [ck_nI (by omega) (by omega)]
      refine siA st (by omega) (pb_hou_2 k (by omega)) (vp_in_nI (by omega) (by omega)) (fun h3 st => ?_)
      rw [ck_nI (by omega) (by omega)]
      refine siA st (by omega) (pb_hou_3 k (by omega)) (vp_in_nI (by omega) (by omega)) (fun h3 st => ?_)
      rw [nI_1]
      exact ih (k + 1) h3 (by omega) (by omega) st
theorem pb_pie_0 : ∀ k, k < 9 → pm (175 + 1 * k + 0) = (127, k) := by decide +kernel
theorem kc_pie (o : PH) (t : Int32) (k0 : PH → Option (PH)) {Q : PH → Prop} (hk : ∀ g, SI o t 184 g → Sf (k0 g) Q) : ∀ (n k : Nat) (h : PH), 9 < n + k → k ≤ 9 → SI o t (175 + 1 * k) h → Sf (mm_keepsTold_L80 k0 n (nI k) h) Q := by
  intro n
  induction n with
  | zero => intro k h h1 h2; omega
  | succ n ih =>
    intro k h h1 h2 st
    rw [mm_keepsTold_L80]
    by_cases hk1 : k = 9
    · subst hk1
      rw [if_pos (show (9 : Int32) ≤ nI 9 by decide)]
      exact hk h st
    · rw [if_neg (show ¬ (9 : Int32) ≤ nI k from nI_ge (b := 9) (by omega) (by omega))]
      have ixk : ix (nI k) = k := nI_clamp (by omega)
      simp only [ixk]
      rw [ck_nI (by omega) (by omega)]
      refine siA st (by omega) (pb_pie_0 k (by omega)) (vp_in_nI (by omega) (by omega)) (fun h3 st => ?_)
      rw [nI_1]
      exact ih (k + 1) h3 (by omega) (by omega) st
theorem pb_dou_0 : ∀ k, k < 8 → pm (184 + 5 * k + 0) = (129, k) := by decide +kernel
theorem pb_dou_1 : ∀ k, k < 8 → pm (184 + 5 * k + 1) = (133, k) := by decide +kernel
theorem pb_dou_2 : ∀ k, k < 8 → pm (184 + 5 * k + 2) = (134, k) := by decide +kernel
theorem pb_dou_3 : ∀ k, k < 8 → pm (184 + 5 * k + 3) = (144, k) := by decide +kernel
theorem pb_dou_4 : ∀ k, k < 8 → pm (184 + 5 * k + 4) = (145, k) := by decide +kernel
theorem kc_dou (o : PH) (t : Int32) (k0 : PH → Option (PH)) {Q : PH → Prop} (hk : ∀ g, SI o t 224 g → Sf (k0 g) Q) : ∀ (n k : Nat) (h : PH), 8 < n + k → k ≤ 8 → SI o t (184 + 5 * k) h → Sf (mm_keepsTold_L110 k0 n (nI k) h) Q := by
  intro n
  induction n with
  | zero => intro k h h1 h2; omega
  | succ n ih =>
    intro k h h1 h2 st
    rw [mm_keepsTold_L110]
    by_cases hk1 : k = 8
    · subst hk1
      rw [if_pos (show (8 : Int32) ≤ nI 8 by decide)]
      exact hk h st
    · rw [if_neg (show ¬ (8 : Int32) ≤ nI k from nI_ge (b := 8) (by omega) (by omega))]
      have ixk : ix (nI k) = k := nI_clamp (by omega)
      simp only [ixk]
      rw [ck_nI (by omega) (by omega)]
      refine siA st (by omega) (pb_dou_0 k (by omega)) (vp_in_nI (by omega) (by omega)) (fun h3 st => ?_)
      rw [ck_nI (by omega) (by omega)]
      refine siA st (by omega) (pb_dou_1 k (by omega)) (vp_in_nI (by omega) (by omega)) (fun h3 st => ?_)
      rw [ck_nI (by omega) (by omega)]
      refine siA st (by omega) (pb_dou_2 k (by omega)) (vp_in_nI (by omega) (by omega)) (fun h3 st => ?_)
      rw [ck_nI (by omega) (by omega)]
      refine siA st (by omega) (pb_dou_3 k (by omega)) (vp_in_nI (by omega) (by omega)) (fun h3 st => ?_)
      rw [ck_nI (by omega) (by omega)]
      refine siA st (by omega) (pb_dou_4 k (by omega)) (vp_in_nI (by omega) (by omega)) (fun h3 st => ?_)
      rw [nI_1]
      exact ih (k + 1) h3 (by omega) (by omega) st
theorem pb_mar_0 : ∀ k, k < 5 → pm (224 + 1 * k + 0) = (132, k) := by decide +kernel
theorem kc_mar (o : PH) (t : Int32) (k0 : PH → Option (PH)) {Q : PH → Prop} (hk : ∀ g, SI o t 229 g → Sf (k0 g) Q) : ∀ (n k : Nat) (h : PH), 5 < n + k → k ≤ 5 → SI o t (224 + 1 * k) h → Sf (mm_keepsTold_L204 k0 n (nI k) h) Q := by
  intro n
  induction n with
  | zero => intro k h h1 h2; omega
  | succ n ih =>
    intro k h h1 h2 st
    rw [mm_keepsTold_L204]
    by_cases hk1 : k = 5
    · subst hk1
      rw [if_pos (show (5 : Int32) ≤ nI 5 by decide)]
      exact hk h st
    · rw [if_neg (show ¬ (5 : Int32) ≤ nI k from nI_ge (b := 5) (by omega) (by omega))]
      have ixk : ix (nI k) = k := nI_clamp (by omega)
      simp only [ixk]
      rw [ck_nI (by omega) (by omega)]
      refine siA st (by omega) (pb_mar_0 k (by omega)) (vp_in_nI (by omega) (by omega)) (fun h3 st => ?_)
      rw [nI_1]
      exact ih (k + 1) h3 (by omega) (by omega) st
theorem pb_way_0 : ∀ k, k < 16 → pm (229 + 1 * k + 0) = (135, k) := by decide +kernel
theorem kc_way (o : PH) (t : Int32) (k0 : PH → Option (PH)) {Q : PH → Prop} (hk : ∀ g, SI o t 245 g → Sf (k0 g) Q) : ∀ (n k : Nat) (h : PH), 16 < n + k → k ≤ 16 → SI o t (229 + 1 * k) h → Sf (mm_keepsTold_L233 k0 n (nI k) h) Q := by
  intro n
  induction n with
  | zero => intro k h h1 h2; omega
  | succ n ih =>
    intro k h h1 h2 st
    rw [mm_keepsTold_L233]
    by_cases hk1 : k = 16
    · subst hk1
      rw [if_pos (show (16 : Int32) ≤ nI 16 by decide)]
      exact hk h st
    · rw [if_neg (show ¬ (16 : Int32) ≤ nI k from nI_ge (b := 16) (by omega) (by omega))]
      have ixk : ix (nI k) = k := nI_clamp (by omega)
      simp only [ixk]
      rw [ck_nI (by omega) (by omega)]
      refine siA st (by omega) (pb_way_0 k (by omega)) (vp_in_nI (by omega) (by omega)) (fun h3 st => ?_)
      rw [nI_1]
      exact ih (k + 1) h3 (by omega) (by omega) st
theorem pb_loa_0 : ∀ k, k < 6 → pm (245 + 2 * k + 0) = (137, k) := by decide +kernel
theorem pb_loa_1 : ∀ k, k < 6 → pm (245 + 2 * k + 1) = (138, k) := by decide +kernel
theorem kc_loa (o : PH) (t : Int32) (k0 : PH → Option (PH)) {Q : PH → Prop} (hk : ∀ g, SI o t 257 g → Sf (k0 g) Q) : ∀ (n k : Nat) (h : PH), 6 < n + k → k ≤ 6 → SI o t (245 + 2 * k) h → Sf (mm_keepsTold_L263 k0 n (nI k) h) Q := by
  intro n
  induction n with
  | zero => intro k h h1 h2; omega
  | succ n ih =>
    intro k h h1 h2 st
    rw [mm_keepsTold_L263]
    by_cases hk1 : k = 6
    · subst hk1
      rw [if_pos (show (6 : Int32) ≤ nI 6 by decide)]
      exact hk h st
    · rw [if_neg (show ¬ (6 : Int32) ≤ nI k from nI_ge (b := 6) (by omega) (by omega))]
      have ixk : ix (nI k) = k := nI_clamp (by omega)
      simp only [ixk]
      rw [ck_nI (by omega) (by omega)]
      refine siA st (by omega) (pb_loa_0 k (by omega)) (vp_in_nI (by omega) (by omega)) (fun h3 st => ?_)
      rw [ck_nI (by omega) (by omega)]
      refine siA st (by omega) (pb_loa_1 k (by omega)) (vp_in_nI (by omega) (by omega)) (fun h3 st => ?_)
      rw [nI_1]
      exact ih (k + 1) h3 (by omega) (by omega) st
theorem pb_sky_0 : ∀ k, k < 48 → pm (257 + 1 * k + 0) = (121, k) := by decide +kernel
theorem kc_sky (o : PH) (t : Int32) (k0 : PH → Option (PH)) {Q : PH → Prop} (hk : ∀ g, SI o t 305 g → Sf (k0 g) Q) : ∀ (n k : Nat) (h : PH), 48 < n + k → k ≤ 48 → SI o t (257 + 1 * k) h → Sf (mm_keepsTold_L309 k0 n (nI k) h) Q := by
  intro n
  induction n with
  | zero => intro k h h1 h2; omega
  | succ n ih =>
    intro k h h1 h2 st
    rw [mm_keepsTold_L309]
    by_cases hk1 : k = 48
    · subst hk1
      rw [if_pos (show (48 : Int32) ≤ nI 48 by decide)]
      exact hk h st
    · rw [if_neg (show ¬ (48 : Int32) ≤ nI k from nI_ge (b := 48) (by omega) (by omega))]
      have ixk : ix (nI k) = k := nI_clamp (by omega)
      simp only [ixk]
      rw [ck_nI (by omega) (by omega)]
      refine siA st (by omega) (pb_sky_0 k (by omega)) (vp_in_nI (by omega) (by omega)) (fun h3 st => ?_)
      rw [nI_1]
      exact ih (k + 1) h3 (by omega) (by omega) st
theorem pb_dee_0 : ∀ k, k < 80 → pm (305 + 1 * k + 0) = (122, k) := by decide +kernel
theorem kc_dee (o : PH) (t : Int32) : ∀ (n k : Nat) (h : PH), 80 < n + k → k ≤ 80 → SI o t (305 + 1 * k) h → Sf (mm_keepsTold_L339 n (nI k) h) (fun g => SI o t 385 g) := by
  intro n
  induction n with
  | zero => intro k h h1 h2; omega
  | succ n ih =>
    intro k h h1 h2 st
    rw [mm_keepsTold_L339]
    by_cases hk1 : k = 80
    · subst hk1
      rw [if_pos (show (80 : Int32) ≤ nI 80 by decide)]
      exact s_some st
    · rw [if_neg (show ¬ (80 : Int32) ≤ nI k from nI_ge (b := 80) (by omega) (by omega))]
      have ixk : ix (nI k) = k := nI_clamp (by omega)
      simp only [ixk]
      rw [ck_nI (by omega) (by omega)]
      refine siA st (by omega) (pb_dee_0 k (by omega)) (vp_in_nI (by omega) (by omega)) (fun h3 st => ?_)
      rw [nI_1]
      exact ih (k + 1) h3 (by omega) (by omega) st
theorem kc_told (o : PH) (t : Int32) {h0 : PH} (st : SI o t 127 h0) : Sf (mm_keepsTold h0) (fun g => SI o t 385 g) := by
  unfold mm_keepsTold
  refine kc_hou o t _ (fun g st => ?_) FU 0 _ (by unfold FU; omega) (by omega) st
  refine kc_pie o t _ (fun g st => ?_) FU 0 _ (by unfold FU; omega) (by omega) st
  refine kc_dou o t _ (fun g st => ?_) FU 0 _ (by unfold FU; omega) (by omega) st
  refine kc_mar o t _ (fun g st => ?_) FU 0 _ (by unfold FU; omega) (by omega) st
  refine kc_way o t _ (fun g st => ?_) FU 0 _ (by unfold FU; omega) (by omega) st
  refine kc_loa o t _ (fun g st => ?_) FU 0 _ (by unfold FU; omega) (by omega) st
  refine kc_sky o t _ (fun g st => ?_) FU 0 _ (by unfold FU; omega) (by omega) st
  exact kc_dee o t FU 0 _ (by unfold FU; omega) (by omega) st
theorem pb_boo_0 : ∀ k, k < 600 → pm (385 + 1 * k + 0) = (110, k) := by decide +kernel
theorem kc_boo (o : PH) (t : Int32) (p1 : Int32) (k0 : PH → Option (Int32 × PH)) {Q : Int32 × PH → Prop} (hk : ∀ g, SI o t 985 g → Sf (k0 g) Q) : ∀ (n k : Nat) (h : PH), 600 < n + k → k ≤ 600 → SI o t (385 + 1 * k) h → Sf (mm_image_L73 p1 k0 n (nI k) h) Q := by
  intro n
  induction n with
  | zero => intro k h h1 h2; omega
  | succ n ih =>
    intro k h h1 h2 st
    rw [mm_image_L73]
    by_cases hk1 : k = 600
    · subst hk1
      rw [if_pos (show (600 : Int32) ≤ nI 600 by decide)]
      exact hk h st
    · rw [if_neg (show ¬ (600 : Int32) ≤ nI k from nI_ge (b := 600) (by omega) (by omega))]
      have ixk : ix (nI k) = k := nI_clamp (by omega)
      simp only [ixk]
      rw [ck_nI (by omega) (by omega)]
      refine siA st (by omega) (pb_boo_0 k (by omega)) (vp_in_nI (by omega) (by omega)) (fun h3 st => ?_)
      rw [nI_1]
      exact ih (k + 1) h3 (by omega) (by omega) st
theorem pb_cod_0 : ∀ k, k < 400 → pm (1050 + 2 * k + 0) = (118, k) := by decide +kernel
theorem pb_cod_1 : ∀ k, k < 400 → pm (1050 + 2 * k + 1) = (119, k) := by decide +kernel
theorem kc_cod (o : PH) (t : Int32) : ∀ (n k : Nat) (h : PH), 400 < n + k → k ≤ 400 → SI o t (1050 + 2 * k) h → Sf (mm_keepsLaw_L96 n (nI k) h) (fun g => SI o t 1850 g) := by
  intro n
  induction n with
  | zero => intro k h h1 h2; omega
  | succ n ih =>
    intro k h h1 h2 st
    rw [mm_keepsLaw_L96]
    by_cases hk1 : k = 400
    · subst hk1
      rw [if_pos (show (400 : Int32) ≤ nI 400 by decide)]
      exact s_some st
    · rw [if_neg (show ¬ (400 : Int32) ≤ nI k from nI_ge (b := 400) (by omega) (by omega))]
      have ixk : ix (nI k) = k := nI_clamp (by omega)
      simp only [ixk]
      rw [ck_nI (by omega) (by omega)]
      refine siA st (by omega) (pb_cod_0 k (by omega)) (vp_in_nI (by omega) (by omega)) (fun h3 st => ?_)
      rw [ck_nI (by omega) (by omega)]
      refine siA st (by omega) (pb_cod_1 k (by omega)) (vp_in_nI (by omega) (by omega)) (fun h3 st => ?_)
      rw [nI_1]
      exact ih (k + 1) h3 (by omega) (by omega) st
theorem pb_lin_0 : ∀ k, k < 16 → pm (986 + 4 * k + 0) = (114, k) := by decide +kernel
theorem pb_lin_1 : ∀ k, k < 16 → pm (986 + 4 * k + 1) = (115, k) := by decide +kernel
theorem pb_lin_2 : ∀ k, k < 16 → pm (986 + 4 * k + 2) = (116, k) := by decide +kernel
theorem pb_lin_3 : ∀ k, k < 16 → pm (986 + 4 * k + 3) = (117, k) := by decide +kernel
theorem kc_lin (o : PH) (t : Int32) (k0 : PH → Option (PH)) {Q : PH → Prop} (hk : ∀ g, SI o t 1050 g → Sf (k0 g) Q) : ∀ (n k : Nat) (h : PH), 16 < n + k → k ≤ 16 → SI o t (986 + 4 * k) h → Sf (mm_keepsLaw_L18 k0 n (nI k) h) Q := by
  intro n
  induction n with
  | zero => intro k h h1 h2; omega
  | succ n ih =>
    intro k h h1 h2 st
    rw [mm_keepsLaw_L18]
    by_cases hk1 : k = 16
    · subst hk1
      rw [if_pos (show (16 : Int32) ≤ nI 16 by decide)]
      exact hk h st
    · rw [if_neg (show ¬ (16 : Int32) ≤ nI k from nI_ge (b := 16) (by omega) (by omega))]
      have ixk : ix (nI k) = k := nI_clamp (by omega)
      simp only [ixk]
      rw [ck_nI (by omega) (by omega)]
      refine siA st (by omega) (pb_lin_0 k (by omega)) (vp_in_nI (by omega) (by omega)) (fun h3 st => ?_)
      rw [ck_nI (by omega) (by omega)]
      refine siA st (by omega) (pb_lin_1 k (by omega)) (vp_in_nI (by omega) (by omega)) (fun h3 st => ?_)
      rw [ck_nI (by omega) (by omega)]
      refine siA st (by omega) (pb_lin_2 k (by omega)) (vp_in_nI (by omega) (by omega)) (fun h3 st => ?_)
      rw [ck_nI (by omega) (by omega)]
      refine siA st (by omega) (pb_lin_3 k (by omega)) (vp_in_nI (by omega) (by omega)) (fun h3 st => ?_)
      rw [nI_1]
      exact ih (k + 1) h3 (by omega) (by omega) st
theorem kc_law (o : PH) (t : Int32) {h0 : PH} (st : SI o t 985 h0) : Sf (mm_keepsLaw h0) (fun g => SI o t 1850 g) := by
  unfold mm_keepsLaw
  rw [c0_2]
  refine siA (p := 985) st (by decide) rfl (vp_in_nI (n := 0) (by decide) (by decide)) (fun h3 st => ?_)
  refine kc_lin o t _ (fun g st => ?_) FU 0 _ (by unfold FU; omega) (by omega) st
  exact kc_cod o t FU 0 _ (by unfold FU; omega) (by omega) st
theorem kc_image (p1 : Int32) (hp : p1 = 0 ∨ p1 = 1) (h : PH) (hh : p1 = 1 ∨ ¬ h 104 72 = 0) : ∃ g, mm_image p1 h = some (1, g) ∧ g 104 72 = 1 ∧ (p1 = 1 → (∀ q, q < 1850 → g 148 q = h (pm q).1 (pm q).2) ∧ ∀ b j, b ≠ 148 → (b = 104 → j ≠ 73 ∧ j ≠ 72 ∧ j ≠ 71 ∧ j ≠ 0) → g b j = h b j) ∧ (p1 = 0 → (∀ q, q < 1850 → g (pm q).1 (pm q).2 = h 148 q) ∧ g 148 = h 148 ∧ g 104 3 = 0) := by
  have main : Sf (mm_image p1 h) (fun r => r.1 = 1 ∧ ∃ g, SI (up (up (up (up h 104 0 0) 104 71 p1) 104 72 1) 104 73 0) p1 1850 g ∧ r.2 = if p1 = 0 then up g 104 3 0 else g) := by
    unfold mm_image
    rw [lt_e, jn0_e]
    have body : Sf (kz p1 <| lt (up (up h 104 0 0) 104 71 p1) fun h3 => lt (up h3 104 72 1) fun h4 => lt (up h4 104 73 0) fun h5 => mm_image_L35 p1 (fun (h9 : PH) => bd (mm_keepsMany h9) fun h10 => bd (mm_keepsTold h10) fun h11 => mm_image_L73 p1 (fun (h15 : PH) => bd (mm_keepsLaw h15) fun h16 => if p1 = 0 then lt (up h16 104 3 0) fun h17 => some ((1 : Int32), h17) else some (1, h16)) FU 0 h11) FU 0 h5) (fun r => r.1 = 1 ∧ ∃ g, SI (up (up (up (up h 104 0 0) 104 71 p1) 104 72 1) 104 73 0) p1 1850 g ∧ r.2 = if p1 = 0 then up g 104 3 0 else g) := by
      have kz1 : ∀ {ρ : Type} (q : Option ρ), kz p1 q = q := fun q => by
        unfold kz
        rw [if_pos hp]
      rw [kz1, lt_e, lt_e, lt_e]
      generalize ho : up (up (up (up h 104 0 0) 104 71 p1) 104 72 1) 104 73 0 = o
      have e73 : o 104 73 = nI 0 := by rw [← ho]; exact up_same
      have e71 : o 104 71 = p1 := by rw [← ho, up_oj (by decide), up_oj (by decide), up_same]
      have e72 : o 104 72 = 1 := by rw [← ho, up_oj (by decide), up_same]
      have st : SI o p1 0 o := ⟨e73, e71, e72, fun _ => ⟨fun q hq => by omega, fun _ _ _ _ => rfl⟩, fun _ => ⟨fun q hq => by omega, rfl⟩⟩
      refine kc_now o p1 p1 _ (fun g st => ?_) FU 0 _ (by unfold FU; omega) (by omega) st
      refine s_bd (kc_many o p1 st) (fun h10 st => ?_)
      refine s_bd (kc_told o p1 st) (fun h11 st => ?_)
      refine kc_boo o p1 p1 _ (fun g st => ?_) FU 0 _ (by unfold FU; omega) (by omega) st
      refine s_bd (kc_law o p1 st) (fun h16 st => ?_)
      refine s_if (fun c => ?_) (fun c => s_some ⟨rfl, h16, st, by rw [if_neg c]⟩)
      rw [lt_e]
      exact s_some ⟨rfl, h16, st, by rw [if_pos c]⟩
    refine s_if (fun c => ?_) (fun _ => body)
    refine s_if (fun c2 => ?_) (fun _ => body)
    rw [up_oj (by decide)] at c2
    rcases hh with w | w
    · rw [w] at c; exact absurd c (by decide)
    · exact absurd c2 w
  obtain ⟨⟨r, g2⟩, e, w1, g, st, w2⟩ := main
  have r1 : r = 1 := w1
  have e2 : g2 = if p1 = 0 then up g 104 3 0 else g := w2
  clear w1 w2
  subst r1
  generalize ho : up (up (up (up h 104 0 0) 104 71 p1) 104 72 1) 104 73 0 = o at st
  have oo : ∀ b j, (b = 104 → j ≠ 73 ∧ j ≠ 72 ∧ j ≠ 71 ∧ j ≠ 0) → o b j = h b j := fun b j hb => by
    rw [← ho]
    by_cases eb : b = 104
    · obtain ⟨j1, j2, j3, j4⟩ := hb eb
      subst eb
      rw [up_oj j1, up_oj j2, up_oj j3, up_oj j4]
    · rw [up_oc eb, up_oc eb, up_oc eb, up_oc eb]
  obtain ⟨s1, s2, s72, s3, s4⟩ := st
  refine ⟨g2, e, ?_, fun q1 => ?_, fun q0 => ?_⟩
  · rw [e2]
    split
    · rw [up_oj (by decide)]; exact s72
    · exact s72
  · have t0 : ¬ p1 = 0 := by rw [q1]; decide
    rw [if_neg t0] at e2
    subst e2
    refine ⟨fun q hq => ?_, fun b j hb hj => ?_⟩
    · rw [(s3 t0).1 q hq]
      exact oo _ _ (fun w => by obtain ⟨k1, k2, k3, k4, k5⟩ := (pm_ok q hq).2 w; exact ⟨k1, k3, k2, k4⟩)
    · rw [(s3 t0).2 b j hb (fun w => (hj w).1)]
      exact oo b j hj
  · rw [if_pos q0] at e2
    subst e2
    refine ⟨fun q hq => ?_, ?_, up_same⟩
    · rw [up_ne (by
        by_cases w : (pm q).1 = 104
        · exact Or.inr ((pm_ok q hq).2 w).2.2.2.2
        · exact Or.inl w), (s4 q0).1 q hq]
      exact oo 148 q (fun w => by omega)
    · funext j
      rw [up_oc (by decide), (s4 q0).2]
      exact oo 148 j (fun w => by omega)
