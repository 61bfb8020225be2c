/-! THE RELATION of what is told for thought, now and in the image; of the tape's length; of the image's being there. Printed by wip/gen/prel.py -/
def W1 (a b : Int) (n : Int32) (X : Nat → Int32) (m : Int32) (Y : Nat → Int32) : Prop := n = m ∧ ∀ k : Nat, (k : Int) < n.toInt → X k = Y k ∧ R a b (X k)
def W2 (a b c d : Int) (n : Int32) (X : Nat → Int32) (m : Int32) (Y Z : Nat → Int32) : Prop := n = m ∧ ∀ k : Nat, (k : Int) < n.toInt → (X (2 * k) = Y k ∧ R a b (X (2 * k))) ∧ (X (2 * k + 1) = Z k ∧ R c d (X (2 * k + 1)))
def lfh (X : Nat → Int32) (w : Int32) : Nat → Int32
  | 0 => 0
  | k + 1 => if lfh X w k = 0 then (if X (2 * k) = w then X (2 * k + 1) + 1 else 0) else lfh X w k
def WH (n : Int32) (X : Nat → Int32) (m : Int32) (Y : Nat → Int32) : Prop := n = m ∧ (∀ k : Nat, (k : Int) < n.toInt → R 0 11 (X (2 * k)) ∧ R 0 11 (X (2 * k + 1))) ∧ ∀ w, w < 12 → Y w = lfh X (nI w) n.toNatClampNeg
theorem lfh_x {X X' : Nat → Int32} {w : Int32} : ∀ (k : Nat), (∀ j, j < 2 * k → X' j = X j) → lfh X' w k = lfh X w k := by
  intro k
  induction k with
  | zero => intro _; rfl
  | succ k ih =>
    intro h
    rw [lfh, lfh, ih (fun j hj => h j (by omega)), h (2 * k) (by omega), h (2 * k + 1) (by omega)]
theorem cl_lt {n : Int32} {k : Nat} (h : (k : Int) < n.toInt) : k < n.toNatClampNeg := by
  have : ((n.toNatClampNeg : Nat) : Int) = n.toInt := clamp_int (by omega)
  omega
theorem w1_x {a b : Int} {n n' m m' : Int32} {X X' Y Y' : Nat → Int32} (h : W1 a b n X m Y) (en : n' = n) (em : m' = m) (M : Nat) (hM : n.toInt ≤ M) (hX : ∀ j, j < n.toNatClampNeg * 1 → X' j = X j) (hY : ∀ j, j < M → Y' j = Y j) : W1 a b n' X' m' Y' := by
  subst en em
  refine ⟨h.1, fun k hk => ?_⟩
  have := cl_lt hk
  rw [hX k (by omega), hY k (by omega)]
  exact h.2 k hk
theorem w2_x {a b c d : Int} {n n' m m' : Int32} {X X' Y Y' Z Z' : Nat → Int32} (h : W2 a b c d n X m Y Z) (en : n' = n) (em : m' = m) (M : Nat) (hM : n.toInt ≤ M) (hX : ∀ j, j < n.toNatClampNeg * 2 → X' j = X j) (hY : ∀ j, j < M → Y' j = Y j) (hZ : ∀ j, j < M → Z' j = Z j) : W2 a b c d n' X' m' Y' Z' := by
  subst en em
  refine ⟨h.1, fun k hk => ?_⟩
  have := cl_lt hk
  rw [hX (2 * k) (by omega), hX (2 * k + 1) (by omega), hY k (by omega), hZ k (by omega)]
  exact h.2 k hk
theorem wh_x {n n' m m' : Int32} {X X' Y Y' : Nat → Int32} (h : WH n X m Y) (en : n' = n) (em : m' = m) (hX : ∀ j, j < n.toNatClampNeg * 2 → X' j = X j) (hY : ∀ j, j < 12 → Y' j = Y j) : WH n' X' m' Y' := by
  subst en em
  refine ⟨h.1, fun k hk => ?_, fun w hw => ?_⟩
  · have := cl_lt hk
    rw [hX (2 * k) (by omega), hX (2 * k + 1) (by omega)]
    exact h.2.1 k hk
  · rw [hY w hw, lfh_x _ (fun j hj => hX j (by omega))]
    exact h.2.2 w hw
theorem w1_0 {a b : Int} {X Y : Nat → Int32} : W1 a b 0 X 0 Y := ⟨rfl, fun k hk => by simp only [show (0 : Int32).toInt = 0 from rfl] at hk; omega⟩
theorem w2_0 {a b c d : Int} {X Y Z : Nat → Int32} : W2 a b c d 0 X 0 Y Z := ⟨rfl, fun k hk => by simp only [show (0 : Int32).toInt = 0 from rfl] at hk; omega⟩
theorem wh_0 {X Y : Nat → Int32} (h : ∀ w, w < 12 → Y w = 0) : WH 0 X 0 Y := ⟨rfl, fun k hk => by simp only [show (0 : Int32).toInt = 0 from rfl] at hk; omega, fun w hw => by rw [h w hw]; rfl⟩
theorem w1_add {a b : Int} {n : Nat} {X X' Y Y' : Nat → Int32} {v : Int32} (h : W1 a b (nI n) X (nI n) Y) (hn : n < 400) (hv : R a b v) (x1 : X' n = v) (x2 : ∀ k, k < n → X' k = X k) (y1 : Y' n = v) (y2 : ∀ k, k < n → Y' k = Y k) : W1 a b (nI (n + 1)) X' (nI (n + 1)) Y' := by
  refine ⟨rfl, fun k hk => ?_⟩
  rw [nI_toInt (by omega)] at hk
  by_cases e : k = n
  · subst e; rw [x1, y1]; exact ⟨rfl, hv⟩
  · rw [x2 k (by omega), y2 k (by omega)]
    exact h.2 k (by rw [nI_toInt (by omega)]; omega)
theorem w2_add {a b c d : Int} {n : Nat} {X X' Y Y' Z Z' : Nat → Int32} {u v : Int32} (h : W2 a b c d (nI n) X (nI n) Y Z) (hn : n < 400) (hu : R a b u) (hv : R c d v) (x0 : X' (2 * n) = u) (x1 : X' (2 * n + 1) = v) (x2 : ∀ k, k < 2 * n → X' k = X k) (y1 : Y' n = u) (y2 : ∀ k, k < n → Y' k = Y k) (z1 : Z' n = v) (z2 : ∀ k, k < n → Z' k = Z k) : W2 a b c d (nI (n + 1)) X' (nI (n + 1)) Y' Z' := by
  refine ⟨rfl, fun k hk => ?_⟩
  rw [nI_toInt (by omega)] at hk
  by_cases e : k = n
  · subst e; rw [x0, x1, y1, z1]; exact ⟨⟨rfl, hu⟩, rfl, hv⟩
  · rw [x2 (2 * k) (by omega), x2 (2 * k + 1) (by omega), y2 k (by omega), z2 k (by omega)]
    exact h.2 k (by rw [nI_toInt (by omega)]; omega)
theorem wh_add {n : Nat} {X X' Y Y' : Nat → Int32} {u v : Int32} (h : WH (nI n) X (nI n) Y) (hn : n < 400) (hu : R 0 11 u) (hv : R 0 11 v) (x0 : X' (2 * n) = u) (x1 : X' (2 * n + 1) = v) (x2 : ∀ k, k < 2 * n → X' k = X k) (y1 : ∀ w, w < 12 → Y' w = if nI w = u ∧ Y w = 0 then v + 1 else Y w) : WH (nI (n + 1)) X' (nI (n + 1)) Y' := by
  refine ⟨rfl, fun k hk => ?_, fun w hw => ?_⟩
  · rw [nI_toInt (by omega)] at hk
    by_cases e : k = n
    · subst e; rw [x0, x1]; exact ⟨hu, hv⟩
    · rw [x2 (2 * k) (by omega), x2 (2 * k + 1) (by omega)]
      exact h.2.1 k (by rw [nI_toInt (by omega)]; omega)
  · have e := h.2.2 w hw
    rw [show (nI n).toNatClampNeg = n from nI_clamp (by omega)] at e
    rw [show (nI (n + 1)).toNatClampNeg = n + 1 from nI_clamp (by omega), lfh, lfh_x n (fun j hj => x2 j (by omega)), ← e, x0, x1, y1 w hw]
    by_cases c : Y w = 0
    · rw [if_pos c]
      by_cases c2 : nI w = u
      · rw [if_pos ⟨c2, c⟩, if_pos c2.symm]
      · rw [if_neg (fun z => c2 z.1), if_neg (fun z => c2 z.symm), c]
    · rw [if_neg c, if_neg (fun z => c z.2)]
def LS_piece (h : PH) : Prop := W1 0 99 (h 18 3) (h 19) (h 104 42) (h 127)
def LI_piece (h : PH) : Prop := W1 0 99 (h 52 3) (h 53) (h 148 119) (fun k => h 148 (175 + 1 * k))
def LS_dough (h : PH) : Prop := W1 1 30 (h 20 3) (h 21) (h 104 45) (h 129)
def LI_dough (h : PH) : Prop := W1 1 30 (h 54 3) (h 55) (h 148 120) (fun k => h 148 (184 + 5 * k))
def LS_mark (h : PH) : Prop := W1 1 60 (h 22 3) (h 23) (h 104 49) (h 132)
def LI_mark (h : PH) : Prop := W1 1 60 (h 56 3) (h 57) (h 148 121) (fun k => h 148 (224 + 1 * k))
def LS_bite (h : PH) : Prop := W2 0 255 0 9 (h 24 3) (h 25) (h 104 51) (h 133) (h 134)
def LI_bite (h : PH) : Prop := W2 0 255 0 9 (h 58 3) (h 59) (h 148 122) (fun k => h 148 (185 + 5 * k)) (fun k => h 148 (186 + 5 * k))
def LS_crumb (h : PH) : Prop := W1 0 3 (h 26 3) (h 27) (h 104 54) (h 135)
def LI_crumb (h : PH) : Prop := W1 0 3 (h 60 3) (h 61) (h 148 123) (fun k => h 148 (229 + 1 * k))
def LS_loaf (h : PH) : Prop := W2 1 30 1 30 (h 28 3) (h 29) (h 104 57) (h 137) (h 138)
def LI_loaf (h : PH) : Prop := W2 1 30 1 30 (h 62 3) (h 63) (h 148 124) (fun k => h 148 (245 + 2 * k)) (fun k => h 148 (246 + 2 * k))
def LS_heir (h : PH) : Prop := WH (h 30 3) (h 31) (h 104 62) (h 141)
def LI_heir (h : PH) : Prop := WH (h 64 3) (h 65) (h 148 125) (fun k => h 148 (130 + 4 * k))
def LS_member (h : PH) : Prop := W2 0 4095 1 9 (h 32 3) (h 33) (h 104 66) (h 144) (h 145)
def LI_member (h : PH) : Prop := W2 0 4095 1 9 (h 66 3) (h 67) (h 148 126) (fun k => h 148 (187 + 5 * k)) (fun k => h 148 (188 + 5 * k))
def LSa (h : PH) : Prop := LS_piece h ∧ LS_dough h ∧ LS_mark h ∧ LS_bite h ∧ LS_crumb h ∧ LS_loaf h ∧ LS_heir h ∧ LS_member h
def LIa (h : PH) : Prop := LI_piece h ∧ LI_dough h ∧ LI_mark h ∧ LI_bite h ∧ LI_crumb h ∧ LI_loaf h ∧ LI_heir h ∧ LI_member h
def RLA (h : PH) : Prop := LSa h ∧ (¬ h 104 72 = 0 → LIa h) ∧ h 0 13 = h 104 72 ∧ h 85 4 = h 104 11
theorem ls_fr_piece {h g : PH} (e1 : g 18 = h 18) (e2 : g 19 = h 19) (e3 : g 104 42 = h 104 42) (y0 : g 127 = h 127) : LS_piece h → LS_piece g := fun q => by
  unfold LS_piece at q ⊢
  rw [e1, e2, e3, y0]
  exact q
theorem li_fr_piece {h g : PH} (e1 : g 52 = h 52) (e2 : g 53 = h 53) (e3 : g 148 = h 148) : LI_piece h → LI_piece g := fun q => by
  unfold LI_piece at q ⊢
  rw [e1, e2, e3]
  exact q
theorem ls_fr_dough {h g : PH} (e1 : g 20 = h 20) (e2 : g 21 = h 21) (e3 : g 104 45 = h 104 45) (y0 : g 129 = h 129) : LS_dough h → LS_dough g := fun q => by
  unfold LS_dough at q ⊢
  rw [e1, e2, e3, y0]
  exact q
theorem li_fr_dough {h g : PH} (e1 : g 54 = h 54) (e2 : g 55 = h 55) (e3 : g 148 = h 148) : LI_dough h → LI_dough g := fun q => by
  unfold LI_dough at q ⊢
  rw [e1, e2, e3]
  exact q
theorem ls_fr_mark {h g : PH} (e1 : g 22 = h 22) (e2 : g 23 = h 23) (e3 : g 104 49 = h 104 49) (y0 : g 132 = h 132) : LS_mark h → LS_mark g := fun q => by
  unfold LS_mark at q ⊢
  rw [e1, e2, e3, y0]
  exact q
theorem li_fr_mark {h g : PH} (e1 : g 56 = h 56) (e2 : g 57 = h 57) (e3 : g 148 = h 148) : LI_mark h → LI_mark g := fun q => by
  unfold LI_mark at q ⊢
  rw [e1, e2, e3]
  exact q
theorem ls_fr_bite {h g : PH} (e1 : g 24 = h 24) (e2 : g 25 = h 25) (e3 : g 104 51 = h 104 51) (y0 : g 133 = h 133) (y1 : g 134 = h 134) : LS_bite h → LS_bite g := fun q => by
  unfold LS_bite at q ⊢
  rw [e1, e2, e3, y0, y1]
  exact q
theorem li_fr_bite {h g : PH} (e1 : g 58 = h 58) (e2 : g 59 = h 59) (e3 : g 148 = h 148) : LI_bite h → LI_bite g := fun q => by
  unfold LI_bite at q ⊢
  rw [e1, e2, e3]
  exact q
theorem ls_fr_crumb {h g : PH} (e1 : g 26 = h 26) (e2 : g 27 = h 27) (e3 : g 104 54 = h 104 54) (y0 : g 135 = h 135) : LS_crumb h → LS_crumb g := fun q => by
  unfold LS_crumb at q ⊢
  rw [e1, e2, e3, y0]
  exact q
theorem li_fr_crumb {h g : PH} (e1 : g 60 = h 60) (e2 : g 61 = h 61) (e3 : g 148 = h 148) : LI_crumb h → LI_crumb g := fun q => by
  unfold LI_crumb at q ⊢
  rw [e1, e2, e3]
  exact q
theorem ls_fr_loaf {h g : PH} (e1 : g 28 = h 28) (e2 : g 29 = h 29) (e3 : g 104 57 = h 104 57) (y0 : g 137 = h 137) (y1 : g 138 = h 138) : LS_loaf h → LS_loaf g := fun q => by
  unfold LS_loaf at q ⊢
  rw [e1, e2, e3, y0, y1]
  exact q
theorem li_fr_loaf {h g : PH} (e1 : g 62 = h 62) (e2 : g 63 = h 63) (e3 : g 148 = h 148) : LI_loaf h → LI_loaf g := fun q => by
  unfold LI_loaf at q ⊢
  rw [e1, e2, e3]
  exact q
theorem ls_fr_heir {h g : PH} (e1 : g 30 = h 30) (e2 : g 31 = h 31) (e3 : g 104 62 = h 104 62) (y0 : g 141 = h 141) : LS_heir h → LS_heir g := fun q => by
  unfold LS_heir at q ⊢
  rw [e1, e2, e3, y0]
  exact q
theorem li_fr_heir {h g : PH} (e1 : g 64 = h 64) (e2 : g 65 = h 65) (e3 : g 148 = h 148) : LI_heir h → LI_heir g := fun q => by
  unfold LI_heir at q ⊢
  rw [e1, e2, e3]
  exact q
theorem ls_fr_member {h g : PH} (e1 : g 32 = h 32) (e2 : g 33 = h 33) (e3 : g 104 66 = h 104 66) (y0 : g 144 = h 144) (y1 : g 145 = h 145) : LS_member h → LS_member g := fun q => by
  unfold LS_member at q ⊢
  rw [e1, e2, e3, y0, y1]
  exact q
theorem li_fr_member {h g : PH} (e1 : g 66 = h 66) (e2 : g 67 = h 67) (e3 : g 148 = h 148) : LI_member h → LI_member g := fun q => by
  unfold LI_member at q ⊢
  rw [e1, e2, e3]
  exact q
theorem lia_fr {h g : PH} (hc : ∀ b, 52 ≤ b → b ≤ 67 → g b = h b) (e3 : g 148 = h 148) : LIa h → LIa g := fun q => ⟨li_fr_piece (hc 52 (by decide) (by decide)) (hc 53 (by decide) (by decide)) e3 q.1, li_fr_dough (hc 54 (by decide) (by decide)) (hc 55 (by decide) (by decide)) e3 q.2.1, li_fr_mark (hc 56 (by decide) (by decide)) (hc 57 (by decide) (by decide)) e3 q.2.2.1, li_fr_bite (hc 58 (by decide) (by decide)) (hc 59 (by decide) (by decide)) e3 q.2.2.2.1, li_fr_crumb (hc 60 (by decide) (by decide)) (hc 61 (by decide) (by decide)) e3 q.2.2.2.2.1, li_fr_loaf (hc 62 (by decide) (by decide)) (hc 63 (by decide) (by decide)) e3 q.2.2.2.2.2.1, li_fr_heir (hc 64 (by decide) (by decide)) (hc 65 (by decide) (by decide)) e3 q.2.2.2.2.2.2.1, li_fr_member (hc 66 (by decide) (by decide)) (hc 67 (by decide) (by decide)) e3 q.2.2.2.2.2.2.2⟩
def KC : List Nat := [0, 18, 19, 20, 21, 22, 23, 24, 25, 26, 27, 28, 29, 30, 31, 32, 33, 52, 53, 54, 55, 56, 57, 58, 59, 60, 61, 62, 63, 64, 65, 66, 67, 85]
def KM : List Nat := [1011, 1072, 1042, 1045, 1049, 1051, 1054, 1057, 1062, 1066, 127, 129, 132, 133, 134, 135, 137, 138, 141, 144, 145, 148]
/-- a call that leaves all these cells as they were keeps the relation -/
theorem rla_fr {h g : PH} (hc : ∀ b, b ∈ KC → g b = h b) (h4 : ∀ j, 1000 + j ∈ KM → g 104 j = h 104 j) (hm : ∀ b, 104 < b → b ∈ KM → g b = h b) (rl : RLA h) : RLA g := by
  obtain ⟨q, qi, qf, qt⟩ := rl
  refine ⟨⟨ls_fr_piece (hc 18 (by decide)) (hc 19 (by decide)) (h4 42 (by decide)) (hm 127 (by decide) (by decide)) q.1, ls_fr_dough (hc 20 (by decide)) (hc 21 (by decide)) (h4 45 (by decide)) (hm 129 (by decide) (by decide)) q.2.1, ls_fr_mark (hc 22 (by decide)) (hc 23 (by decide)) (h4 49 (by decide)) (hm 132 (by decide) (by decide)) q.2.2.1, ls_fr_bite (hc 24 (by decide)) (hc 25 (by decide)) (h4 51 (by decide)) (hm 133 (by decide) (by decide)) (hm 134 (by decide) (by decide)) q.2.2.2.1, ls_fr_crumb (hc 26 (by decide)) (hc 27 (by decide)) (h4 54 (by decide)) (hm 135 (by decide) (by decide)) q.2.2.2.2.1, ls_fr_loaf (hc 28 (by decide)) (hc 29 (by decide)) (h4 57 (by decide)) (hm 137 (by decide) (by decide)) (hm 138 (by decide) (by decide)) q.2.2.2.2.2.1, ls_fr_heir (hc 30 (by decide)) (hc 31 (by decide)) (h4 62 (by decide)) (hm 141 (by decide) (by decide)) q.2.2.2.2.2.2.1, ls_fr_member (hc 32 (by decide)) (hc 33 (by decide)) (h4 66 (by decide)) (hm 144 (by decide) (by decide)) (hm 145 (by decide) (by decide)) q.2.2.2.2.2.2.2⟩, fun z => lia_fr (fun b h1 h2 => hc b ?_) (hm 148 (by decide) (by decide)) (qi ?_), ?_, ?_⟩
  · have : ∀ b, b < 68 → 52 ≤ b → b ∈ KC := by decide
    exact this b (by omega) h1
  · rw [h4 72 (by decide)] at z; exact z
  · rw [hc 0 (by decide), h4 72 (by decide)]; exact qf
  · rw [hc 85 (by decide), h4 11 (by decide)]; exact qt
theorem rla_cs {S T : List Nat} {h h1 h2 : PH} (f1 : Fr S h1 h) (f2 : Fk T h2 h1) (s1 : ∀ b, b ∈ KC → b ∉ S) (s2 : ∀ b, b ∈ KM → b ∉ T) (s3 : ∀ b, b ∈ S → b < 104) (s4 : ∀ b, b ∈ T → 104 ≤ b) (rl : RLA h) : RLA h2 := by
  have k4 : ∀ j, kk 104 j = 1000 + j := fun j => rfl
  have kn : ∀ b j, b ≠ 104 → kk b j = b := fun b j hb => by unfold kk; rw [if_neg hb]
  refine rla_fr (fun b hb => ?_) (fun j hj => ?_) (fun b h4 hb => ?_) rl
  · have lt : b < 104 := by
      have : ∀ b, b ∈ KC → b < 104 := by decide
      exact this b hb
    rw [← f1 b (s1 b hb)]
    funext j
    exact f2 b j (by rw [kn b j (by omega)]; intro q; have := s4 b q; omega)
  · rw [← f1 104 (fun q => by have := s3 104 q; omega)]
    exact f2 104 j (by rw [k4]; exact s2 _ hj)
  · rw [← f1 b (fun q => by have := s3 b q; omega)]
    funext j
    exact f2 b j (by rw [kn b j (by omega)]; exact s2 b hb)
theorem rla_first : RLA hI := by
  have n0 : ¬ ¬ hI 104 72 = 0 := fun q => q rfl
  have z : ∀ w, w < 12 → hI 141 w = 0 := fun w _ => rfl
  exact ⟨⟨w1_0, w1_0, w1_0, w2_0, w1_0, w2_0, wh_0 z, w2_0⟩, fun q => absurd q n0, rfl, rfl⟩
