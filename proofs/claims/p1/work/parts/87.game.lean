/-! THE GAME of bites: the lost shapes are told, and checked shape by shape -/
def LO : List Nat := [1, 10, 19, 28, 37, 46, 75, 82, 148, 157, 166, 222, 237, 588, 597, 603, 658, 1174, 1197, 1245, 4685, 4692, 4702, 4758, 4763, 4836, 5266, 9380, 9435, 9958, 10038, 10614, 11190, 14070, 14118]
def LO7 : List Nat := [1, 9, 17, 25, 33, 41, 59, 65, 116, 124, 132, 174, 187, 403, 411, 416, 457, 804, 824, 859, 2805, 2811, 2820, 2862, 2866, 2923, 3201, 5618, 5659, 6012, 6075, 6467, 6859, 8427, 8462]
def zz : PH := fun _ _ => 0
def twk (l : List Nat) (w : Nat) : Int32 := l.foldl (fun acc c => if w = ix (nI c >>> (5 &&& 31)) then acc ||| (1 <<< ((nI c &&& 31) &&& 31)) else acc) 0
def hT (l : List Nat) : PH := fun _ => twk l
def chk8 (s : Nat) : Bool := s == 0 || match mL_isShape (nI s) zz with
  | some r => if r = 0 then !LO.contains s else match mL_winningBite (nI s) (hT (LO.filter (fun c => decide (c < s)))) with
    | some x => decide (x = -1) == LO.contains s
    | none => false
  | none => false
set_option maxRecDepth 100000 in
theorem chk8_0 : ∀ d, d < 8 → ∀ c, c < 8 → ∀ b, b < 8 → ∀ a, a < 8 → chk8 (a + 8 * b + 64 * c + 512 * d + 4096 * 0) = true := by decide +kernel
set_option maxRecDepth 100000 in
theorem chk8_1 : ∀ d, d < 8 → ∀ c, c < 8 → ∀ b, b < 8 → ∀ a, a < 8 → chk8 (a + 8 * b + 64 * c + 512 * d + 4096 * 1) = true := by decide +kernel
set_option maxRecDepth 100000 in
theorem chk8_2 : ∀ d, d < 8 → ∀ c, c < 8 → ∀ b, b < 8 → ∀ a, a < 8 → chk8 (a + 8 * b + 64 * c + 512 * d + 4096 * 2) = true := by decide +kernel
set_option maxRecDepth 100000 in
theorem chk8_3 : ∀ d, d < 8 → ∀ c, c < 8 → ∀ b, b < 8 → ∀ a, a < 8 → chk8 (a + 8 * b + 64 * c + 512 * d + 4096 * 3) = true := by decide +kernel
set_option maxRecDepth 100000 in
theorem chk8_4 : ∀ d, d < 8 → ∀ c, c < 8 → ∀ b, b < 8 → ∀ a, a < 8 → chk8 (a + 8 * b + 64 * c + 512 * d + 4096 * 4) = true := by decide +kernel
set_option maxRecDepth 100000 in
theorem chk8_5 : ∀ d, d < 8 → ∀ c, c < 8 → ∀ b, b < 8 → ∀ a, a < 8 → chk8 (a + 8 * b + 64 * c + 512 * d + 4096 * 5) = true := by decide +kernel
set_option maxRecDepth 100000 in
theorem chk8_6 : ∀ d, d < 8 → ∀ c, c < 8 → ∀ b, b < 8 → ∀ a, a < 8 → chk8 (a + 8 * b + 64 * c + 512 * d + 4096 * 6) = true := by decide +kernel
set_option maxRecDepth 100000 in
theorem chk8_7 : ∀ d, d < 8 → ∀ c, c < 8 → ∀ b, b < 8 → ∀ a, a < 8 → chk8 (a + 8 * b + 64 * c + 512 * d + 4096 * 7) = true := by decide +kernel
theorem chk8_all : ∀ e, e < 8 → ∀ d, d < 8 → ∀ c, c < 8 → ∀ b, b < 8 → ∀ a, a < 8 → chk8 (a + 8 * b + 64 * c + 512 * d + 4096 * e) = true
  | 0, _ => chk8_0
  | 1, _ => chk8_1
  | 2, _ => chk8_2
  | 3, _ => chk8_3
  | 4, _ => chk8_4
  | 5, _ => chk8_5
  | 6, _ => chk8_6
  | 7, _ => chk8_7
  | e + 8, h => by omega
theorem chk8_at (s : Nat) (h : s < 32768) : chk8 s = true := by
  have e : s = s % 8 + 8 * (s / 8 % 8) + 64 * (s / 64 % 8) + 512 * (s / 512 % 8) + 4096 * (s / 4096) := by omega
  rw [e]
  exact chk8_all (s / 4096) (by omega) (s / 512 % 8) (by omega) (s / 64 % 8) (by omega) (s / 8 % 8) (by omega) (s % 8) (by omega)
theorem lo_app : ∀ m ∈ LO, LO.filter (fun c => decide (c < m + 1)) = LO.filter (fun c => decide (c < m)) ++ [m] := by decide +kernel
theorem lo_ck : ∀ m ∈ LO, ¬ (nI m >>> (5 &&& 31) < 0 ∨ 1024 ≤ (nI m >>> (5 &&& 31)).toNatClampNeg) := by decide +kernel
theorem lo_no (m : Nat) (h : ¬ m ∈ LO) : LO.filter (fun c => decide (c < m + 1)) = LO.filter (fun c => decide (c < m)) := by
  apply List.filter_congr
  intro c hc
  have : c ≠ m := fun e => h (e ▸ hc)
  simp only [decide_eq_decide]
  omega
theorem twk_app (l : List Nat) (m w : Nat) : twk (l ++ [m]) w = if w = ix (nI m >>> (5 &&& 31)) then twk l w ||| (1 <<< ((nI m &&& 31) &&& 31)) else twk l w := by
  simp only [twk, List.foldl_append, List.foldl_cons, List.foldl_nil]
/-- what the class's methods look at -/
theorem shp_c (p : Int32) (h g : PH) : ∀ (n : Nat) (v1 v2 : Int32), mL_isShape_L5 p h n v1 v2 = mL_isShape_L5 p g n v1 v2 := by
  intro n
  induction n with
  | zero => intro v1 v2; rfl
  | succ n ih =>
    intro v1 v2
    rw [mL_isShape_L5, mL_isShape_L5]
    simp only [mL_lengthOf, bd, ih]
theorem btn_c (p q r : Int32) (h g : PH) : ∀ (n : Nat) (v1 v2 : Int32), mL_bitten_L5 p q r h n v1 v2 = mL_bitten_L5 p q r g n v1 v2 := by
  intro n
  induction n with
  | zero => intro v1 v2; rfl
  | succ n ih =>
    intro v1 v2
    rw [mL_bitten_L5, mL_bitten_L5]
    simp only [mL_lengthOf, bd, jn1, lt, ih]
theorem lst_c (p : Int32) (h g : PH) (e : h 103 = g 103) : mL_isLost p h = mL_isLost p g := by
  unfold mL_isLost
  rw [e]
theorem w16_c (p q r : Int32) (h g : PH) (e : h 103 = g 103) (k k' : Option Int32) (ek : k = k') : ∀ (n : Nat) (v : Int32), mL_winningBite_L16 p q r h k n v = mL_winningBite_L16 p q r g k' n v := by
  subst ek
  intro n
  induction n with
  | zero => intro v; rfl
  | succ n ih =>
    intro v
    rw [mL_winningBite_L16, mL_winningBite_L16]
    simp only [mL_bitten, btn_c p q v h g, lst_c _ h g e, ih]
theorem w2_c (p : Int32) (h g : PH) (e : h 103 = g 103) : ∀ (n : Nat) (v : Int32), mL_winningBite_L2 p h n v = mL_winningBite_L2 p g n v := by
  intro n
  induction n with
  | zero => intro v; rfl
  | succ n ih =>
    intro v
    rw [mL_winningBite_L2, mL_winningBite_L2]
    simp only [mL_lengthOf, bd]
    rw [w16_c p v _ h g e _ _ (ih (v + 1)) FU 0]
theorem wb_c (p : Int32) (h g : PH) (e : h 103 = g 103) : mL_winningBite p h = mL_winningBite p g := w2_c p h g e FU 0
theorem shape_c (p : Int32) (h g : PH) : mL_isShape p h = mL_isShape p g := shp_c p h g FU 6 0
/-- the class learns the lost shapes -/
theorem learn_go : ∀ (n m : Nat) (h : PH), 32768 < n + m → 1 ≤ m → m ≤ 32768 → h 103 = twk (LO.filter (fun c => decide (c < m))) → ∃ h', mL_learn_L2 n (nI m) h = some h' ∧ h' 103 = twk (LO.filter (fun c => decide (c < 32768))) ∧ ∀ b, b ≠ 103 → h' b = h b := by
  intro n
  induction n with
  | zero => intro m h h1 h0 h2; omega
  | succ n ih =>
    intro m h h1 h0 h2 e
    rw [mL_learn_L2]
    by_cases hm : m = 32768
    · subst hm
      rw [if_pos (show (32768 : Int32) ≤ nI 32768 from nI_le (a := 32768) (Nat.le_refl _) (by omega))]
      exact ⟨h, rfl, e, fun _ _ => rfl⟩
    · rw [if_neg (show ¬ (32768 : Int32) ≤ nI m from nI_ge (b := 32768) (by omega) (by omega))]
      have hc := chk8_at m (by omega)
      rw [shape_c (nI m) h zz, wb_c (nI m) h (hT (LO.filter (fun c => decide (c < m)))) e]
      unfold chk8 at hc
      rw [show (m == 0) = false from by simp; omega, Bool.false_or] at hc
      cases hs : mL_isShape (nI m) zz with
      | none => rw [hs] at hc; cases hc
      | some r =>
        rw [hs] at hc
        simp only [bd] at hc ⊢
        by_cases hr : r = 0
        · rw [if_pos hr] at hc ⊢
          have hn : ¬ m ∈ LO := by
            intro q
            rw [List.contains_iff_mem.mpr q] at hc
            cases hc
          rw [nI_1]
          exact ih (m + 1) h (by omega) (by omega) (by omega) (by rw [lo_no m hn]; exact e)
        · rw [if_neg hr] at hc ⊢
          cases hw : mL_winningBite (nI m) (hT (LO.filter (fun c => decide (c < m)))) with
          | none => rw [hw] at hc; cases hc
          | some x =>
            rw [hw] at hc
            simp only at hc ⊢
            by_cases hx : x = -1
            · rw [if_pos hx]
              have hin : m ∈ LO := by
                rw [decide_eq_true hx] at hc
                exact List.contains_iff_mem.mp (by simpa using hc)
              rw [ck_in (lo_ck m hin), ck_in (lo_ck m hin)]
              simp only [lt]
              rw [nI_1]
              obtain ⟨h', q1, q2, q3⟩ := ih (m + 1) (up h 103 (ix (nI m >>> (5 &&& 31))) (h 103 (ix (nI m >>> (5 &&& 31))) ||| (1 <<< ((nI m &&& 31) &&& 31)))) (by omega) (by omega) (by omega) (by
                rw [lo_app m hin]
                funext w
                rw [twk_app, up_at, e]
                simp only [if_true]
                by_cases ew : w = ix (nI m >>> (5 &&& 31))
                · rw [if_pos ew, if_pos ew, ew]
                · rw [if_neg ew, if_neg ew])
              refine ⟨h', q1, q2, fun b hb => ?_⟩
              rw [q3 b hb]
              funext j
              simp [up_at, hb]
            · rw [if_neg hx]
              have hn : ¬ m ∈ LO := by
                intro q
                rw [List.contains_iff_mem.mpr q, decide_eq_false hx] at hc
                cases hc
              rw [nI_1]
              exact ih (m + 1) h (by omega) (by omega) (by omega) (by rw [lo_no m hn]; exact e)
theorem lo_all : LO.filter (fun c => decide (c < 32768)) = LO := by decide +kernel
theorem lo_nil : LO.filter (fun c => decide (c < 1)) = [] := by decide +kernel
def shq (fa : Nat) : Nat → Int32
  | 0 => 0
  | k + 1 => shq fa k ||| (nI fa <<< ((nI k * 3) &&& 31))
theorem bb_21 (hi fa : Nat) (hh : hi < 6) (h : PH) (k0 : Int32 → Option (Int32 × PH)) : ∀ (n k : Nat), hi < n + k → k ≤ hi → mL_bestBite_L21 (nI hi) (nI fa) h k0 n (shq fa k) (nI k) = k0 (shq fa hi) := by
  intro n
  induction n with
  | zero => intro k h1 h2; omega
  | succ n ih =>
    intro k h1 h2
    rw [mL_bestBite_L21]
    by_cases hk : k = hi
    · subst hk
      rw [if_pos (nI_le (Nat.le_refl _) (by omega))]
    · rw [if_neg (nI_ge (by omega) (by omega))]
      simp only [lt]
      rw [nI_1]
      exact ih (k + 1) (by omega) (by omega)
/-- what is known of the class's table of lost shapes -/
def GI (h : PH) : Prop := (h 102 1 = 0 ∧ h 103 = twk []) ∨ (h 102 1 = 1 ∧ h 103 = twk LO)
theorem best_go (hi fa : Nat) (hh : hi < 6) (h : PH) (hG : GI h) (r : Int32) (hr : mL_winningBite (shq fa hi) (hT LO) = some r) : ∃ h', mL_bestBite (nI hi) (nI fa) h = some (r, h') ∧ h' 102 1 = 1 ∧ h' 103 = twk LO ∧ (∀ b, b ≠ 102 → b ≠ 103 → h' b = h b) ∧ ∀ j, j ≠ 1 → h' 102 j = h 102 j := by
  unfold mL_bestBite
  rw [jn1_e]
  have fin : ∀ g : PH, g 103 = twk LO → mL_bestBite_L21 (nI hi) (nI fa) g (fun x4 => bd (mL_winningBite x4 g) fun r5 => some (r5, g)) FU 0 0 = some (r, g) := by
    intro g hg
    have := bb_21 hi fa hh g (fun x4 => bd (mL_winningBite x4 g) fun r5 => some (r5, g)) FU 0 (by unfold FU; omega) (by omega)
    rw [nI_0, show shq fa 0 = 0 from rfl] at this
    rw [this, wb_c _ g (hT LO) hg, hr, bd_e]
  rcases hG with ⟨g1, g2⟩ | ⟨g1, g2⟩
  · rw [if_pos g1]
    obtain ⟨h', q1, q2, q3⟩ := learn_go FU 1 h (by unfold FU; omega) (by omega) (by omega) (by rw [lo_nil]; exact g2)
    unfold mL_learn
    rw [show (1 : Int32) = nI 1 from rfl, q1]
    rw [bd_e, lt_e]
    rw [lo_all] at q2
    have e3 : up h' 102 1 (nI 1) 103 = twk LO := by
      rw [← q2]; funext j; simp [up_at]
    have := fin (up h' 102 1 (nI 1)) e3
    refine ⟨_, this, by simp [up_at], e3, fun b b1 b2 => ?_, fun j hj => ?_⟩
    · rw [← q3 b b2]; funext j; simp [up_at, b1]
    · rw [← q3 102 (by decide)]; simp [up_at, hj]
  · rw [if_neg (by rw [g1]; decide)]
    exact ⟨h, fin h g2, g1, g2, fun _ _ _ => rfl, fun _ _ => rfl⟩
