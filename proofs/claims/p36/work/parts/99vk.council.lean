section
/-! COUNCIL answers alike -/
def sI (f : Nat → Int) : Nat → Int
  | 0 => 0
  | k + 1 => sI f k + f k
def bI (s k : Nat) : Int := ((s / 2 ^ k % 2 : Nat) : Int)
theorem bI_01 (s k : Nat) : bI s k = 0 ∨ bI s k = 1 := by
  unfold bI
  have := Nat.mod_lt (s / 2 ^ k) (show 0 < 2 by decide)
  omega
theorem bit_lo {s k j : Nat} (hj : j < k) : (s + 2 ^ k) / 2 ^ j % 2 = s / 2 ^ j % 2 := by
  have e : 2 ^ k = 2 ^ (k - j) * 2 ^ j := by rw [← Nat.pow_add, show k - j + j = k by omega]
  rw [e, Nat.add_mul_div_right _ _ (Nat.two_pow_pos j), show k - j = (k - j - 1) + 1 by omega, Nat.pow_succ, Nat.add_mul_mod_self_right]
theorem bit_eq {s k : Nat} (hs : s < 2 ^ k) : (s + 2 ^ k) / 2 ^ k % 2 = 1 ∧ s / 2 ^ k % 2 = 0 := by
  have h0 : s / 2 ^ k = 0 := Nat.div_eq_of_lt hs
  rw [Nat.add_div_right _ (Nat.two_pow_pos k), h0]
  exact ⟨rfl, rfl⟩
/-- the set as a number -/
def mkM (p : Nat → Int) : Nat → Nat
  | 0 => 0
  | k + 1 => mkM p k + if p k = 1 then 2 ^ k else 0
theorem mkM_lt (p : Nat → Int) : ∀ k, mkM p k < 2 ^ k := by
  intro k
  induction k with
  | zero => exact (by decide : 0 < 2 ^ 0)
  | succ k ih =>
    rw [mkM, Nat.pow_succ]
    split <;> omega
theorem mkM_b (p : Nat → Int) (hp : ∀ k, p k = 0 ∨ p k = 1) : ∀ n k, k < n → bI (mkM p n) k = p k := by
  intro n
  induction n with
  | zero => intro k h; omega
  | succ n ih =>
    intro k hk
    rw [mkM]
    by_cases e : k = n
    · subst e
      by_cases c : p k = 1
      · rw [if_pos c, c]
        unfold bI
        rw [(bit_eq (mkM_lt p k)).1]
        rfl
      · rw [if_neg c, Nat.add_zero]
        unfold bI
        rw [(bit_eq (mkM_lt p k)).2]
        rcases hp k with q | q
        · rw [q]; rfl
        · exact absurd q c
    · by_cases c : p n = 1
      · rw [if_pos c]
        unfold bI
        rw [bit_lo (by omega)]
        exact ih k (by omega)
      · rw [if_neg c, Nat.add_zero]
        exact ih k (by omega)
theorem sI_x {f g : Nat → Int} : ∀ n, (∀ k, k < n → f k = g k) → sI f n = sI g n := by
  intro n
  induction n with
  | zero => intro _; rfl
  | succ n ih =>
    intro h
    rw [sI, sI, ih (fun k hk => h k (by omega)), h n (by omega)]
/-- no set of as few weighs more than one that took the heaviest -/
theorem sw_le (s p w : Nat → Int) (c : Int) : ∀ n, (∀ k, k < n → (s k = 0 ∨ s k = 1) ∧ ((p k = 1 ∧ c ≤ w k) ∨ (p k = 0 ∧ w k ≤ c))) → sI (fun k => s k * w k) n - sI (fun k => p k * w k) n ≤ c * (sI s n - sI p n) := by
  intro n
  induction n with
  | zero => intro _; simp [sI]
  | succ n ih =>
    intro h
    have a := ih (fun k hk => h k (by omega))
    obtain ⟨h1, h2⟩ := h n (by omega)
    rw [sI, sI, sI, sI]
    have e : c * (sI s n + s n - (sI p n + p n)) = c * (sI s n - sI p n) + c * s n - c * p n := by
      rw [show sI s n + s n - (sI p n + p n) = (sI s n - sI p n) + s n - p n by omega, Int.mul_sub, Int.mul_add]
    rw [e]
    have t : s n * w n - p n * w n ≤ c * s n - c * p n := by
      rcases h1 with q1 | q1 <;> rcases h2 with ⟨q2, q3⟩ | ⟨q2, q3⟩ <;> rw [q1, q2] <;> simp <;> omega
    omega
/-! bits of small sets, by computing -/
theorem hs_b : ∀ s, s < 256 → ∀ k, k < 8 → ((nI s >>> (nI k &&& 31)) &&& 1) = nI (s / 2 ^ k % 2) := by decide +kernel
theorem hs_w : ∀ k, k < 8 → ∀ s, s < 2 ^ k → (nI s ||| (1 <<< (nI k &&& 31))) = nI (s + 2 ^ k) := by decide +kernel
theorem hs_2 : ∀ n, n < 9 → ((1 : Int32) <<< (nI n &&& 31)) = nI (2 ^ n) := by decide +kernel
def pcN (s : Nat) : Nat := ((List.range 8).filter (fun k => decide (s / 2 ^ k % 2 = 1))).length
theorem on_h (h g : PH) : ∀ (n : Nat) (a b : Int32), mm_onesOf_L4 h n a b = mm_onesOf_L4 g n a b := by
  intro n
  induction n with
  | zero => intro a b; rfl
  | succ n ih =>
    intro a b
    rw [mm_onesOf_L4, mm_onesOf_L4]
    by_cases c : b = 0
    · rw [if_pos c, if_pos c]
    · rw [if_neg c, if_neg c, lt_e, lt_e, lt_e, lt_e]
      exact ih _ _
theorem on_z : ∀ s, s < 256 → mm_onesOf (nI s) (fun _ _ => 0) = some (nI (pcN s)) := by decide +kernel
theorem on_at (s : Nat) (hs : s < 256) (h : PH) : mm_onesOf (nI s) h = some (nI (pcN s)) := by
  rw [← on_z s hs]
  exact on_h h (fun _ _ => 0) FU 0 (nI s)
theorem pc_s : ∀ n, n < 9 → ∀ s, s < 2 ^ n → ((pcN s : Nat) : Int) = sI (bI s) n := by decide +kernel
/-! sums -/
theorem at32 {h : PH} (i : Inv h) {n k : Nat} (hn : n ≤ 8) (en : h 32 3 = nI n) (hk : k < n) : mR_at 32 (nI k) 0 h = some (h 33 (2 * k)) ∧ mR_at 32 (nI k) 1 h = some (h 33 (2 * k + 1)) := by
  have t0 := at_row (a := 32) (m := 8) (w := 2) rfl rfl (by decide) (by decide) i (c := 0) en hn hk (by decide)
  have t1 := at_row (a := 32) (m := 8) (w := 2) rfl rfl (by decide) (by decide) i (c := 1) en hn hk (by decide)
  rw [nI_0, show k * 2 + 0 = 2 * k by omega] at t0
  rw [show nI 1 = (1 : Int32) from rfl, show k * 2 + 1 = 2 * k + 1 by omega] at t1
  exact ⟨t0, t1⟩
theorem sI_r {f : Nat → Int} {a b : Int} (ha : a ≤ 0) (hb : 0 ≤ b) : ∀ n, (∀ k, k < n → a ≤ f k ∧ f k ≤ b) → a * (n : Int) ≤ sI f n ∧ sI f n ≤ b * (n : Int) := by
  intro n
  induction n with
  | zero => intro _; rw [sI]; simp
  | succ n ih =>
    intro h
    obtain ⟨i1, i2⟩ := ih (fun k hk => h k (by omega))
    obtain ⟨j1, j2⟩ := h n (by omega)
    have e1 : a * ((n + 1 : Nat) : Int) = a * (n : Int) + a := by rw [Int.natCast_add, Int.mul_add]; simp
    have e2 : b * ((n + 1 : Nat) : Int) = b * (n : Int) + b := by rw [Int.natCast_add, Int.mul_add]; simp
    rw [sI, e1, e2]
    omega
/-- adding small numbers one by one -/
theorem add_sI {x v : Int32} {f : Nat → Int} {k : Nat} (hk : k ≤ 8) (hf : ∀ j, j < k + 1 → -9 ≤ f j ∧ f j ≤ 9) (e : x.toInt = sI f k) (ev : v.toInt = f k) : (x + v).toInt = sI f (k + 1) := by
  have r1 := sI_r (a := -9) (b := 9) (by decide) (by decide) k (fun j hj => hf j (by omega))
  have r2 := hf k (by omega)
  have := i_add (x := x) (y := v) (a := -72) (b := 72) (c := -9) (d := 9) ⟨by omega, by omega⟩ ⟨by omega, by omega⟩ (by decide)
  rw [this, sI, e, ev]
theorem wo4 (h : PH) (i : Inv h) (n : Nat) (hn : n ≤ 8) (en : h 32 3 = nI n) (hW : ∀ k, k < n → R 1 9 (h 33 (2 * k + 1))) : ∀ (f k : Nat) (v : Int32), n < f + k → k ≤ n → v.toInt = sI (fun k => (h 33 (2 * k + 1)).toInt) k → ∃ r, mK_weightOf_L4 32 h f v (nI k) = some r ∧ r.toInt = sI (fun k => (h 33 (2 * k + 1)).toInt) n := by
  intro f
  induction f with
  | zero => intro k v h1 h2; omega
  | succ f ih =>
    intro k v h1 h2 hv
    rw [mK_weightOf_L4, en]
    by_cases e : k = n
    · subst e
      rw [if_pos (nI_le (Nat.le_refl _) (by omega))]
      exact ⟨v, rfl, hv⟩
    · rw [if_neg (nI_ge (by omega) (by omega)), (at32 i hn en (by omega)).2, bd_e, lt_e, nI_1]
      exact ih (k + 1) _ (by omega) (by omega) (add_sI (by omega) (fun j hj => by have := hW j (by omega); unfold R at this; omega) hv rfl)
theorem mo4 (g : PH) (n : Nat) (hn : n ≤ 8) (eg : g 104 66 = nI n) (W : Nat → Int) (hW : ∀ k, k < n → (g 145 k).toInt = W k ∧ 1 ≤ W k ∧ W k ≤ 9) (s : Nat) (hs : s < 256) : ∀ (f k : Nat) (v : Int32), n < f + k → k ≤ n → v.toInt = sI (fun k => (2 * bI s k - 1) * W k) k → ∃ r, mm_moreOf_L4 (nI s) g f v (nI k) = some r ∧ r.toInt = sI (fun k => (2 * bI s k - 1) * W k) n := by
  intro f
  induction f with
  | zero => intro k v h1 h2; omega
  | succ f ih =>
    intro k v h1 h2 hv
    rw [mm_moreOf_L4, eg]
    by_cases e : k = n
    · subst e
      rw [if_pos (nI_le (Nat.le_refl _) (by omega))]
      exact ⟨v, rfl, hv⟩
    · have hk : k < n := by omega
      have rg : ∀ j, j < k + 1 → -9 ≤ (2 * bI s j - 1) * W j ∧ (2 * bI s j - 1) * W j ≤ 9 := fun j hj => by
        have := hW j (by omega)
        rcases bI_01 s j with q | q <;> rw [q] <;> omega
      obtain ⟨w1, w2, w3⟩ := hW k hk
      have hb := hs_b s hs k (by omega)
      have ixk : ix (nI k) = k := nI_clamp (by omega)
      rw [if_neg (nI_ge hk (by omega))]
      unfold mm_has
      rw [hb]
      by_cases c : s / 2 ^ k % 2 = 1
      · have bk : bI s k = 1 := by unfold bI; rw [c]; rfl
        rw [c, if_pos (show nI 1 = (1 : Int32) from rfl), bd_e, if_neg (by decide), ck_nI (by omega) (by decide), lt_e, ixk, nI_1]
        exact ih (k + 1) _ (by omega) (by omega) (add_sI (f := fun k => (2 * bI s k - 1) * W k) (by omega) rg hv (by rw [bk, w1]; omega))
      · have c0 : s / 2 ^ k % 2 = 0 := by have := Nat.mod_lt (s / 2 ^ k) (show 0 < 2 by decide); omega
        have bk : bI s k = 0 := by unfold bI; rw [c0]; rfl
        have ng : (-(g 145 k)).toInt = -(W k) := by
          have := i_sub (x := (0 : Int32)) (y := g 145 k) (a := 0) (b := 0) (c := 1) (d := 9) ⟨by decide, by decide⟩ ⟨by omega, by omega⟩ (by decide)
          rw [Int32.zero_sub] at this
          rw [this, w1]
          simp only [show (0 : Int32).toInt = 0 from rfl]
          omega
        rw [c0, if_neg (by decide), bd_e, if_pos rfl, ck_nI (by omega) (by decide), lt_e, ixk, nI_1]
        exact ih (k + 1) _ (by omega) (by omega) (add_sI (f := fun k => (2 * bI s k - 1) * W k) (by omega) rg hv (by rw [bk, ng]; omega))
theorem mo_at (g : PH) (n : Nat) (hn : n ≤ 8) (eg : g 104 66 = nI n) (W : Nat → Int) (hW : ∀ k, k < n → (g 145 k).toInt = W k ∧ 1 ≤ W k ∧ W k ≤ 9) (s : Nat) (hs : s < 256) : ∃ r, mm_moreOf (nI s) g = some r ∧ r.toInt = sI (fun k => (2 * bI s k - 1) * W k) n := by
  have := mo4 g n hn eg W hW s hs FU 0 0 (by unfold FU; omega) (by omega) rfl
  rw [nI_0] at this
  exact this
theorem mo_sp (s : Nat) (W : Nat → Int) : ∀ n, sI (fun k => (2 * bI s k - 1) * W k) n = 2 * sI (fun k => bI s k * W k) n - sI W n := by
  intro n
  induction n with
  | zero => rfl
  | succ n ih =>
    rw [sI, sI, sI, ih]
    rw [Int.sub_mul, Int.mul_assoc]
    omega
/-! AGREED -/
def qB (h : PH) (b k : Nat) : Int := if ((h 33 (2 * k) >>> (nI b &&& 31)) &&& 1) = 1 then 1 else 0
theorem qB_01 (h : PH) (b k : Nat) : qB h b k = 0 ∨ qB h b k = 1 := by
  unfold qB
  split
  · exact Or.inr rfl
  · exact Or.inl rfl
theorem ca21 (h : PH) (i : Inv h) (n : Nat) (hn : n ≤ 8) (en : h 32 3 = nI n) (hW : ∀ k, k < n → R 1 9 (h 33 (2 * k + 1))) (p1 p2 : Int32) (b : Nat) (K : Int32 → Option Int32) : ∀ (f k : Nat) (v : Int32), n < f + k → k ≤ n → v.toInt = sI (fun k => qB h b k * (h 33 (2 * k + 1)).toInt) k → ∃ r, mK_agreed_L21 32 p1 p2 (nI b) h K f v (nI k) = K r ∧ r.toInt = sI (fun k => qB h b k * (h 33 (2 * k + 1)).toInt) n := by
  intro f
  induction f with
  | zero => intro k v h1 h2; omega
  | succ f ih =>
    intro k v h1 h2 hv
    rw [mK_agreed_L21, en]
    by_cases e : k = n
    · subst e
      rw [if_pos (nI_le (Nat.le_refl _) (by omega))]
      exact ⟨v, rfl, hv⟩
    · have hk : k < n := by omega
      obtain ⟨a0, a1⟩ := at32 i hn en hk
      have rg : ∀ j, j < k + 1 → -9 ≤ qB h b j * (h 33 (2 * j + 1)).toInt ∧ qB h b j * (h 33 (2 * j + 1)).toInt ≤ 9 := fun j hj => by
        have := hW j (by omega)
        unfold R at this
        rcases qB_01 h b j with q | q <;> rw [q] <;> omega
      rw [if_neg (nI_ge hk (by omega)), a0, bd_e]
      by_cases c : ((h 33 (2 * k) >>> (nI b &&& 31)) &&& 1) = 1
      · have q1 : qB h b k = 1 := by unfold qB; rw [if_pos c]
        rw [if_pos c, a1, bd_e, lt_e, nI_1]
        exact ih (k + 1) _ (by omega) (by omega) (add_sI (f := fun k => qB h b k * (h 33 (2 * k + 1)).toInt) (by omega) rg hv (by rw [q1, Int.one_mul]))
      · have q0 : qB h b k = 0 := by unfold qB; rw [if_neg c]
        rw [if_neg c, nI_1]
        refine ih (k + 1) v (by omega) (by omega) ?_
        rw [sI, q0, Int.zero_mul, Int.add_zero]
        exact hv
theorem cm86 (h g : PH) (n : Nat) (hn : n ≤ 8) (eg : g 104 66 = nI n) (hV : ∀ k, k < n → g 144 k = h 33 (2 * k)) (p2 : Int32) (b : Nat) (K : Int32 → Option (Int32 × PH)) : ∀ (f k : Nat), n < f + k → k ≤ n → mm_council_L86 p2 (nI b) g K f (nI (mkM (qB h b) k)) (nI k) = K (nI (mkM (qB h b) n)) := by
  intro f
  induction f with
  | zero => intro k h1 h2; omega
  | succ f ih =>
    intro k h1 h2
    rw [mm_council_L86, eg]
    by_cases e : k = n
    · subst e
      rw [if_pos (nI_le (Nat.le_refl _) (by omega))]
    · have hk : k < n := by omega
      have s : mkM (qB h b) (k + 1) = mkM (qB h b) k + if qB h b k = 1 then 2 ^ k else 0 := rfl
      have go := ih (k + 1) (by omega) (by omega)
      rw [if_neg (nI_ge hk (by omega)), ck_nI (by omega) (by decide), show ix (nI k) = k from nI_clamp (by omega), hV k hk, nI_1]
      unfold mm_has
      by_cases c : ((h 33 (2 * k) >>> (nI b &&& 31)) &&& 1) = 1
      · have q1 : qB h b k = 1 := by unfold qB; rw [if_pos c]
        rw [if_pos q1] at s
        rw [if_pos c, bd_e, if_neg (by decide), lt_e, hs_w k (by omega) _ (mkM_lt _ k), ← s]
        exact go
      · have q0 : qB h b k = 0 := by unfold qB; rw [if_neg c]
        rw [if_neg (by rw [q0]; decide)] at s
        have s : mkM (qB h b) (k + 1) = mkM (qB h b) k := s
        rw [s] at go
        rw [if_neg c, bd_e, if_pos rfl]
        exact go
theorem ag9 (h g : PH) (i : Inv h) (n : Nat) (hn : n ≤ 8) (en : h 32 3 = nI n) (hW : ∀ k, k < n → R 1 9 (h 33 (2 * k + 1))) (eg : g 104 66 = nI n) (hV : ∀ k, k < n → g 144 k = h 33 (2 * k)) (hU : ∀ k, k < n → g 145 k = h 33 (2 * k + 1)) (al : Int32) (ea : al.toInt = sI (fun k => (h 33 (2 * k + 1)).toInt) n) : ∀ (f b : Nat) (v : Int32), 12 < f + b → b ≤ 12 → ∃ r, mK_agreed_L9 32 al h f v (nI b) = some r ∧ mm_council_L74 g f v (nI b) = some (r, g) := by
  intro f
  induction f with
  | zero => intro b v h1 h2; omega
  | succ f ih =>
    intro b v h1 h2
    rw [mK_agreed_L9, mm_council_L74]
    by_cases e : b = 12
    · subst e
      rw [if_pos (by decide), if_pos (by decide)]
      exact ⟨v, rfl, rfl⟩
    · have n12 : ¬ (12 : Int32) ≤ nI b := nI_ge (b := 12) (by omega) (by omega)
      rw [if_neg n12, if_neg n12]
      have s256 : mkM (qB h b) n < 256 := by
        have := mkM_lt (qB h b) n
        have : 2 ^ n ≤ 2 ^ 8 := Nat.pow_le_pow_right (by decide) hn
        omega
      obtain ⟨x, x1, x2⟩ := ca21 h i n hn en hW al v b (fun (x5 : Int32) => if (2 * x5) ≤ al then mK_agreed_L9 32 al h f v (nI b + 1) else lt (v ||| (1 <<< (nI b &&& 31))) fun x6 => mK_agreed_L9 32 al h f x6 (nI b + 1)) FU 0 0 (by unfold FU; omega) (by omega) rfl
      rw [nI_0] at x1
      obtain ⟨y, y1, y2⟩ := mo_at g n hn eg (fun k => (h 33 (2 * k + 1)).toInt) (fun k hk => by
        have := hW k hk
        unfold R at this
        rw [hU k hk]
        exact ⟨rfl, this.1, this.2⟩) (mkM (qB h b) n) s256
      rw [mo_sp, sI_x (f := fun k => bI (mkM (qB h b) n) k * (h 33 (2 * k + 1)).toInt) (g := fun k => qB h b k * (h 33 (2 * k + 1)).toInt) n (fun k hk => by rw [mkM_b (qB h b) (qB_01 h b) n k hk])] at y2
      have z := cm86 h g n hn eg hV v b (fun (x9 : Int32) => bd (mm_moreOf x9 g) fun r10 => if r10 ≤ 0 then mm_council_L74 g f v (nI b + 1) else lt (v ||| (1 <<< (nI b &&& 31))) fun x11 => mm_council_L74 g f x11 (nI b + 1)) FU 0 (by unfold FU; omega) (by omega)
      rw [show mkM (qB h b) 0 = 0 from rfl, nI_0] at z
      rw [x1, z, y1, bd_e, nI_1]
      have bx := sI_r (f := fun k => qB h b k * (h 33 (2 * k + 1)).toInt) (a := 0) (b := 9) (by decide) (by decide) n (fun k hk => by
        have := hW k hk
        unfold R at this
        rcases qB_01 h b k with q | q <;> rw [q] <;> omega)
      have t2 : (2 * x).toInt = 2 * x.toInt := by
        rw [Int32.toInt_mul, show (2 : Int32).toInt = 2 from rfl, Int.bmod_eq_of_le_mul_two (by omega) (by omega)]
      have iff : 2 * x ≤ al ↔ y ≤ 0 := by
        rw [Int32.le_iff_toInt_le, Int32.le_iff_toInt_le, t2, x2, ea, y2]
        simp only [show (0 : Int32).toInt = 0 from rfl]
        omega
      by_cases c : 2 * x ≤ al
      · rw [if_pos c, if_pos (iff.mp c)]
        exact ih (b + 1) v (by omega) (by omega)
      · rw [if_neg c, if_neg (fun q => c (iff.mpr q)), lt_e, lt_e]
        exact ih (b + 1) _ (by omega) (by omega)
/-! LEAST -/
def pW (W : Nat → Int) (w : Int) (i k : Nat) : Int := if w < W k ∨ (W k = w ∧ k < i) then 1 else 0
theorem pW_01 (W : Nat → Int) (w : Int) (i k : Nat) : pW W w i k = 0 ∨ pW W w i k = 1 := by
  unfold pW
  split
  · exact Or.inr rfl
  · exact Or.inl rfl
theorem sI_1 (f g : Nat → Int) (i : Nat) (d : Int) : ∀ n, i < n → (∀ k, k < n → k ≠ i → g k = f k) → g i = f i + d → sI g n = sI f n + d := by
  intro n
  induction n with
  | zero => intro h; omega
  | succ n ih =>
    intro h1 h2 h3
    rw [sI, sI]
    by_cases e : i = n
    · subst e
      rw [sI_x (f := g) (g := f) i (fun k hk => h2 k (by omega) (by omega)), h3]
      omega
    · rw [ih (by omega) (fun k hk hn => h2 k (by omega) hn) h3, h2 n (by omega) (by omega)]
      omega
def MjC (W : Nat → Int) (n s : Nat) : Prop := sI W n < 2 * sI (fun k => bI s k * W k) n
/-- how the greedy stands ahead of index i at weight w -/
def GS (W : Nat → Int) (n : Nat) (w : Int) (i : Nat) (sum cnt : Int) : Prop :=
  (2 * sum ≤ sI W n ∧ sum = sI (fun k => pW W w i k * W k) n ∧ cnt = sI (pW W w i) n) ∨
  (sI W n < 2 * sum ∧ (∃ w' i', sum = sI (fun k => pW W w' i' k * W k) n ∧ cnt = sI (pW W w' i') n) ∧ ∀ s, MjC W n s → cnt ≤ sI (bI s) n)
theorem gs_skip {W : Nat → Int} {n i : Nat} {w sum cnt : Int} (hw : ¬ W i = w) (g : GS W n w i sum cnt) : GS W n w (i + 1) sum cnt := by
  rcases g with ⟨g1, g2, g3⟩ | g
  · have e : ∀ k, pW W w (i + 1) k = pW W w i k := fun k => by
      unfold pW
      by_cases c : w < W k ∨ (W k = w ∧ k < i)
      · rw [if_pos c, if_pos (by omega)]
      · rw [if_neg c, if_neg (by
          intro q
          rcases q with q | ⟨q1, q2⟩
          · exact c (Or.inl q)
          · by_cases ek : k = i
            · subst ek; exact hw q1
            · exact c (Or.inr ⟨q1, by omega⟩))]
    exact Or.inl ⟨g1, by rw [g2]; exact sI_x n (fun k _ => by rw [e]), by rw [g3]; exact sI_x n (fun k _ => (e k).symm)⟩
  · exact Or.inr g
theorem gs_tk {W : Nat → Int} {n i : Nat} {w sum cnt : Int} (hi : i < n) (w0 : 0 < w) (hw : W i = w) (nr : 2 * sum ≤ sI W n) (g : GS W n w i sum cnt) : GS W n w (i + 1) (sum + w) (cnt + 1) := by
  rcases g with ⟨g1, g2, g3⟩ | g
  · have e : ∀ k, k ≠ i → pW W w (i + 1) k = pW W w i k := fun k hk => by
      unfold pW
      by_cases c : w < W k ∨ (W k = w ∧ k < i)
      · rw [if_pos c, if_pos (by omega)]
      · rw [if_neg c, if_neg (by omega)]
    have e0 : pW W w i i = 0 := by unfold pW; rw [if_neg (by omega)]
    have e1 : pW W w (i + 1) i = 1 := by unfold pW; rw [if_pos (Or.inr ⟨hw, by omega⟩)]
    have s1 : sum + w = sI (fun k => pW W w (i + 1) k * W k) n := by
      rw [sI_1 (fun k => pW W w i k * W k) (fun k => pW W w (i + 1) k * W k) i w n hi (fun k _ hk => by rw [e k hk]) (by rw [e0, e1, hw]; omega), g2]
    have s2 : cnt + 1 = sI (pW W w (i + 1)) n := by
      rw [sI_1 (pW W w i) (pW W w (i + 1)) i 1 n hi (fun k _ hk => e k hk) (by rw [e0, e1]; rfl), g3]
    by_cases c : 2 * (sum + w) ≤ sI W n
    · exact Or.inl ⟨c, s1, s2⟩
    · refine Or.inr ⟨by omega, ⟨w, i + 1, s1, s2⟩, fun s ms => ?_⟩
      refine Int.not_lt.mp (fun lt => ?_)
      have le := sw_le (bI s) (pW W w i) W w n (fun k _ => ⟨bI_01 s k, by
        unfold pW
        by_cases c2 : w < W k ∨ (W k = w ∧ k < i)
        · rw [if_pos c2]; exact Or.inl ⟨rfl, by omega⟩
        · rw [if_neg c2]; exact Or.inr ⟨rfl, by omega⟩⟩)
      unfold MjC at ms
      rw [← g2, ← g3] at le
      have neg : w * (sI (bI s) n - cnt) ≤ 0 := Int.mul_nonpos_of_nonneg_of_nonpos (by omega) (by omega)
      omega
  · exact absurd nr (by have := g.1; omega)
theorem gs_down {W : Nat → Int} {n : Nat} {w sum cnt : Int} (g : GS W n w n sum cnt) : GS W n (w - 1) 0 sum cnt := by
  rcases g with ⟨g1, g2, g3⟩ | g
  · have e : ∀ k, k < n → pW W (w - 1) 0 k = pW W w n k := fun k hk => by
      unfold pW
      by_cases c : w < W k ∨ (W k = w ∧ k < n)
      · rw [if_pos c, if_pos (by omega)]
      · rw [if_neg c, if_neg (by omega)]
    exact Or.inl ⟨g1, by rw [g2]; exact sI_x n (fun k hk => by rw [e k hk]), by rw [g3]; exact sI_x n (fun k hk => (e k hk).symm)⟩
  · exact Or.inr g
theorem pc_le8 (s : Nat) : pcN s ≤ 8 := by
  unfold pcN
  have := List.length_filter_le (fun k => decide (s / 2 ^ k % 2 = 1)) (List.range 8)
  rw [List.length_range] at this
  exact this
theorem gs_rng {W : Nat → Int} {n i : Nat} {w sum cnt : Int} (hn : n ≤ 8) (hW : ∀ k, k < n → 1 ≤ W k ∧ W k ≤ 9) (g : GS W n w i sum cnt) : 0 ≤ sum ∧ sum ≤ 72 := by
  have key : ∀ w' i', sum = sI (fun k => pW W w' i' k * W k) n → 0 ≤ sum ∧ sum ≤ 72 := fun w' i' e => by
    have := sI_r (f := fun k => pW W w' i' k * W k) (a := 0) (b := 9) (by decide) (by decide) n (fun k hk => by
      have := hW k hk
      rcases pW_01 W w' i' k with q | q <;> rw [q] <;> omega)
    rw [e]
    omega
  rcases g with ⟨-, g2, -⟩ | ⟨-, ⟨w', i', g2, -⟩, -⟩
  · exact key w i g2
  · exact key w' i' g2
theorem lm22 (h : PH) (i : Inv h) (n : Nat) (hn : n ≤ 8) (en : h 32 3 = nI n) (hW : ∀ k, k < n → R 1 9 (h 33 (2 * k + 1))) (al : Int32) (ea : al.toInt = sI (fun k => (h 33 (2 * k + 1)).toInt) n) (w : Nat) (w1 : 1 ≤ w) (w9 : w ≤ 9) (K : Int32 → Int32 → Option Int32) : ∀ (f k c : Nat) (v : Int32), n < f + k → k ≤ n → c ≤ 100 → GS (fun k => (h 33 (2 * k + 1)).toInt) n (w : Int) k v.toInt (c : Int) → ∃ v' c', mK_leastMajority_L22 32 al (nI w) h K f v (nI c) (nI k) = K v' (nI c') ∧ c' ≤ c + n ∧ GS (fun k => (h 33 (2 * k + 1)).toInt) n (w : Int) n v'.toInt (c' : Int) := by
  have hW' : ∀ k, k < n → 1 ≤ (h 33 (2 * k + 1)).toInt ∧ (h 33 (2 * k + 1)).toInt ≤ 9 := fun k hk => by have := hW k hk; unfold R at this; exact this
  intro f
  induction f with
  | zero => intro k c v h1 h2; omega
  | succ f ih =>
    intro k c v h1 h2 hc g
    rw [mK_leastMajority_L22, en]
    by_cases e : k = n
    · subst e
      rw [if_pos (nI_le (Nat.le_refl _) (by omega))]
      exact ⟨v, c, rfl, by omega, g⟩
    · have hk : k < n := by omega
      have rg := gs_rng hn hW' g
      rw [if_neg (nI_ge hk (by omega)), (at32 i hn en hk).2, bd_e, nI_1]
      by_cases c1 : h 33 (2 * k + 1) = nI w
      · have cw : (h 33 (2 * k + 1)).toInt = (w : Int) := by rw [c1, nI_toInt (by omega)]
        have t2 : (2 * v).toInt = 2 * v.toInt := by
          rw [Int32.toInt_mul, show (2 : Int32).toInt = 2 from rfl, Int.bmod_eq_of_le_mul_two (by omega) (by omega)]
        rw [if_pos c1]
        by_cases c2 : al < 2 * v
        · rw [if_pos c2]
          rw [Int32.lt_iff_toInt_lt, t2, ea] at c2
          have g2 : GS (fun k => (h 33 (2 * k + 1)).toInt) n (w : Int) (k + 1) v.toInt (c : Int) := by
            rcases g with ⟨q1, -, -⟩ | q
            · omega
            · exact Or.inr q
          obtain ⟨v', c', a1, a2, a3⟩ := ih (k + 1) c v (by omega) (by omega) hc g2
          exact ⟨v', c', a1, a2, a3⟩
        · rw [if_neg c2, lt_e]
          rw [Int32.lt_iff_toInt_lt, t2, ea] at c2
          have sv : (v + nI w).toInt = v.toInt + (w : Int) := by
            have := i_add (x := v) (y := nI w) (a := 0) (b := 72) (c := 1) (d := 9) rg ⟨by rw [nI_toInt (by omega)]; omega, by rw [nI_toInt (by omega)]; omega⟩ (by decide)
            rw [this, nI_toInt (by omega)]
          have g2 := gs_tk hk (by omega) cw (by omega) g
          rw [← sv] at g2
          rw [nI_1]
          by_cases cc : c + 1 ≤ 100
          · obtain ⟨v', c', a1, a2, a3⟩ := ih (k + 1) (c + 1) _ (by omega) (by omega) cc (by rw [show ((c + 1 : Nat) : Int) = (c : Int) + 1 by omega]; exact g2)
            refine ⟨v', c', a1, ?_, a3⟩
            have ub : ∀ w' i', ((c' : Nat) : Int) = sI (pW (fun k => (h 33 (2 * k + 1)).toInt) w' i') n → c' ≤ n := fun w' i' q => by
              have := sI_r (f := pW (fun k => (h 33 (2 * k + 1)).toInt) w' i') (a := 0) (b := 1) (by decide) (by decide) n (fun k _ => by rcases pW_01 (fun k => (h 33 (2 * k + 1)).toInt) w' i' k with q | q <;> rw [q] <;> omega)
              omega
            rcases a3 with ⟨-, -, q⟩ | ⟨-, ⟨w', i', -, q⟩, -⟩
            · have := ub _ _ q; omega
            · have := ub _ _ q; omega
          · exfalso
            have ub : ∀ w' i', ((c : Nat) : Int) = sI (pW (fun k => (h 33 (2 * k + 1)).toInt) w' i') n → c ≤ n := fun w' i' q => by
              have := sI_r (f := pW (fun k => (h 33 (2 * k + 1)).toInt) w' i') (a := 0) (b := 1) (by decide) (by decide) n (fun k _ => by rcases pW_01 (fun k => (h 33 (2 * k + 1)).toInt) w' i' k with q | q <;> rw [q] <;> omega)
              omega
            rcases g with ⟨-, -, q⟩ | ⟨-, ⟨w', i', -, q⟩, -⟩
            · have := ub _ _ q; omega
            · have := ub _ _ q; omega
      · rw [if_neg c1]
        have cw : ¬ (h 33 (2 * k + 1)).toInt = (w : Int) := fun q => c1 (Int32.toInt_inj.mp (by rw [q, nI_toInt (by omega)]))
        obtain ⟨v', c', a1, a2, a3⟩ := ih (k + 1) c v (by omega) (by omega) hc (gs_skip cw g)
        exact ⟨v', c', a1, a2, a3⟩
theorem gs_cnt {W : Nat → Int} {n i c : Nat} {w sum : Int} (g : GS W n w i sum (c : Int)) : c ≤ n := by
  have ub : ∀ w' i', ((c : Nat) : Int) = sI (pW W w' i') n → c ≤ n := fun w' i' q => by
    have := sI_r (f := pW W w' i') (a := 0) (b := 1) (by decide) (by decide) n (fun k _ => by rcases pW_01 W w' i' k with q | q <;> rw [q] <;> omega)
    omega
  rcases g with ⟨-, -, q⟩ | ⟨-, ⟨w', i', -, q⟩, -⟩
  · exact ub _ _ q
  · exact ub _ _ q
theorem lm13 (h : PH) (i : Inv h) (n : Nat) (hn : n ≤ 8) (en : h 32 3 = nI n) (hW : ∀ k, k < n → R 1 9 (h 33 (2 * k + 1))) (al : Int32) (ea : al.toInt = sI (fun k => (h 33 (2 * k + 1)).toInt) n) : ∀ (w f c : Nat) (v : Int32), w < f → w ≤ 9 → GS (fun k => (h 33 (2 * k + 1)).toInt) n (w : Int) 0 v.toInt (c : Int) → ∃ c' s', mK_leastMajority_L13 32 al h f v (nI c) (nI w) = some (nI c') ∧ GS (fun k => (h 33 (2 * k + 1)).toInt) n 0 0 s' (c' : Int) := by
  intro w
  induction w with
  | zero =>
    intro f c v h1 h2 g
    obtain ⟨f', rfl⟩ : ∃ f', f = f' + 1 := ⟨f - 1, by omega⟩
    rw [mK_leastMajority_L13, if_pos (by decide)]
    exact ⟨c, _, rfl, g⟩
  | succ w ih =>
    intro f c v h1 h2 g
    obtain ⟨f', rfl⟩ : ∃ f', f = f' + 1 := ⟨f - 1, by omega⟩
    have hc := gs_cnt g
    rw [mK_leastMajority_L13, if_neg (show ¬ nI (w + 1) < 1 by rw [Int32.lt_iff_toInt_lt, nI_toInt (by omega)]; simp only [show (1 : Int32).toInt = 1 from rfl]; omega)]
    obtain ⟨v', c', a1, a2, a3⟩ := lm22 h i n hn en hW al ea (w + 1) (by omega) h2 (fun (x4 : Int32) (x5 : Int32) => mK_leastMajority_L13 32 al h f' x4 x5 (nI (w + 1) + (-1))) FU 0 c v (by unfold FU; omega) (by omega) (by omega) g
    rw [nI_0] at a1
    rw [a1]
    have em : nI (w + 1) + (-1) = nI w := by rw [← Int32.sub_eq_add_neg, nI_pred]
    rw [em]
    have g2 := gs_down a3
    rw [show ((w + 1 : Nat) : Int) - 1 = (w : Int) by omega] at g2
    exact ih f' c' v' (by omega) (by omega) g2
theorem cl29 (g : PH) (n : Nat) (hn : n ≤ 8) (eg : g 104 66 = nI n) (W : Nat → Int) (hW : ∀ k, k < n → (g 145 k).toInt = W k ∧ 1 ≤ W k ∧ W k ≤ 9) : ∀ (f s v : Nat), 2 ^ n < f + s → s ≤ 2 ^ n → v ≤ 8 → ∃ r, mm_council_L29 g f (nI v) (nI s) = some (nI r, g) ∧ r ≤ v ∧ (∀ t, s ≤ t → t < 2 ^ n → MjC W n t → r ≤ pcN t) ∧ (r = v ∨ ∃ t, t < 2 ^ n ∧ MjC W n t ∧ r = pcN t) := by
  have p8 : 2 ^ n ≤ 2 ^ 8 := Nat.pow_le_pow_right (by decide) hn
  intro f
  induction f with
  | zero => intro s v h1 h2; omega
  | succ f ih =>
    intro s v h1 h2 hv
    rw [mm_council_L29, eg, hs_2 n (by omega)]
    by_cases e : s = 2 ^ n
    · rw [e, if_pos (nI_le (Nat.le_refl _) (by omega))]
      exact ⟨v, rfl, Nat.le_refl _, fun t t1 t2 => by omega, Or.inl rfl⟩
    · have hs : s < 2 ^ n := by omega
      have pl := pc_le8 s
      rw [if_neg (nI_ge hs (by omega)), on_at s (by omega) g, bd_e, nI_1]
      have skip : (MjC W n s → v ≤ pcN s) → ∃ r, mm_council_L29 g f (nI v) (nI (s + 1)) = some (nI r, g) ∧ r ≤ v ∧ (∀ t, s ≤ t → t < 2 ^ n → MjC W n t → r ≤ pcN t) ∧ (r = v ∨ ∃ t, t < 2 ^ n ∧ MjC W n t ∧ r = pcN t) := fun hsk => by
        obtain ⟨r, a1, a2, a3, a4⟩ := ih (s + 1) v (by omega) (by omega) hv
        refine ⟨r, a1, a2, fun t t1 t2 t3 => ?_, a4⟩
        by_cases et : t = s
        · subst et
          have := hsk t3
          omega
        · exact a3 t (by omega) t2 t3
      by_cases c1 : v ≤ pcN s
      · rw [if_pos (nI_le c1 (by omega))]
        exact skip (fun _ => c1)
      · obtain ⟨y, y1, y2⟩ := mo_at g n hn eg W hW s (by omega)
        rw [mo_sp] at y2
        have iff : ¬ y ≤ 0 ↔ MjC W n s := by
          unfold MjC
          rw [Int32.le_iff_toInt_le, y2]
          simp only [show (0 : Int32).toInt = 0 from rfl]
          omega
        rw [if_neg (nI_ge (by omega) (by omega)), y1, bd_e]
        by_cases c2 : y ≤ 0
        · rw [if_pos c2]
          exact skip (fun q => absurd c2 (iff.mpr q))
        · rw [if_neg c2, bd_e]
          obtain ⟨r, a1, a2, a3, a4⟩ := ih (s + 1) (pcN s) (by omega) (by omega) pl
          refine ⟨r, a1, by omega, fun t t1 t2 t3 => ?_, ?_⟩
          · by_cases et : t = s
            · subst et; exact a2
            · exact a3 t (by omega) t2 t3
          · rcases a4 with q | q
            · exact Or.inr ⟨s, hs, iff.mp c2, q⟩
            · exact Or.inr q
theorem sum_ge (W : Nat → Int) : ∀ n, (∀ k, k < n → 1 ≤ W k) → (n : Int) ≤ sI W n := by
  intro n
  induction n with
  | zero => intro _; exact Int.le_refl _
  | succ n ih =>
    intro h
    have := ih (fun k hk => h k (by omega))
    have := h n (by omega)
    rw [sI]
    omega
theorem ag_council (a1 : Int32) (h : PH) (i : IM h) (rl : RLA h) {rX rm : Int32} {h2 : PH} (e1 : mX_council a1 h = some rX) (e2 : mm_council a1 h = some (rm, h2)) : rX = rm := by
  have z01 : ¬ (1 : Int32) = 0 := by decide
  unfold mX_council at e1
  unfold mm_council at e2
  rw [lt_e] at e2
  by_cases f1 : 0 ≤ a1 ∧ a1 ≤ 1
  · rw [within_y f1, bd_e, if_neg z01] at e1
    rw [isIn_y f1, bd_e, if_neg z01] at e2
    obtain ⟨n, n1, n2, en⟩ := nat_of (show R 0 8 (h 32 3) from inv_rng i.1 rfl) (by decide)
    have own : LS_member h := rl.1.2.2.2.2.2.2.2
    unfold LS_member at own
    have hn : n ≤ 8 := by omega
    have hW : ∀ k, k < n → R 1 9 (h 33 (2 * k + 1)) := fun k hk => (own.2 k (by rw [en, nI_toInt n2]; omega)).2.2
    have eg : up h 104 0 0 104 66 = nI n := by rw [up_oj (by decide), ← own.1]; exact en
    have hV : ∀ k, k < n → up h 104 0 0 144 k = h 33 (2 * k) := fun k hk => by rw [up_oc (by decide)]; exact (own.2 k (by rw [en, nI_toInt n2]; omega)).1.1.symm
    have hU : ∀ k, k < n → up h 104 0 0 145 k = h 33 (2 * k + 1) := fun k hk => by rw [up_oc (by decide)]; exact (own.2 k (by rw [en, nI_toInt n2]; omega)).2.1.symm
    have hW2 : ∀ k, k < n → (up h 104 0 0 145 k).toInt = (fun k => (h 33 (2 * k + 1)).toInt) k ∧ 1 ≤ (fun k => (h 33 (2 * k + 1)).toInt) k ∧ (fun k => (h 33 (2 * k + 1)).toInt) k ≤ 9 := fun k hk => by
      have := hW k hk
      unfold R at this
      rw [hU k hk]
      exact ⟨rfl, this.1, this.2⟩
    obtain ⟨al, wa, ea⟩ := wo4 h i.1 n hn en hW FU 0 0 (by unfold FU; omega) (by omega) rfl
    rw [nI_0] at wa
    have wa : mK_weightOf 32 h = some al := wa
    by_cases c : a1 = 0
    · rw [if_pos c] at e1
      rw [if_neg (by rw [c]; decide)] at e2
      obtain ⟨r, q1, q2⟩ := ag9 h (up h 104 0 0) i.1 n hn en hW eg hV hU al ea FU 0 0 (by unfold FU; omega) (by omega)
      rw [nI_0] at q1 q2
      unfold mK_agreed at e1
      rw [wa, bd_e, q1, bd_e] at e1
      rw [q2] at e2
      cases e1
      cases e2
      rfl
    · have c1 : a1 = 1 := by
        obtain ⟨k, k1, k2, ek⟩ := nat_of (rng_of (x := 0) (y := 1) rfl rfl f1) (by decide)
        have : k = 0 ∨ k = 1 := by omega
        rcases this with rfl | rfl
        · exact absurd ek c
        · exact ek
      rw [if_neg c] at e1
      rw [if_pos c1, lt_e, eg] at e2
      have sw0 : ∀ k, k < n → 1 ≤ (h 33 (2 * k + 1)).toInt := fun k hk => (hW2 k hk).2.1
      have g0 : GS (fun k => (h 33 (2 * k + 1)).toInt) n ((9 : Nat) : Int) 0 (0 : Int32).toInt ((0 : Nat) : Int) := by
        have z : ∀ k, k < n → pW (fun k => (h 33 (2 * k + 1)).toInt) ((9 : Nat) : Int) 0 k = 0 := fun k hk => by
          unfold pW
          have := (hW2 k hk).2.2
          rw [if_neg (by
            intro q
            rcases q with q | q
            · have q : ((9 : Nat) : Int) < (h 33 (2 * k + 1)).toInt := q
              have this : (h 33 (2 * k + 1)).toInt ≤ 9 := this
              omega
            · omega)]
        have z0 : ∀ m, sI (fun _ => (0 : Int)) m = 0 := by
          intro m
          induction m with
          | zero => rfl
          | succ m ih => rw [sI, ih]; rfl
        have sg := sum_ge (fun k => (h 33 (2 * k + 1)).toInt) n sw0
        refine Or.inl ⟨by simp only [show (0 : Int32).toInt = 0 from rfl]; omega, ?_, ?_⟩
        · rw [sI_x (g := fun _ => 0) n (fun k hk => by rw [z k hk, Int.zero_mul]), z0]
          rfl
        · rw [sI_x (g := fun _ => 0) n (fun k hk => z k hk), z0]
          rfl
      obtain ⟨c', s', q1, q2⟩ := lm13 h i.1 n hn en hW al ea 9 FU 0 0 (by unfold FU; omega) (by omega) g0
      rw [nI_0] at q1
      have q1 : mK_leastMajority_L13 32 al h FU 0 0 9 = some (nI c') := q1
      unfold mK_leastMajority at e1
      rw [wa, bd_e, q1, bd_e] at e1
      obtain ⟨r, r1, r2, r3, r4⟩ := cl29 (up h 104 0 0) n hn eg (fun k => (h 33 (2 * k + 1)).toInt) hW2 FU 0 n (by have : 2 ^ n ≤ 2 ^ 8 := Nat.pow_le_pow_right (by decide) hn; unfold FU; omega) (Nat.zero_le _) hn
      rw [nI_0] at r1
      rw [r1] at e2
      cases e1
      cases e2
      have same : c' = r := by
        rcases q2 with ⟨g1, g2, g3⟩ | ⟨g1, ⟨w', i', g2, g3⟩, g4⟩
        · have al1 : ∀ k, k < n → pW (fun k => (h 33 (2 * k + 1)).toInt) 0 0 k = 1 := fun k hk => by
            unfold pW
            rw [if_pos (Or.inl (by have := (hW2 k hk).2.1; exact (show (0 : Int) < (h 33 (2 * k + 1)).toInt by have this : 1 ≤ (h 33 (2 * k + 1)).toInt := this; omega)))]
          rw [sI_x (g := fun k => (h 33 (2 * k + 1)).toInt) n (fun k hk => by rw [al1 k hk, Int.one_mul])] at g2
          have sg := sum_ge (fun k => (h 33 (2 * k + 1)).toInt) n sw0
          have n0 : n = 0 := by omega
          subst n0
          have c0 : ((c' : Nat) : Int) = 0 := g3
          omega
        · have mj : MjC (fun k => (h 33 (2 * k + 1)).toInt) n (mkM (pW (fun k => (h 33 (2 * k + 1)).toInt) w' i') n) := by
            unfold MjC
            rw [sI_x (f := fun k => bI (mkM (pW (fun k => (h 33 (2 * k + 1)).toInt) w' i') n) k * (h 33 (2 * k + 1)).toInt) (g := fun k => pW (fun k => (h 33 (2 * k + 1)).toInt) w' i' k * (h 33 (2 * k + 1)).toInt) n (fun k hk => by show bI (mkM (pW (fun k => (h 33 (2 * k + 1)).toInt) w' i') n) k * (h 33 (2 * k + 1)).toInt = _; rw [mkM_b _ (pW_01 _ w' i') n k hk]), ← g2]
            exact g1
          have lt := mkM_lt (pW (fun k => (h 33 (2 * k + 1)).toInt) w' i') n
          have pcs := pc_s n (by omega) _ lt
          rw [sI_x (g := pW (fun k => (h 33 (2 * k + 1)).toInt) w' i') n (fun k hk => mkM_b _ (pW_01 _ w' i') n k hk), ← g3] at pcs
          have le1 := r3 _ (Nat.zero_le _) lt mj
          have le2 : c' ≤ r := by
            rcases r4 with q | ⟨t, t1, t2, t3⟩
            · have := gs_cnt (W := fun k => (h 33 (2 * k + 1)).toInt) (w := 0) (i := 0) (Or.inr ⟨g1, ⟨w', i', g2, g3⟩, g4⟩)
              omega
            · have := g4 t t2
              rw [← pc_s n (by omega) t t1] at this
              omega
          omega
      rw [same]
  · rw [within_n f1, bd_e, if_pos rfl] at e1
    rw [isIn_n f1, bd_e, if_pos rfl] at e2
    cases e1
    cases e2
    rfl
end
section
/-! THE STEP of this claim's law -/
def II (h : PH) : Prop := IM h ∧ GI h ∧ RLA h
theorem st_state (a1 : Int32) (h : PH) (ii : II h) : ∃ h2, pc_state a1 h = some h2 ∧ II h2 := by
  obtain ⟨rX, h1, rm, h2, e1, e2, cs, rl, ag⟩ := rl_state a1 h ii.1 ii.2.1 ii.2.2
  refine ⟨h2, ?_, cs.1, cs.2.1, rl⟩
  unfold pc_state
  rw [e1, bd2_e, e2, bd2_e]
theorem st_house (a1 a2 a3 : Int32) (h : PH) (ii : II h) : ∃ h2, pc_house a1 a2 a3 h = some h2 ∧ II h2 := by
  obtain ⟨rX, h1, rm, h2, e1, e2, cs, rl, ag⟩ := rl_house a1 a2 a3 h ii.1 ii.2.1 ii.2.2
  refine ⟨h2, ?_, cs.1, cs.2.1, rl⟩
  unfold pc_house
  rw [e1, bd2_e, e2, bd2_e]
theorem st_set (a1 a2 a3 : Int32) (h : PH) (ii : II h) : ∃ h2, pc_set a1 a2 a3 h = some h2 ∧ II h2 := by
  obtain ⟨rX, h1, rm, h2, e1, e2, cs, rl, ag⟩ := rl_set a1 a2 a3 h ii.1 ii.2.1 ii.2.2
  refine ⟨h2, ?_, cs.1, cs.2.1, rl⟩
  unfold pc_set
  rw [e1, bd2_e, e2, bd2_e]
theorem st_act (a1 a2 a3 : Int32) (h : PH) (ii : II h) : ∃ h2, pc_act a1 a2 a3 h = some h2 ∧ II h2 := by
  obtain ⟨rX, h1, rm, h2, e1, e2, cs, rl, ag⟩ := rl_act a1 a2 a3 h ii.1 ii.2.1 ii.2.2
  refine ⟨h2, ?_, cs.1, cs.2.1, rl⟩
  unfold pc_act
  rw [e1, bd2_e, e2, bd2_e]
theorem st_quarters (a1 : Int32) (h : PH) (ii : II h) : ∃ h2, pc_quarters a1 h = some h2 ∧ II h2 := by
  obtain ⟨rX, h1, rm, h2, e1, e2, cs, rl, ag⟩ := rl_quarters a1 h ii.1 ii.2.1 ii.2.2
  refine ⟨h2, ?_, cs.1, cs.2.1, rl⟩
  unfold pc_quarters
  rw [e1, bd2_e, e2, bd2_e]
theorem st_feed (a1 a2 a3 a4 a5 : Int32) (h : PH) (ii : II h) : ∃ h2, pc_feed a1 a2 a3 a4 a5 h = some h2 ∧ II h2 := by
  obtain ⟨rX, h1, rm, h2, e1, e2, cs, rl, ag⟩ := rl_feed a1 a2 a3 a4 a5 h ii.1 ii.2.1 ii.2.2
  refine ⟨h2, ?_, cs.1, cs.2.1, rl⟩
  unfold pc_feed
  rw [e1, bd2_e, e2, bd2_e]
theorem st_end (a1 : Int32) (h : PH) (ii : II h) : ∃ h2, pc_end a1 h = some h2 ∧ II h2 := by
  obtain ⟨rX, h1, rm, h2, e1, e2, cs, rl, ag⟩ := rl_end a1 h ii.1 ii.2.1 ii.2.2
  refine ⟨h2, ?_, cs.1, cs.2.1, rl⟩
  unfold pc_end
  rw [e1, bd2_e, e2, bd2_e]
theorem st_text (a1 : Int32) (h : PH) (ii : II h) : ∃ h2, pc_text a1 h = some h2 ∧ II h2 := by
  obtain ⟨rX, h1, rm, h2, e1, e2, cs, rl, ag⟩ := rl_text a1 h ii.1 ii.2.1 ii.2.2
  refine ⟨h2, ?_, cs.1, cs.2.1, rl⟩
  unfold pc_text
  rw [e1, bd2_e, e2, bd2_e]
theorem st_fault (a1 : Int32) (h : PH) (ii : II h) : ∃ h2, pc_fault a1 h = some h2 ∧ II h2 := by
  obtain ⟨rX, rm, h2, e1, e2, cs, rl, ag⟩ := rl_fault a1 h ii.1 ii.2.1 ii.2.2
  refine ⟨h2, ?_, cs.1, cs.2.1, rl⟩
  unfold pc_fault
  rw [e1, bd_e, e2, bd2_e]
theorem st_of (a1 a2 : Int32) (h : PH) (ii : II h) : ∃ h2, pc_of a1 a2 h = some h2 ∧ II h2 := by
  obtain ⟨rX, h1, rm, h2, e1, e2, cs, rl, ag⟩ := rl_of a1 a2 h ii.1 ii.2.1 ii.2.2
  refine ⟨h2, ?_, cs.1, cs.2.1, rl⟩
  unfold pc_of
  rw [e1, bd2_e, e2, bd2_e]
theorem st_book (a1 a2 : Int32) (h : PH) (ii : II h) : ∃ h2, pc_book a1 a2 h = some h2 ∧ II h2 := by
  obtain ⟨rX, rm, h2, e1, e2, cs, rl, ag⟩ := rl_book a1 a2 h ii.1 ii.2.1 ii.2.2
  refine ⟨h2, ?_, cs.1, cs.2.1, rl⟩
  unfold pc_book
  rw [e1, bd_e, e2, bd2_e]
theorem st_goes (a1 a2 : Int32) (h : PH) (ii : II h) : ∃ h2, pc_goes a1 a2 h = some h2 ∧ II h2 := by
  obtain ⟨rX, h1, rm, h2, e1, e2, cs, rl, ag⟩ := rl_goes a1 a2 h ii.1 ii.2.1 ii.2.2
  refine ⟨h2, ?_, cs.1, cs.2.1, rl⟩
  unfold pc_goes
  rw [e1, bd2_e, e2, bd2_e]
theorem st_stands (a1 : Int32) (h : PH) (ii : II h) : ∃ h2, pc_stands a1 h = some h2 ∧ II h2 := by
  obtain ⟨rX, h1, rm, h2, e1, e2, cs, rl, ag⟩ := rl_stands a1 h ii.1 ii.2.1 ii.2.2
  refine ⟨h2, ?_, cs.1, cs.2.1, rl⟩
  unfold pc_stands
  rw [e1, bd2_e, e2, bd2_e]
theorem st_hears (a1 a2 : Int32) (h : PH) (ii : II h) : ∃ h2, pc_hears a1 a2 h = some h2 ∧ II h2 := by
  obtain ⟨rX, h1, rm, h2, e1, e2, cs, rl, ag⟩ := rl_hears a1 a2 h ii.1 ii.2.1 ii.2.2
  refine ⟨h2, ?_, cs.1, cs.2.1, rl⟩
  unfold pc_hears
  rw [e1, bd2_e, e2, bd2_e]
theorem st_heard (a1 a2 : Int32) (h : PH) (ii : II h) : ∃ h2, pc_heard a1 a2 h = some h2 ∧ II h2 := by
  obtain ⟨rX, h1, rm, h2, e1, e2, cs, rl, ag⟩ := rl_heard a1 a2 h ii.1 ii.2.1 ii.2.2
  refine ⟨h2, ?_, cs.1, cs.2.1, rl⟩
  unfold pc_heard
  rw [e1, bd2_e, e2, bd2_e]
theorem st_ants (a1 a2 : Int32) (h : PH) (ii : II h) : ∃ h2, pc_ants a1 a2 h = some h2 ∧ II h2 := by
  obtain ⟨rX, h1, rm, h2, e1, e2, cs, rl, ag⟩ := rl_ants a1 a2 h ii.1 ii.2.1 ii.2.2
  refine ⟨h2, ?_, cs.1, cs.2.1, rl⟩
  unfold pc_ants
  rw [e1, bd2_e, e2, bd2_e]
theorem st_piece (a1 : Int32) (h : PH) (ii : II h) : ∃ h2, pc_piece a1 h = some h2 ∧ II h2 := by
  obtain ⟨rX, h1, rm, h2, e1, e2, cs, rl, ag⟩ := rl_piece a1 h ii.1 ii.2.1 ii.2.2
  refine ⟨h2, ?_, cs.1, cs.2.1, rl⟩
  unfold pc_piece
  rw [e1, bd2_e, e2, bd2_e]
theorem st_plate (a1 a2 : Int32) (h : PH) (ii : II h) : ∃ h2, pc_plate a1 a2 h = some h2 ∧ II h2 := by
  obtain ⟨rX, rm, h2, e1, e2, cs, rl, ag⟩ := rl_plate a1 a2 h ii.1 ii.2.1 ii.2.2
  refine ⟨h2, ?_, cs.1, cs.2.1, rl⟩
  unfold pc_plate
  rw [e1, bd_e, e2, bd2_e]
theorem st_dough (a1 : Int32) (h : PH) (ii : II h) : ∃ h2, pc_dough a1 h = some h2 ∧ II h2 := by
  obtain ⟨rX, h1, rm, h2, e1, e2, cs, rl, ag⟩ := rl_dough a1 h ii.1 ii.2.1 ii.2.2
  refine ⟨h2, ?_, cs.1, cs.2.1, rl⟩
  unfold pc_dough
  rw [e1, bd2_e, e2, bd2_e]
theorem st_pans (a1 a2 : Int32) (h : PH) (ii : II h) : ∃ h2, pc_pans a1 a2 h = some h2 ∧ II h2 := by
  obtain ⟨rX, h1, rm, h2, e1, e2, cs, rl, ag⟩ := rl_pans a1 a2 h ii.1 ii.2.1 ii.2.2
  refine ⟨h2, ?_, cs.1, cs.2.1, rl⟩
  unfold pc_pans
  rw [e1, bd2_e, e2, bd2_e]
theorem st_mortgage (a1 a2 a3 a4 : Int32) (h : PH) (ii : II h) : ∃ h2, pc_mortgage a1 a2 a3 a4 h = some h2 ∧ II h2 := by
  obtain ⟨rX, rm, h2, e1, e2, cs, rl, ag⟩ := rl_mortgage a1 a2 a3 a4 h ii.1 ii.2.1 ii.2.2
  refine ⟨h2, ?_, cs.1, cs.2.1, rl⟩
  unfold pc_mortgage
  rw [e1, bd_e, e2, bd2_e]
theorem st_mark (a1 : Int32) (h : PH) (ii : II h) : ∃ h2, pc_mark a1 h = some h2 ∧ II h2 := by
  obtain ⟨rX, h1, rm, h2, e1, e2, cs, rl, ag⟩ := rl_mark a1 h ii.1 ii.2.1 ii.2.2
  refine ⟨h2, ?_, cs.1, cs.2.1, rl⟩
  unfold pc_mark
  rw [e1, bd2_e, e2, bd2_e]
theorem st_measures (a1 : Int32) (h : PH) (ii : II h) : ∃ h2, pc_measures a1 h = some h2 ∧ II h2 := by
  obtain ⟨rX, rm, h2, e1, e2, cs, rl, ag⟩ := rl_measures a1 h ii.1 ii.2.1 ii.2.2
  refine ⟨h2, ?_, cs.1, cs.2.1, rl⟩
  unfold pc_measures
  rw [e1, bd_e, e2, bd2_e]
theorem st_bite (a1 a2 : Int32) (h : PH) (ii : II h) : ∃ h2, pc_bite a1 a2 h = some h2 ∧ II h2 := by
  obtain ⟨rX, h1, rm, h2, e1, e2, cs, rl, ag⟩ := rl_bite a1 a2 h ii.1 ii.2.1 ii.2.2
  refine ⟨h2, ?_, cs.1, cs.2.1, rl⟩
  unfold pc_bite
  rw [e1, bd2_e, e2, bd2_e]
theorem st_whose (a1 a2 : Int32) (h : PH) (ii : II h) : ∃ h2, pc_whose a1 a2 h = some h2 ∧ II h2 := by
  obtain ⟨rX, rm, h2, e1, e2, cs, rl, ag⟩ := rl_whose a1 a2 h ii.1 ii.2.1 ii.2.2
  refine ⟨h2, ?_, cs.1, cs.2.1, rl⟩
  unfold pc_whose
  rw [e1, bd_e, e2, bd2_e]
theorem st_crumb (a1 : Int32) (h : PH) (ii : II h) : ∃ h2, pc_crumb a1 h = some h2 ∧ II h2 := by
  obtain ⟨rX, h1, rm, h2, e1, e2, cs, rl, ag⟩ := rl_crumb a1 h ii.1 ii.2.1 ii.2.2
  refine ⟨h2, ?_, cs.1, cs.2.1, rl⟩
  unfold pc_crumb
  rw [e1, bd2_e, e2, bd2_e]
theorem st_crumbs (a1 : Int32) (h : PH) (ii : II h) : ∃ h2, pc_crumbs a1 h = some h2 ∧ II h2 := by
  obtain ⟨rX, h1, rm, h2, e1, e2, cs, rl, ag⟩ := rl_crumbs a1 h ii.1 ii.2.1 ii.2.2
  refine ⟨h2, ?_, cs.1, cs.2.1, rl⟩
  unfold pc_crumbs
  rw [e1, bd2_e, e2, bd2_e]
theorem st_loaf (a1 a2 : Int32) (h : PH) (ii : II h) : ∃ h2, pc_loaf a1 a2 h = some h2 ∧ II h2 := by
  obtain ⟨rX, h1, rm, h2, e1, e2, cs, rl, ag⟩ := rl_loaf a1 a2 h ii.1 ii.2.1 ii.2.2
  refine ⟨h2, ?_, cs.1, cs.2.1, rl⟩
  unfold pc_loaf
  rw [e1, bd2_e, e2, bd2_e]
theorem st_ovens (a1 : Int32) (h : PH) (ii : II h) : ∃ h2, pc_ovens a1 h = some h2 ∧ II h2 := by
  obtain ⟨rX, rm, h2, e1, e2, cs, rl, ag⟩ := rl_ovens a1 h ii.1 ii.2.1 ii.2.2
  refine ⟨h2, ?_, cs.1, cs.2.1, rl⟩
  unfold pc_ovens
  rw [e1, bd_e, e2, bd2_e]
theorem st_alone (a1 : Int32) (h : PH) (ii : II h) : ∃ h2, pc_alone a1 h = some h2 ∧ II h2 := by
  obtain ⟨rX, h1, rm, h2, e1, e2, cs, rl, ag⟩ := rl_alone a1 h ii.1 ii.2.1 ii.2.2
  refine ⟨h2, ?_, cs.1, cs.2.1, rl⟩
  unfold pc_alone
  rw [e1, bd2_e, e2, bd2_e]
theorem st_heir (a1 a2 : Int32) (h : PH) (ii : II h) : ∃ h2, pc_heir a1 a2 h = some h2 ∧ II h2 := by
  obtain ⟨rX, h1, rm, h2, e1, e2, cs, rl, ag⟩ := rl_heir a1 a2 h ii.1 ii.2.1 ii.2.2
  refine ⟨h2, ?_, cs.1, cs.2.1, rl⟩
  unfold pc_heir
  rw [e1, bd2_e, e2, bd2_e]
theorem st_line (a1 a2 : Int32) (h : PH) (ii : II h) : ∃ h2, pc_line a1 a2 h = some h2 ∧ II h2 := by
  obtain ⟨rX, rm, h2, e1, e2, cs, rl, ag⟩ := rl_line a1 a2 h ii.1 ii.2.1 ii.2.2
  refine ⟨h2, ?_, cs.1, cs.2.1, rl⟩
  unfold pc_line
  rw [e1, bd_e, e2, bd2_e]
theorem st_window (a1 : Int32) (h : PH) (ii : II h) : ∃ h2, pc_window a1 h = some h2 ∧ II h2 := by
  obtain ⟨rX, rm, h2, e1, e2, cs, rl, ag⟩ := rl_window a1 h ii.1 ii.2.1 ii.2.2
  refine ⟨h2, ?_, cs.1, cs.2.1, rl⟩
  unfold pc_window
  rw [e1, bd_e, e2, bd2_e]
theorem st_member (a1 a2 : Int32) (h : PH) (ii : II h) : ∃ h2, pc_member a1 a2 h = some h2 ∧ II h2 := by
  obtain ⟨rX, h1, rm, h2, e1, e2, cs, rl, ag⟩ := rl_member a1 a2 h ii.1 ii.2.1 ii.2.2
  refine ⟨h2, ?_, cs.1, cs.2.1, rl⟩
  unfold pc_member
  rw [e1, bd2_e, e2, bd2_e]
theorem st_council (a1 : Int32) (h : PH) (ii : II h) : ∃ h2, pc_council a1 h = some h2 ∧ II h2 := by
  obtain ⟨rX, rm, h2, e1, e2, cs, rl, ag⟩ := rl_council a1 h ii.1 ii.2.1 ii.2.2
  refine ⟨h2, ?_, cs.1, cs.2.1, rl⟩
  unfold pc_council
  rw [e1, bd_e, e2, bd2_e, if_pos (ag_council a1 h ii.1 ii.2.2 e1 e2)]
theorem st_game (a1 a2 : Int32) (h : PH) (ii : II h) : ∃ h2, pc_game a1 a2 h = some h2 ∧ II h2 := by
  obtain ⟨rX, h1, rm, h2, e1, e2, cs, rl, ag⟩ := rl_game a1 a2 h ii.1 ii.2.1 ii.2.2
  refine ⟨h2, ?_, cs.1, cs.2.1, rl⟩
  unfold pc_game
  rw [e1, bd2_e, e2, bd2_e]
theorem st_undo (h : PH) (ii : II h) : ∃ h2, pc_undo h = some h2 ∧ II h2 := by
  obtain ⟨rX, h1, rm, h2, e1, e2, cs, rl, ag⟩ := rl_undo h ii.1 ii.2.1 ii.2.2
  refine ⟨h2, ?_, cs.1, cs.2.1, rl⟩
  unfold pc_undo
  rw [e1, bd2_e, e2, bd2_e]
theorem st_image (a1 : Int32) (h : PH) (ii : II h) : ∃ h2, pc_image a1 h = some h2 ∧ II h2 := by
  obtain ⟨rX, h1, rm, h2, e1, e2, cs, rl, ag⟩ := rl_image a1 h ii.1 ii.2.1 ii.2.2
  refine ⟨h2, ?_, cs.1, cs.2.1, rl⟩
  unfold pc_image
  rw [e1, bd2_e, e2, bd2_e]
theorem st_look (a1 : Int32) (h : PH) (ii : II h) : ∃ h2, pc_look a1 h = some h2 ∧ II h2 := by
  obtain ⟨rX, rm, h2, e1, e2, cs, rl, ag⟩ := rl_look a1 h ii.1 ii.2.1 ii.2.2
  refine ⟨h2, ?_, cs.1, cs.2.1, rl⟩
  unfold pc_look
  rw [e1, bd_e, e2, bd2_e]
theorem st_if {c : Prop} [Decidable c] {a b : Option PH} {P : PH → Prop} (h1 : c → ∃ h2, a = some h2 ∧ P h2) (h2 : ¬ c → ∃ h2, b = some h2 ∧ P h2) : ∃ h2, (if c then a else b) = some h2 ∧ P h2 := by
  by_cases h : c
  · rw [if_pos h]; exact h1 h
  · rw [if_neg h]; exact h2 h
theorem st_all (o a1 a2 a3 a4 a5 : Int32) (h : PH) (ii : II h) : ∃ h2, stp o a1 a2 a3 a4 a5 h = some h2 ∧ II h2 := by
  unfold stp
  refine st_if (fun _ => st_state a1 h ii) (fun _ => ?_)
  refine st_if (fun _ => st_house a1 a2 a3 h ii) (fun _ => ?_)
  refine st_if (fun _ => st_set a1 a2 a3 h ii) (fun _ => ?_)
  refine st_if (fun _ => st_act a1 a2 a3 h ii) (fun _ => ?_)
  refine st_if (fun _ => st_quarters a1 h ii) (fun _ => ?_)
  refine st_if (fun _ => st_feed a1 a2 a3 a4 a5 h ii) (fun _ => ?_)
  refine st_if (fun _ => st_end a1 h ii) (fun _ => ?_)
  refine st_if (fun _ => st_text a1 h ii) (fun _ => ?_)
  refine st_if (fun _ => st_fault a1 h ii) (fun _ => ?_)
  refine st_if (fun _ => st_of a1 a2 h ii) (fun _ => ?_)
  refine st_if (fun _ => st_book a1 a2 h ii) (fun _ => ?_)
  refine st_if (fun _ => st_goes a1 a2 h ii) (fun _ => ?_)
  refine st_if (fun _ => st_stands a1 h ii) (fun _ => ?_)
  refine st_if (fun _ => st_hears a1 a2 h ii) (fun _ => ?_)
  refine st_if (fun _ => st_heard a1 a2 h ii) (fun _ => ?_)
  refine st_if (fun _ => st_ants a1 a2 h ii) (fun _ => ?_)
  refine st_if (fun _ => st_piece a1 h ii) (fun _ => ?_)
  refine st_if (fun _ => st_plate a1 a2 h ii) (fun _ => ?_)
  refine st_if (fun _ => st_dough a1 h ii) (fun _ => ?_)
  refine st_if (fun _ => st_pans a1 a2 h ii) (fun _ => ?_)
  refine st_if (fun _ => st_mortgage a1 a2 a3 a4 h ii) (fun _ => ?_)
  refine st_if (fun _ => st_mark a1 h ii) (fun _ => ?_)
  refine st_if (fun _ => st_measures a1 h ii) (fun _ => ?_)
  refine st_if (fun _ => st_bite a1 a2 h ii) (fun _ => ?_)
  refine st_if (fun _ => st_whose a1 a2 h ii) (fun _ => ?_)
  refine st_if (fun _ => st_crumb a1 h ii) (fun _ => ?_)
  refine st_if (fun _ => st_crumbs a1 h ii) (fun _ => ?_)
  refine st_if (fun _ => st_loaf a1 a2 h ii) (fun _ => ?_)
  refine st_if (fun _ => st_ovens a1 h ii) (fun _ => ?_)
  refine st_if (fun _ => st_alone a1 h ii) (fun _ => ?_)
  refine st_if (fun _ => st_heir a1 a2 h ii) (fun _ => ?_)
  refine st_if (fun _ => st_line a1 a2 h ii) (fun _ => ?_)
  refine st_if (fun _ => st_window a1 h ii) (fun _ => ?_)
  refine st_if (fun _ => st_member a1 a2 h ii) (fun _ => ?_)
  refine st_if (fun _ => st_council a1 h ii) (fun _ => ?_)
  refine st_if (fun _ => st_game a1 a2 h ii) (fun _ => ?_)
  refine st_if (fun _ => st_undo h ii) (fun _ => ?_)
  refine st_if (fun _ => st_image a1 h ii) (fun _ => ?_)
  refine st_if (fun _ => st_look a1 h ii) (fun _ => ?_)
  exact ⟨h, rfl, ii⟩
end
