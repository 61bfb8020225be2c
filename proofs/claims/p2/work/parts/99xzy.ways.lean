/-! WAYS through the street: class and model relax the same edges -/
def bitb (v : Int32) (b : Nat) : Prop := ((v >>> (nI b &&& 31)) &&& 1) = 1
theorem bit_g (v : Int32) {b : Nat} (hb : b < 12) : bitb v b ↔ v.toBitVec.getLsbD b = true := by
  unfold bitb
  have e : (v >>> (nI b &&& 31)).toBitVec = v.toBitVec.sshiftRight b := by
    have hb' : b = 0 ∨ b = 1 ∨ b = 2 ∨ b = 3 ∨ b = 4 ∨ b = 5 ∨ b = 6 ∨ b = 7 ∨ b = 8 ∨ b = 9 ∨ b = 10 ∨ b = 11 := by omega
    rcases hb' with e | e | e | e | e | e | e | e | e | e | e | e <;> subst e <;> rfl
  have m1 : ∀ i, i < 32 → (1 : Int32).toBitVec.getLsbD i = decide (i = 0) := by decide
  have g : ∀ i k, i + k < 32 → (v.toBitVec.sshiftRight k).getLsbD i = v.toBitVec.getLsbD (i + k) := fun i k hik => by
    rw [BitVec.getLsbD_sshiftRight, Nat.add_comm]
    have : i + k < 32 := hik
    simp [this]
    omega
  constructor
  · intro h
    have h0 : ((v >>> (nI b &&& 31)) &&& 1).toBitVec.getLsbD 0 = true := by rw [h]; rfl
    rw [Int32.toBitVec_and, BitVec.getLsbD_and, e, g 0 b (by omega), Nat.zero_add, m1 0 (by decide)] at h0
    revert h0
    cases v.toBitVec.getLsbD b <;> decide
  · intro h
    apply Int32.toBitVec_inj.mp
    apply BitVec.eq_of_getLsbD_eq
    intro i hi
    rw [Int32.toBitVec_and, BitVec.getLsbD_and, e, m1 i hi]
    by_cases z : i = 0
    · subst z
      rw [g 0 b (by omega), Nat.zero_add, h]
      rfl
    · rw [decide_eq_false z, Bool.and_false]
theorem sh_bit : ∀ y, y < 12 → ∀ b, b < 12 → ((1 : Int32) <<< (nI y &&& 31)).toBitVec.getLsbD b = decide (y = b) := by decide +kernel
theorem or_bit (v : Int32) {y b : Nat} (hy : y < 12) (hb : b < 12) : bitb (v ||| (1 <<< (nI y &&& 31))) b ↔ bitb v b ∨ y = b := by
  rw [bit_g _ hb, bit_g _ hb, Int32.toBitVec_or, BitVec.getLsbD_or, sh_bit y hy b hb, Bool.or_eq_true, decide_eq_true_iff]
theorem bit_z : ∀ b, b < 12 → ¬ ((((0 : Int32) >>> (nI b &&& 31)) &&& 1) = 1) := by decide
/-- rows tell who is next -/
def RNr (c : Nat) (h : PH) : Prop := ∃ m, m ≤ 16 ∧ h c 3 = nI m ∧ ∀ r, r < m → ∃ a b, a < 12 ∧ b < 12 ∧ h (c + 1) (5 * r) = nI a ∧ h (c + 1) (5 * r + 1) = nI b
def RNX (h : PH) : Prop := RNr 14 h ∧ RNr 48 h
theorem nx_edge {X : Nat → Int32} {k b : Nat} (hk : k < 12) (hb : b < 12) : ∀ m, (∀ r, r < m → ∃ x y, x < 12 ∧ y < 12 ∧ X (5 * r) = nI x ∧ X (5 * r + 1) = nI y) → (bitb (nxF X k m) b ↔ ∃ r, r < m ∧ ((X (5 * r) = nI k ∧ X (5 * r + 1) = nI b) ∨ (X (5 * r + 1) = nI k ∧ X (5 * r) = nI b))) := by
  intro m
  induction m with
  | zero =>
    intro _
    exact ⟨fun z => absurd z (bit_z b hb), fun ⟨r, hr, _⟩ => absurd hr (Nat.not_lt_zero r)⟩
  | succ m ih =>
    intro rg
    have i1 := ih (fun r hr => rg r (by omega))
    obtain ⟨x, y, hx, hy, ex, ey⟩ := rg m (by omega)
    have nk : ∀ a, a < 12 → (nI a = nI k ↔ a = k) := fun a ha => nI_eq (by omega) (by omega)
    have nb' : ∀ a, a < 12 → (nI a = nI b ↔ a = b) := fun a ha => nI_eq (by omega) (by omega)
    have st : bitb (nxF X k (m + 1)) b ↔ bitb (nxF X k m) b ∨ ((x = k ∧ y = b) ∨ (y = k ∧ x = b)) := by
      rw [nxF, ex, ey]
      unfold nxS
      by_cases zy : y = k
      · rw [if_pos ((nk y hy).mpr zy), or_bit _ hx hb]
        by_cases zx : x = k
        · rw [if_pos ((nk x hx).mpr zx), or_bit _ hy hb]
          constructor
          · rintro ((q | q) | q)
            · exact Or.inl q
            · exact Or.inr (Or.inl ⟨zx, q⟩)
            · exact Or.inr (Or.inr ⟨zy, q⟩)
          · rintro (q | ⟨_, q⟩ | ⟨_, q⟩)
            · exact Or.inl (Or.inl q)
            · exact Or.inl (Or.inr q)
            · exact Or.inr q
        · rw [if_neg (fun z => zx ((nk x hx).mp z))]
          constructor
          · rintro (q | q)
            · exact Or.inl q
            · exact Or.inr (Or.inr ⟨zy, q⟩)
          · rintro (q | ⟨q, _⟩ | ⟨_, q⟩)
            · exact Or.inl q
            · exact absurd q zx
            · exact Or.inr q
      · rw [if_neg (fun z => zy ((nk y hy).mp z))]
        by_cases zx : x = k
        · rw [if_pos ((nk x hx).mpr zx), or_bit _ hy hb]
          constructor
          · rintro (q | q)
            · exact Or.inl q
            · exact Or.inr (Or.inl ⟨zx, q⟩)
          · rintro (q | ⟨_, q⟩ | ⟨q, _⟩)
            · exact Or.inl q
            · exact Or.inr q
            · exact absurd q zy
        · rw [if_neg (fun z => zx ((nk x hx).mp z))]
          constructor
          · exact fun q => Or.inl q
          · rintro (q | ⟨q, _⟩ | ⟨q, _⟩)
            · exact q
            · exact absurd q zx
            · exact absurd q zy
    rw [st, i1]
    constructor
    · rintro (⟨r, hr, q⟩ | q)
      · exact ⟨r, by omega, q⟩
      · refine ⟨m, by omega, ?_⟩
        rw [ex, ey]
        rcases q with ⟨q1, q2⟩ | ⟨q1, q2⟩
        · exact Or.inl ⟨by rw [q1], by rw [q2]⟩
        · exact Or.inr ⟨by rw [q1], by rw [q2]⟩
    · rintro ⟨r, hr, q⟩
      by_cases z : r = m
      · subst z
        rw [ex, ey] at q
        refine Or.inr ?_
        rcases q with ⟨q1, q2⟩ | ⟨q1, q2⟩
        · exact Or.inl ⟨(nk x hx).mp q1, (nb' y hy).mp q2⟩
        · exact Or.inr ⟨(nk y hy).mp q1, (nb' x hx).mp q2⟩
      · exact Or.inl ⟨r, by omega, q⟩
/-- numbers -/
theorem mn_n {a b : Nat} (ha : a < 2 ^ 31) (hb : b < 2 ^ 31) : imin (nI a) (nI b) = nI (min a b) := by
  unfold imin
  by_cases c : b < a
  · rw [if_pos (nI_lt c ha), Nat.min_eq_right (by omega)]
  · rw [if_neg (Int32.not_lt.mpr (nI_le (by omega) hb)), Nat.min_eq_left (by omega)]
theorem mx_n {a b : Nat} (ha : a < 2 ^ 31) (hb : b < 2 ^ 31) : imax (nI a) (nI b) = nI (max a b) := by
  unfold imax
  by_cases c : a < b
  · rw [if_pos (nI_lt c hb), Nat.max_eq_right (by omega)]
  · rw [if_neg (Int32.not_lt.mpr (nI_le (by omega) ha)), Nat.max_eq_left (by omega)]
theorem gr_n {a b : Nat} (ha : a < 2 ^ 31) (hb : b < 2 ^ 31) (h : PH) : mm_greater (nI a) (nI b) h = some (nI (max a b)) := by
  unfold mm_greater
  by_cases c : a ≤ b
  · rw [if_pos (nI_le c hb), Nat.max_eq_right c]
  · rw [if_neg (nI_ge (by omega) ha), Nat.max_eq_left (by omega)]
def ops (p : Int32) (c x : Nat) : Nat := if p = 0 then c + x else max c x
theorem ops_i (p : Int32) (c x : Nat) : c ≤ ops p c x := by unfold ops; split <;> omega
theorem ops_m (p : Int32) (c c' x : Nat) (h : c ≤ c') : ops p c x ≤ ops p c' x := by unfold ops; split <;> omega
theorem ops_b (p : Int32) (c x : Nat) (h : x ≤ 792) : ops p c x ≤ c + 792 := by unfold ops; split <;> omega
theorem ow_n (p : Int32) {c x : Nat} (hc : c ≤ 1000000) (hx : x ≤ 792) (h : PH) : mT_onwards (nI c) (nI x) p h = some (nI (ops p c x)) := by
  unfold mT_onwards ops
  by_cases z : p = 0
  · rw [if_pos z, if_pos z, nI_add]
  · rw [if_neg z, if_neg z, mx_n (by omega) (by omega)]
/-- walls of a house, as a number -/
def ws (h : PH) (i : Nat) : Nat := (sm4 h i).toInt.toNat
theorem ws_e {A : Nat → Prop} {H : Nat} {hc hm : PH} (t : TW A H hc hm) {i : Nat} (hi : i < H) : sm4 hc i = nI (ws hc i) ∧ ws hc i ≤ 396 := by
  obtain ⟨a, a1, a2, ea⟩ := nat_of (t.2.2.2.2.2 i 0 hi (by decide)) (by decide)
  obtain ⟨b, b1, b2, eb⟩ := nat_of (t.2.2.2.2.2 i 1 hi (by decide)) (by decide)
  obtain ⟨c, c1, c2, ec⟩ := nat_of (t.2.2.2.2.2 i 2 hi (by decide)) (by decide)
  obtain ⟨d, d1, d2, ed⟩ := nat_of (t.2.2.2.2.2 i 3 hi (by decide)) (by decide)
  rw [Nat.add_zero] at ea
  have es : sm4 hc i = nI (a + b + c + d) := by
    unfold sm4
    rw [ea, eb, ec, ed, nI_add, nI_add, nI_add]
  unfold ws
  rw [es, nI_toInt (by omega), Int.toNat_natCast]
  exact ⟨rfl, by omega⟩
def wsp (h : PH) (a b : Nat) : Nat := ws h a + ws h b
def EG (H : Nat) (hm : PH) (a b : Nat) : Prop := a < H ∧ b < H ∧ bitb (hm 123 a) b
def AR (n c : Nat) (A : Nat → Nat) (h : PH) : Prop := ∀ v, v < n → h c v = nI (A v)
theorem ar_up {n c : Nat} {A : Nat → Nat} {h : PH} (r : AR n c A h) {w op : Nat → Nat → Nat} {a b : Nat} : AR n c (rlx w op A a b) (up h c b (nI (min (A b) (op (A a) (w a b))))) := fun v hv => by
  unfold rlx
  by_cases z : v = b
  · subst z
    rw [up_same, if_pos rfl]
  · rw [up_oj z, if_neg z]
    exact r v hv
/-- the class's row -/
theorem rs_48 {H : Nat} {hc hm : PH} (t : TW AA H hc hm) (p s : Int32) (k : Nat) {m : Nat} (hm16 : m ≤ 16) (sN : Nat) (hsN : sN < H) (e3 : hc 14 3 = nI m) (e1 : hc 14 1 = 5) (rg : ∀ r, r < m → ∃ x y, x < 12 ∧ y < 12 ∧ hc 15 (5 * r) = nI x ∧ hc 15 (5 * r + 1) = nI y) (hE : ∀ r, r < m → ∀ x y, x < H → y < H → hc 15 (5 * r) = nI x → hc 15 (5 * r + 1) = nI y → EG H hm x y ∧ EG H hm y x) (A0 : Nat → Nat) : ∀ (n r : Nat) (A : Nat → Nat) (hv : PH), m < n + r → r ≤ m → (∀ x, x ≠ 96 → hv x = hc x) → AR 12 96 A hv → SO (EG H hm) (wsp hc) (ops p) sN 1000000 A → (∀ v, A v ≤ A0 v) → (∀ q, q < r → ∀ x y, x < H → y < H → hc 15 (5 * q) = nI x → hc 15 (5 * q + 1) = nI y → A y ≤ ops p (A0 x) (wsp hc x y) ∧ A x ≤ ops p (A0 y) (wsp hc y x)) → ∃ A' hv', (∀ k0, mT_spread_L48 1 14 p s k0 n (nI r) hv = k0 hv') ∧ (∀ x, x ≠ 96 → hv' x = hc x) ∧ AR 12 96 A' hv' ∧ SO (EG H hm) (wsp hc) (ops p) sN 1000000 A' ∧ (∀ v, A' v ≤ A0 v) ∧ ∀ q, q < m → ∀ x y, x < H → y < H → hc 15 (5 * q) = nI x → hc 15 (5 * q + 1) = nI y → A' y ≤ ops p (A0 x) (wsp hc x y) ∧ A' x ≤ ops p (A0 y) (wsp hc y x) := by
  have h12 := t.1
  have oi := ops_i p
  have om := ops_m p
  intro n
  induction n with
  | zero => intro r A hv h1 h2; omega
  | succ n ih =>
    intro r A hv h1 h2 fx ar so le pr
    have q3 : hv 14 3 = nI m := by rw [fx 14 (by decide)]; exact e3
    have q1 : hv 14 1 = 5 := by rw [fx 14 (by decide)]; exact e1
    by_cases c : r = m
    · exact ⟨A, hv, fun k0 => by rw [mT_spread_L48, q3, if_pos (by rw [c]; exact nI_le (Nat.le_refl _) (by omega))], fx, ar, so, le, fun q hq => pr q (by omega)⟩
    · have hr : r < m := by omega
      obtain ⟨x, y, hx, hy, ex, ey⟩ := rg r hr
      have a0 : mR_at 14 (nI r) 0 hv = some (nI x) := by
        have := at_14 (c := 0) q1 q3 hm16 hr (by decide)
        rw [Nat.add_zero, fx 15 (by decide), ex] at this
        exact this
      have a1 : mR_at 14 (nI r) 1 hv = some (nI y) := by
        have := at_14 (c := 1) q1 q3 hm16 hr (by decide)
        rw [fx 15 (by decide), ey] at this
        exact this
      have tv : TW AA H hv hm := tb_of t (fx 1 (by decide)) (fx 2 (by decide)) rfl rfl rfl rfl
      have has : ∀ z, z < 12 → mB_has 1 (nI z) hv = some (if z < H then 1 else 0) := fun z hz => by
        unfold mB_has
        rw [if_neg (nI_pos (by omega)), tv.2.1]
        by_cases w : z < H
        · rw [if_neg (nI_ge w (by omega)), if_pos w]
        · rw [if_pos (nI_le (by omega) (by omega)), if_neg w]
      by_cases wx : x < H
      · by_cases wy : y < H
        · obtain ⟨g1, g2⟩ := hE r hr x y wx wy ex ey
          have sx := ws_e t wx
          have sy := ws_e t wy
          have s4 : ∀ i, sm4 hv i = sm4 hc i := fun i => by unfold sm4; rw [fx 2 (by decide)]
          have bx := (so.2 x).1
          have by' := (so.2 y).1
          have wxy : wsp hc x y = ws hc x + ws hc y := rfl
          have wyx : wsp hc y x = ws hc x + ws hc y := Nat.add_comm _ _
          -- there
          have so1 := rlx_so oi so g1
          have ar1 := ar_up ar (w := wsp hc) (op := ops p) (a := x) (b := y)
          -- and back
          have so2 := rlx_so oi so1 g2
          have ar2 := ar_up ar1 (w := wsp hc) (op := ops p) (a := y) (b := x)
          have b1x := (so1.2 x).1
          have b1y := (so1.2 y).1
          have ob1 := ops_b p (A x) (wsp hc x y) (by omega)
          have ob2 := ops_b p (rlx (wsp hc) (ops p) A x y y) (wsp hc y x) (by omega)
          have wq : ops p (rlx (wsp hc) (ops p) A x y y) (wsp hc x y) = ops p (rlx (wsp hc) (ops p) A x y y) (wsp hc y x) := by rw [wxy, wyx]
          obtain ⟨A', hv', z1, z2⟩ := ih (r + 1) (rlx (wsp hc) (ops p) (rlx (wsp hc) (ops p) A x y) y x) _ (by omega) (by omega) (fun c' hc' => by rw [up_cell hc', up_cell hc']; exact fx c' hc') ar2 so2 (fun v => Nat.le_trans (rlx_le v) (Nat.le_trans (rlx_le v) (le v))) (fun q hq x' y' hx' hy' ex' ey' => by
            by_cases w : q = r
            · subst w
              rw [ex] at ex'
              rw [ey] at ey'
              have e1 := (nI_eq (by omega) (by omega)).mp ex'
              have e2 := (nI_eq (by omega) (by omega)).mp ey'
              subst e1 e2
              refine ⟨?_, ?_⟩
              · exact Nat.le_trans (rlx_le y) (Nat.le_trans rlx_b (om _ _ _ (le x)))
              · exact Nat.le_trans rlx_b (om _ _ _ (Nat.le_trans (rlx_le y) (le y)))
            · obtain ⟨u1, u2⟩ := pr q (by omega) x' y' hx' hy' ex' ey'
              exact ⟨Nat.le_trans (rlx_le y') (Nat.le_trans (rlx_le y') u1), Nat.le_trans (rlx_le x') (Nat.le_trans (rlx_le x') u2)⟩)
          refine ⟨A', hv', fun k0 => ?_, z2⟩
          rw [mT_spread_L48, q3, if_neg (nI_ge hr (by omega)), a0, bd_e, a1, bd_e, has x hx, bd_e, if_pos wx, if_neg no10, has y hy, bd_e, if_pos wy, if_neg no10, suB tv wx, bd_e, suB tv wy, bd_e, s4, s4, sx.1, sy.1, nI_add, lt_e, ck_nI hy (by decide), ck_nI hx (by decide), show ix (nI x) = x from nI_clamp (by omega), ar x hx, ow_n p (by omega) (by omega), bd_e, ck_nI hy (by decide), lt_e, show ix (nI y) = y from nI_clamp (by omega), ar y hy, ← wxy, mn_n (by omega) (by omega), ck_nI hx (by decide), ck_nI hy (by decide), ar1 y hy, ow_n p (by omega) (by omega), bd_e, ck_nI hx (by decide), lt_e, ar1 x hx, wq, mn_n (by omega) (by omega), nI_1, z1]
        · obtain ⟨A', hv', z1, z2⟩ := ih (r + 1) A hv (by omega) (by omega) fx ar so le (fun q hq x' y' hx' hy' ex' ey' => by
            by_cases w : q = r
            · subst w
              rw [ey] at ey'
              have e2 := (nI_eq (by omega) (by omega)).mp ey'
              omega
            · exact pr q (by omega) x' y' hx' hy' ex' ey')
          refine ⟨A', hv', fun k0 => ?_, z2⟩
          rw [mT_spread_L48, q3, if_neg (nI_ge hr (by omega)), a0, bd_e, a1, bd_e, has x hx, bd_e, if_pos wx, if_neg no10, has y hy, bd_e, if_neg wy, if_pos rfl, nI_1, z1]
      · obtain ⟨A', hv', z1, z2⟩ := ih (r + 1) A hv (by omega) (by omega) fx ar so le (fun q hq x' y' hx' hy' ex' ey' => by
          by_cases w : q = r
          · subst w
            rw [ex] at ex'
            have e2 := (nI_eq (by omega) (by omega)).mp ex'
            omega
          · exact pr q (by omega) x' y' hx' hy' ex' ey')
        refine ⟨A', hv', fun k0 => ?_, z2⟩
        rw [mT_spread_L48, q3, if_neg (nI_ge hr (by omega)), a0, bd_e, a1, bd_e, has x hx, bd_e, if_neg wx, if_pos rfl, nI_1, z1]
