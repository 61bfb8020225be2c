/-! SAFETY: ranges of numbers and of slots; the rules by which a mirror is seen to be 'some' -/
def R (a b : Int) (x : Int32) : Prop := a ≤ x.toInt ∧ x.toInt ≤ b
def Sf {α : Type} (x : Option α) (Q : α → Prop) : Prop := ∃ a, x = some a ∧ Q a
theorem jn2_e {α β ρ : Type} (f : α → β → Option ρ) (b : (α → β → Option ρ) → Option ρ) : jn2 f b = b f := Eq.trans (b := b f) rfl rfl
section SAFE
variable {α β γ ρ : Type} {Q : ρ → Prop}
theorem s_some {a : ρ} (h : Q a) : Sf (some a) Q := ⟨a, rfl, h⟩
theorem s_bd {x : Option α} {f : α → Option ρ} {P : α → Prop} (hx : Sf x P) (hf : ∀ a, P a → Sf (f a) Q) : Sf (bd x f) Q := by
  obtain ⟨a, rfl, ha⟩ := hx
  exact hf a ha
theorem s_bd2 {x : Option (α × β)} {f : α → β → Option ρ} {P : α × β → Prop} (hx : Sf x P) (hf : ∀ a b, P (a, b) → Sf (f a b) Q) : Sf (bd2 x f) Q := by
  obtain ⟨⟨a, b⟩, rfl, ha⟩ := hx
  exact hf a b ha
theorem s_lt {x : α} {f : α → Option ρ} (hf : ∀ a, a = x → Sf (f a) Q) : Sf (lt x f) Q := hf x rfl
theorem clamp_int {i : Int32} (h : 0 ≤ i.toInt) : (i.toNatClampNeg : Int) = i.toInt := by
  show (i.toInt.toNat : Int) = i.toInt
  omega
theorem s_ck {i : Int32} {n : Nat} {k : Option ρ} {a b : Int} (hr : R a b i) (hb : 0 ≤ a ∧ b < (n : Int)) (h : Sf k Q) : Sf (ck i n k) Q := by
  have hi : vp_in i n := by
    unfold vp_in
    intro q
    rcases q with q | q
    · rw [Int32.lt_iff_toInt_lt] at q
      have := hr.1
      simp only [show (0 : Int32).toInt = 0 from rfl] at q
      omega
    · have h1 := hr.1
      have h2 := hr.2
      have := clamp_int (i := i) (by omega)
      omega
  rw [ck_in hi]
  exact h
theorem s_dz {y : Int32} {k : Option ρ} {a b : Int} (hr : R a b y) (hb : 0 < a ∨ b < 0) (h : Sf k Q) : Sf (dz y k) Q := by
  have hy : ¬ y = 0 := by
    intro e
    have h1 := hr.1
    have h2 := hr.2
    rw [e] at h1 h2
    simp only [show (0 : Int32).toInt = 0 from rfl] at h1 h2
    omega
  rw [dz_nz hy]
  exact h
theorem s_if {c : Prop} [Decidable c] {a b : Option ρ} (h1 : c → Sf a Q) (h2 : ¬ c → Sf b Q) : Sf (if c then a else b) Q := by
  by_cases h : c
  · rw [if_pos h]; exact h1 h
  · rw [if_neg h]; exact h2 h
theorem s_jn0 {f : Option ρ} {b : Option ρ → Option ρ} (hf : Sf f Q) (hb : ∀ j, Sf j Q → Sf (b j) Q) : Sf (jn0 f b) Q := hb f hf
theorem s_jn1 {f : α → Option ρ} {b : (α → Option ρ) → Option ρ} {P : α → Prop} (hf : ∀ a, P a → Sf (f a) Q) (hb : ∀ j : α → Option ρ, (∀ a, P a → Sf (j a) Q) → Sf (b j) Q) : Sf (jn1 f b) Q := hb f hf
theorem s_jn2 {f : α → β → Option ρ} {b : (α → β → Option ρ) → Option ρ} {P : α → β → Prop} (hf : ∀ a c, P a c → Sf (f a c) Q) (hb : ∀ j : α → β → Option ρ, (∀ a c, P a c → Sf (j a c) Q) → Sf (b j) Q) : Sf (jn2 f b) Q := hb f hf
theorem s_jn3 {f : α → β → γ → Option ρ} {b : (α → β → γ → Option ρ) → Option ρ} {P : α → β → γ → Prop} (hf : ∀ a c d, P a c d → Sf (f a c d) Q) (hb : ∀ j : α → β → γ → Option ρ, (∀ a c d, P a c d → Sf (j a c d) Q) → Sf (b j) Q) : Sf (jn3 f b) Q := hb f hf
theorem s_w {x : Option ρ} {P : ρ → Prop} (h : Sf x P) (hw : ∀ a, P a → Q a) : Sf x Q := by
  obtain ⟨a, e, ha⟩ := h
  exact ⟨a, e, hw a ha⟩
end SAFE
section RNG
variable {a b c d e f : Int} {x y : Int32}
theorem r_full (x : Int32) : R (-2147483648) 2147483647 x := by
  have h1 := Int32.le_toInt x
  have h2 := Int32.toInt_lt x
  exact ⟨by omega, by omega⟩
theorem r_w (h : R a b x) (hh : c ≤ a ∧ b ≤ d) : R c d x := ⟨Int.le_trans hh.1 h.1, Int.le_trans h.2 hh.2⟩
theorem i_add (hx : R a b x) (hy : R c d y) (hh : -2147483648 ≤ a + c ∧ b + d ≤ 2147483647) : (x + y).toInt = x.toInt + y.toInt := by
  obtain ⟨x1, x2⟩ := hx
  obtain ⟨y1, y2⟩ := hy
  rw [Int32.toInt_add, Int.bmod_eq_of_le_mul_two (by omega) (by omega)]
theorem i_sub (hx : R a b x) (hy : R c d y) (hh : -2147483648 ≤ a - d ∧ b - c ≤ 2147483647) : (x - y).toInt = x.toInt - y.toInt := by
  obtain ⟨x1, x2⟩ := hx
  obtain ⟨y1, y2⟩ := hy
  rw [Int32.toInt_sub, Int.bmod_eq_of_le_mul_two (by omega) (by omega)]
theorem r_add (hx : R a b x) (hy : R c d y) (hh : (-2147483648 ≤ a + c ∧ b + d ≤ 2147483647) ∧ e = a + c ∧ f = b + d) : R e f (x + y) := by
  have := i_add hx hy hh.1
  obtain ⟨x1, x2⟩ := hx
  obtain ⟨y1, y2⟩ := hy
  exact ⟨by omega, by omega⟩
theorem r_sub (hx : R a b x) (hy : R c d y) (hh : (-2147483648 ≤ a - d ∧ b - c ≤ 2147483647) ∧ e = a - d ∧ f = b - c) : R e f (x - y) := by
  have := i_sub hx hy hh.1
  obtain ⟨x1, x2⟩ := hx
  obtain ⟨y1, y2⟩ := hy
  exact ⟨by omega, by omega⟩
theorem r_mul (hx : R a b x) (hy : R c d y) (hh : 0 ≤ a ∧ 0 ≤ c ∧ b * d ≤ 2147483647 ∧ e = a * c ∧ f = b * d) : R e f (x * y) := by
  obtain ⟨x1, x2⟩ := hx
  obtain ⟨y1, y2⟩ := hy
  obtain ⟨h1, h2, h3, h4, h5⟩ := hh
  have u1 : a * c ≤ x.toInt * y.toInt := Int.mul_le_mul x1 y1 h2 (by omega)
  have u2 : x.toInt * y.toInt ≤ b * d := Int.mul_le_mul x2 y2 (by omega) (by omega)
  have u0 : 0 ≤ a * c := Int.mul_nonneg h1 h2
  have : (x * y).toInt = x.toInt * y.toInt := by
    rw [Int32.toInt_mul, Int.bmod_eq_of_le_mul_two (by omega) (by omega)]
  exact ⟨by omega, by omega⟩
theorem r_div (hx : R a b x) (hy : R c c y) (hh : 0 ≤ a ∧ 0 < c ∧ e = 0 ∧ f = b) : R e f (x / y) := by
  obtain ⟨x1, x2⟩ := hx
  obtain ⟨y1, y2⟩ := hy
  obtain ⟨h1, h2, h3, h4⟩ := hh
  have : (x / y).toInt = x.toInt / y.toInt := lg_idiv_nonneg (by omega) (by omega)
  have q1 : 0 ≤ x.toInt / y.toInt := Int.ediv_nonneg (by omega) (by omega)
  have q2 : x.toInt / y.toInt ≤ x.toInt := Int.ediv_le_self _ (by omega)
  exact ⟨by omega, by omega⟩
theorem r_min (hx : R a b x) (hy : R c d y) (hh : e ≤ a ∧ e ≤ c ∧ (b ≤ f ∨ d ≤ f)) : R e f (imin x y) := by
  obtain ⟨x1, x2⟩ := hx
  obtain ⟨y1, y2⟩ := hy
  unfold imin
  split
  · rename_i q
    rw [Int32.lt_iff_toInt_lt] at q
    exact ⟨by omega, by omega⟩
  · rename_i q
    rw [Int32.lt_iff_toInt_lt] at q
    exact ⟨by omega, by omega⟩
theorem r_max (hx : R a b x) (hy : R c d y) (hh : (e ≤ a ∨ e ≤ c) ∧ b ≤ f ∧ d ≤ f) : R e f (imax x y) := by
  obtain ⟨x1, x2⟩ := hx
  obtain ⟨y1, y2⟩ := hy
  unfold imax
  split
  · rename_i q
    rw [Int32.lt_iff_toInt_lt] at q
    exact ⟨by omega, by omega⟩
  · rename_i q
    rw [Int32.lt_iff_toInt_lt] at q
    exact ⟨by omega, by omega⟩
theorem lt_hi (hx : R a b x) (hy : R c d y) (h : x < y) (hf : f = d - 1) : R a f x := by
  rw [Int32.lt_iff_toInt_lt] at h
  have := hy.2
  exact ⟨hx.1, by omega⟩
theorem lt_lo (hx : R a b x) (hy : R c d y) (h : x < y) (he : e = a + 1) : R e d y := by
  rw [Int32.lt_iff_toInt_lt] at h
  have := hx.1
  exact ⟨by omega, hy.2⟩
theorem le_hi (hx : R a b x) (hy : R c d y) (h : x ≤ y) : R a d x := by
  rw [Int32.le_iff_toInt_le] at h
  have := hy.2
  exact ⟨hx.1, by omega⟩
theorem le_lo (hx : R a b x) (hy : R c d y) (h : x ≤ y) : R a d y := by
  rw [Int32.le_iff_toInt_le] at h
  have := hx.1
  exact ⟨by omega, hy.2⟩
theorem nlt_le (h : ¬ x < y) : y ≤ x := Int32.not_lt.mp h
theorem nle_lt (h : ¬ x ≤ y) : y < x := Int32.not_le.mp h
theorem r_eq (hy : R c d y) (h : x = y) : R c d x := by rw [h]; exact hy
theorem r_ne_lo (hx : R a b x) (hy : R a a y) (h : ¬ x = y) (he : e = a + 1) : R e b x := by
  have : ¬ x.toInt = y.toInt := fun q => h (Int32.toInt_inj.mp q)
  have h1 := hx.1
  have h2 := hy.1
  have h3 := hy.2
  exact ⟨by omega, hx.2⟩
theorem r_ne_hi (hx : R a b x) (hy : R b b y) (h : ¬ x = y) (hf : f = b - 1) : R a f x := by
  have : ¬ x.toInt = y.toInt := fun q => h (Int32.toInt_inj.mp q)
  have h1 := hx.2
  have h2 := hy.1
  have h3 := hy.2
  exact ⟨hx.1, by omega⟩
theorem r_mix (h1 : R a b x) (h2 : R c d x) : R c b x := ⟨h2.1, h1.2⟩
theorem i_inc {k : Int} {z : Int32} (hx : R a b x) (hz : z.toInt = k) (hh : -2147483648 ≤ a + k ∧ b + k ≤ 2147483647) : (x + z).toInt = x.toInt + k := by
  have := i_add (c := k) (d := k) hx (y := z) ⟨by omega, by omega⟩ hh
  omega
theorem fu_up {H : Int} (h : R a b x) (hh : H - a < 100000) : H - x.toInt < ((FU : Nat) : Int) := by
  have := h.1
  have e : ((FU : Nat) : Int) = 100000 := rfl
  omega
theorem fu_dn {H : Int} (h : R a b x) (hh : b - H < 100000) : x.toInt - H < ((FU : Nat) : Int) := by
  have := h.2
  have e : ((FU : Nat) : Int) = 100000 := rfl
  omega
theorem fu_su {H k : Int} {n : Nat} (hf : H - x.toInt < ((n + 1 : Nat) : Int)) (he : y.toInt = x.toInt + k) (hk : 1 ≤ k) : H - y.toInt < (n : Int) := by omega
theorem fu_sd {H k : Int} {n : Nat} (hf : x.toInt - H < ((n + 1 : Nat) : Int)) (he : y.toInt = x.toInt + k) (hk : k ≤ -1) : y.toInt - H < (n : Int) := by omega
theorem r_and (hy : R a a y) (hh : 0 ≤ a ∧ e = 0 ∧ f = a) : R e f (x &&& y) := by
  obtain ⟨y1, y2⟩ := hy
  obtain ⟨h1, h2, h3⟩ := hh
  have e1 : (x &&& y).toBitVec.toNat ≤ y.toBitVec.toNat := by
    rw [Int32.toBitVec_and, BitVec.toNat_and]
    exact Nat.and_le_right
  have e2 : y.toInt = y.toBitVec.toInt := rfl
  have e3 : (x &&& y).toInt = (x &&& y).toBitVec.toInt := rfl
  rw [BitVec.toInt_eq_toNat_cond] at e2 e3
  have b1 := y.toBitVec.isLt
  unfold R
  split at e2 <;> split at e3 <;> omega
theorem r_andl (hx : R a b x) (hh : 0 ≤ a ∧ e = 0 ∧ f = b) : R e f (x &&& y) := by
  obtain ⟨x1, x2⟩ := hx
  obtain ⟨h1, h2, h3⟩ := hh
  have e1 : (x &&& y).toBitVec.toNat ≤ x.toBitVec.toNat := by
    rw [Int32.toBitVec_and, BitVec.toNat_and]
    exact Nat.and_le_left
  have e2 : x.toInt = x.toBitVec.toInt := rfl
  have e3 : (x &&& y).toInt = (x &&& y).toBitVec.toInt := rfl
  rw [BitVec.toInt_eq_toNat_cond] at e2 e3
  have b1 := x.toBitVec.isLt
  unfold R
  split at e2 <;> split at e3 <;> omega
theorem r_or (m : Nat) (hx : R 0 (((2 ^ m : Nat) : Int) - 1) x) (hy : R 0 (((2 ^ m : Nat) : Int) - 1) y) (hh : m ≤ 30 ∧ e = 0 ∧ f = ((2 ^ m : Nat) : Int) - 1) : R e f (x ||| y) := by
  obtain ⟨x1, x2⟩ := hx
  obtain ⟨y1, y2⟩ := hy
  obtain ⟨h1, h2, h3⟩ := hh
  have p : 2 ^ m ≤ 2 ^ 30 := Nat.pow_le_pow_right (by decide) h1
  have e1 : x.toInt = x.toBitVec.toInt := rfl
  have e2 : y.toInt = y.toBitVec.toInt := rfl
  have e3 : (x ||| y).toInt = (x ||| y).toBitVec.toInt := rfl
  rw [BitVec.toInt_eq_toNat_cond] at e1 e2 e3
  have b1 := x.toBitVec.isLt
  have b2 := y.toBitVec.isLt
  have n1 : x.toBitVec.toNat < 2 ^ m := by split at e1 <;> omega
  have n2 : y.toBitVec.toNat < 2 ^ m := by split at e2 <;> omega
  have n3 : (x ||| y).toBitVec.toNat < 2 ^ m := by
    rw [Int32.toBitVec_or, BitVec.toNat_or]
    exact Nat.or_lt_two_pow n1 n2
  unfold R
  split at e3 <;> omega
theorem shl_k : ∀ k, k < 31 → ((1 : Int32) <<< (nI k &&& 31)).toInt = ((2 ^ k : Nat) : Int) := by decide +kernel
theorem r_shl (hx : R a b x) (hh : 0 ≤ a ∧ b ≤ 30 ∧ e = 1 ∧ f = ((2 ^ b.toNat : Nat) : Int)) : R e f (1 <<< (x &&& 31)) := by
  obtain ⟨x1, x2⟩ := hx
  obtain ⟨h1, h2, h3, h4⟩ := hh
  obtain ⟨k, hk, rfl⟩ := nI_of (x := x) (by rw [Int32.lt_iff_toInt_lt]; simp only [show (0 : Int32).toInt = 0 from rfl]; omega)
  rw [nI_toInt hk] at x1 x2
  have := shl_k k (by omega)
  have p1 : 1 ≤ 2 ^ k := Nat.one_le_two_pow
  have p2 : 2 ^ k ≤ 2 ^ b.toNat := Nat.pow_le_pow_right (by decide) (by omega)
  exact ⟨by omega, by omega⟩
theorem r_nb (x : Int32) : R 0 1 (nb x) := r_and (a := 1) ⟨by decide, by decide⟩ (by decide)
theorem r_irm (hx : R a b x) (hy : R c c y) (hh : 0 ≤ a ∧ 0 < c ∧ e = 0 ∧ f = c - 1) : R e f (irm x y) := by
  obtain ⟨x1, x2⟩ := hx
  obtain ⟨y1, y2⟩ := hy
  obtain ⟨h1, h2, h3, h4⟩ := hh
  have q : (x / y).toInt = x.toInt / y.toInt := lg_idiv_nonneg (by omega) (by omega)
  have bx := Int32.toInt_lt x
  have m0 : y.toInt * (x.toInt / y.toInt) + x.toInt % y.toInt = x.toInt := Int.mul_ediv_add_emod _ _
  have m1 : 0 ≤ x.toInt % y.toInt := Int.emod_nonneg _ (by omega)
  have m2 : x.toInt % y.toInt < y.toInt := Int.emod_lt_of_pos _ (by omega)
  have m3 : 0 ≤ x.toInt / y.toInt := Int.ediv_nonneg (by omega) (by omega)
  have m4 : x.toInt / y.toInt * y.toInt = y.toInt * (x.toInt / y.toInt) := Int.mul_comm _ _
  have m5 : 0 ≤ y.toInt * (x.toInt / y.toInt) := Int.mul_nonneg (by omega) m3
  have e1 : (x / y * y).toInt = x.toInt / y.toInt * y.toInt := by
    rw [Int32.toInt_mul, q, Int.bmod_eq_of_le_mul_two (by omega) (by omega)]
  have e2 : (irm x y).toInt = x.toInt - x.toInt / y.toInt * y.toInt := by
    unfold irm
    rw [Int32.toInt_sub, e1, Int.bmod_eq_of_le_mul_two (by omega) (by omega)]
  exact ⟨by omega, by omega⟩
theorem r_no {p : Prop} (hx : R a b x) (hh : b < a) : p := by
  have h1 := hx.1
  have h2 := hx.2
  omega
end RNG
theorem up_same {h : PH} {c j : Nat} {v : Int32} : up h c j v c j = v := by simp [up_at]
theorem up_oc {h : PH} {c j b i : Nat} {v : Int32} (hb : b ≠ c) : up h c j v b i = h b i := by simp [up_at, hb]
theorem up_oj {h : PH} {c j i : Nat} {v : Int32} (hi : i ≠ j) : up h c j v c i = h c i := by simp [up_at, hi]
/-! which numbers a slot may hold -/
def rF : Int × Int := (-2147483648, 2147483647)
def spB (j : Nat) : Int × Int := if j = 1 then (0, 12) else rF
def spR (m w : Int) (j : Nat) : Int × Int := if j = 0 then (m, m) else if j = 1 then (w, w) else if j = 3 then (0, m) else rF
def spL (l : List (Nat × Int × Int)) (j : Nat) : Int × Int := match l with
  | [] => rF
  | (k, a, b) :: l => if j = k then (a, b) else spL l j
def spA (a b : Int) (_ : Nat) : Int × Int := (a, b)
def spF (_ : Nat) : Int × Int := rF
def spC (j : Nat) : Int × Int := if j % 5 = 0 ∨ j % 5 = 4 then rF else (-1, 9999)
def spD (j : Nat) : Int × Int := if j < 80 ∧ j % 5 = 2 then (0, 11) else if j < 80 ∧ j % 5 = 3 then (0, 3) else rF
def spW (j : Nat) : Int × Int := if j % 115 = 2 then (0, 150) else rF
def wdX : List Int := [32, 114, 101, 110, 116, 32, 103, 110, 97, 119, 115, 32, 109, 101, 108, 116, 115, 32, 119, 104, 101, 110, 32, 111, 114, 32, 97, 110, 100, 32, 110, 111, 116, 32, 119, 97, 108, 108, 32, 115, 117, 109, 32, 97, 108, 109, 111, 110, 100, 115, 32, 116, 101, 101, 116, 104, 32, 104, 97, 114, 100, 32, 105, 99, 105, 110, 103, 32, 108, 111, 100, 103, 101, 114, 115, 32, 100, 111, 111, 114, 32, 97, 103, 101, 32, 114, 97, 105, 110, 32, 102, 114, 111, 115, 116, 32, 113, 117, 97, 114, 116, 101, 114, 32, 105, 110, 32, 116, 104, 97, 119, 32, 105, 99, 101, 32, 98, 97, 107, 101, 32, 119, 101, 100, 32, 114, 97, 122, 101, 32, 104, 111, 117, 115, 101, 32, 110, 101, 120, 116, 32]
def spX (j : Nat) : Int × Int := if j < 141 then (wdX.getD j 0, wdX.getD j 0) else rF
def spI (p : Nat) : Int × Int := if p = 2 then (0, 150) else if 115 ≤ p ∧ p < 127 then ([((0 : Int), (12 : Int)), (0, 16), (0, 16), (0, 16), (0, 9), (0, 8), (0, 5), (0, 8), (0, 16), (0, 6), (0, 12), (0, 8)].getD (p - 115) rF) else if 127 ≤ p ∧ p < 175 ∧ p % 4 = 2 then (0, 12) else if 305 ≤ p ∧ p < 385 then spD (p - 305) else if p = 985 then (0, 16) else rF
def spT : List (Nat → Int × Int) := [spL [(13, 0, 1)], spB, spF, spB, spF, spF, spR 16 5, spC, spR 400 2, spF, spR 16 5, spC, spR 16 5, spC, spR 16 5, spC, spR 150 4, spF, spR 9 1, spF, spR 8 1, spF, spR 5 1, spF, spR 8 2, spF, spR 16 1, spF, spR 6 2, spF, spR 12 2, spF, spR 8 2, spF, spL [(4, 0, 64)], spF, spF, spB, spF, spF, spR 16 5, spC, spR 400 2, spF, spR 16 5, spC, spR 16 5, spC, spR 16 5, spC, spR 150 4, spF, spR 9 1, spF, spR 8 1, spF, spR 5 1, spF, spR 8 2, spF, spR 16 1, spF, spR 6 2, spF, spR 12 2, spF, spR 8 2, spF, spL [(3, 0, 1)], spL [(3, 0, 1)], spL [(2, 0, 5), (3, 0, 6)], spF, spA 0 150, spB, spF, spB, spF, spB, spF, spB, spF, spB, spF, spB, spF, spL [(4, 0, 400), (5, 0, 401)], spF, spF, spF, spF, spL [(8, 0, 12), (9, 0, 9999)], spR 16 5, spC, spR 400 2, spF, spF, spF, spF, spF, spF, spF, spF, spF, spF, spL [(3, 0, 6), (5, 0, 1), (6, 0, 12), (11, 0, 400), (12, 0, 400), (13, 0, 400), (33, 0, 16), (35, 0, 16), (37, 0, 16), (42, 0, 9), (45, 0, 8), (49, 0, 5), (51, 0, 8), (54, 0, 16), (57, 0, 6), (62, 0, 12), (66, 0, 8), (71, 0, 1), (72, 0, 1)], spL [(2, 0, 150)], spW, spL [(2, 0, 150)], spF, spF, spF, spF, spX, spL [(0, 0, 16)], spF, spF, spF, spF, spF, spF, spF, spF, spD, spF, spF, spF, spF, spF, spF, spF, spF, spF, spF, spF, spF, spF, spF, spF, spF, spA 0 5, spA 0 5, spA 0 12, spF, spF, spF, spF, spF, spF, spI]
def sp (c j : Nat) : Int × Int := (spT.getD c spF) j
def Inv (h : PH) : Prop := ∀ c j, R (sp c j).1 (sp c j).2 (h c j)
theorem inv_up {h : PH} {c j : Nat} {v : Int32} (hI : Inv h) (hv : R (sp c j).1 (sp c j).2 v) : Inv (up h c j v) := by
  intro b i
  rw [up_at]
  by_cases hb : b = c
  · subst hb
    by_cases hi : i = j
    · subst hi
      rw [if_pos rfl, if_pos rfl]; exact hv
    · rw [if_pos rfl, if_neg hi]; exact hI b i
  · rw [if_neg hb]; exact hI b i
theorem inv_rng {h : PH} {c j : Nat} {a b : Int} (hI : Inv h) (e : sp c j = (a, b)) : R a b (h c j) := by
  have := hI c j
  rw [e] at this
  exact this
theorem inv_put {h : PH} {c j : Nat} {v : Int32} {a b : Int} (hI : Inv h) (e : sp c j = (a, b)) (hv : R a b v) : Inv (up h c j v) := inv_up hI (by rw [e]; exact hv)
theorem s_win {ρ : Type} {Q : ρ → Prop} {v a b : Int32} {h : PH} {f : Int32 → Option ρ} (hf : ∀ r, R 0 1 r → (¬ r = 0 → a ≤ v ∧ v ≤ b) → Sf (f r) Q) : Sf (bd (mX_within v a b h) f) Q := by
  rw [within_eq, bd_e]
  by_cases c : a ≤ v ∧ v ≤ b
  · rw [if_pos c]; exact hf 1 ⟨by decide, by decide⟩ (fun _ => c)
  · rw [if_neg c]; exact hf 0 ⟨by decide, by decide⟩ (fun q => absurd rfl q)
theorem s_isin {ρ : Type} {Q : ρ → Prop} {v a b : Int32} {h : PH} {f : Int32 → Option ρ} (hf : ∀ r, R 0 1 r → (¬ r = 0 → a ≤ v ∧ v ≤ b) → Sf (f r) Q) : Sf (bd (mm_isIn v a b h) f) Q := by
  rw [isIn_eq, bd_e]
  by_cases c : a ≤ v ∧ v ≤ b
  · rw [if_pos c]; exact hf 1 ⟨by decide, by decide⟩ (fun _ => c)
  · rw [if_neg c]; exact hf 0 ⟨by decide, by decide⟩ (fun q => absurd rfl q)
def isB (a : Nat) : Prop := sp a = spB ∧ sp (a + 1) = spF
theorem s_house {ρ : Type} {Q : ρ → Prop} {v : Int32} {h : PH} {f : Int32 → Option ρ} (hI : Inv h) (hf : ∀ r, R 0 1 r → (¬ r = 0 → R 0 11 v) → Sf (f r) Q) : Sf (bd (mm_isHouse v h) f) Q := by
  unfold mm_isHouse
  have f1 : R 0 12 (h 104 6) := inv_rng hI rfl
  by_cases c : v < 0
  · rw [if_pos c, bd_e]; exact hf 0 ⟨by decide, by decide⟩ (fun q => absurd rfl q)
  · rw [if_neg c]
    by_cases c2 : h 104 6 ≤ v
    · rw [if_pos c2, bd_e]; exact hf 0 ⟨by decide, by decide⟩ (fun q => absurd rfl q)
    · rw [if_neg c2, bd_e]
      refine hf 1 ⟨by decide, by decide⟩ (fun _ => ?_)
      have f2 : R 0 2147483647 v := le_lo (show R 0 0 (0 : Int32) from ⟨by decide, by decide⟩) (r_full v) (nlt_le c)
      exact lt_hi f2 f1 (nle_lt c2) (by decide)
theorem s_has {ρ : Type} {Q : ρ → Prop} {a0 : Nat} {v : Int32} {h : PH} {f : Int32 → Option ρ} (hb : isB a0) (hI : Inv h) (hf : ∀ r, R 0 1 r → (¬ r = 0 → R 0 11 v) → Sf (f r) Q) : Sf (bd (mB_has a0 v h) f) Q := by
  unfold mB_has
  have f1 : R 0 12 (h a0 1) := inv_rng hI (congrFun hb.1 1)
  by_cases c : v < 0
  · rw [if_pos c, bd_e]; exact hf 0 ⟨by decide, by decide⟩ (fun q => absurd rfl q)
  · rw [if_neg c]
    by_cases c2 : h a0 1 ≤ v
    · rw [if_pos c2, bd_e]; exact hf 0 ⟨by decide, by decide⟩ (fun q => absurd rfl q)
    · rw [if_neg c2, bd_e]
      refine hf 1 ⟨by decide, by decide⟩ (fun _ => ?_)
      have f2 : R 0 2147483647 v := le_lo (show R 0 0 (0 : Int32) from ⟨by decide, by decide⟩) (r_full v) (nlt_le c)
      exact lt_hi f2 f1 (nle_lt c2) (by decide)
theorem sp_ne105 {i : Int32} {a b : Int} (h : R a b i) (hh : 2 < a ∨ (0 ≤ a ∧ b < 2)) : sp 105 (ix i) = (-2147483648, 2147483647) := by
  have e : sp 105 = spL [(2, 0, 150)] := rfl
  have n2 : ¬ ix i = 2 := by
    intro q
    have q : i.toNatClampNeg = 2 := q
    obtain ⟨h1, h2⟩ := h
    have := clamp_int (i := i) (by omega)
    omega
  rw [e]
  unfold spL
  rw [if_neg n2]
  rfl
