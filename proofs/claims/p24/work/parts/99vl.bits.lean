/-! Long.bitCount counts bits -/
def bq_sN (f : Nat → Nat) : Nat → Nat
  | 0 => 0
  | k + 1 => bq_sN f k + f k
def bq_rep (m : Nat) : Nat → Nat
  | 0 => 0
  | n + 1 => 256 * bq_rep m n + m
theorem bq_and_b (a b c d : Nat) (hb : b < 256) (hd : d < 256) : (256 * a + b) &&& (256 * c + d) = 256 * (a &&& c) + (b &&& d) := by
  have hbd : (b &&& d) < 2 ^ 8 := Nat.and_lt_two_pow _ hd
  apply Nat.eq_of_testBit_eq
  intro i
  rw [Nat.testBit_and, show 256 * a = 2 ^ 8 * a from rfl, show 256 * c = 2 ^ 8 * c from rfl, show 256 * (a &&& c) = 2 ^ 8 * (a &&& c) from rfl,
    Nat.testBit_two_pow_mul_add a (show b < 2 ^ 8 from hb), Nat.testBit_two_pow_mul_add c (show d < 2 ^ 8 from hd), Nat.testBit_two_pow_mul_add _ hbd]
  split
  · rw [Nat.testBit_and]
  · rw [Nat.testBit_and]
def bq_t1 (b : Nat) : Nat := b - ((b / 2) &&& 0x55)
def bq_t2 (b : Nat) : Nat := (b &&& 0x33) + ((b / 4) &&& 0x33)
def bq_t3 (b : Nat) : Nat := (b + b / 16) &&& 0x0f
def bq_g1 (n x : Nat) : Nat := x - ((x / 2) &&& bq_rep 0x55 n)
def bq_g2 (n x : Nat) : Nat := (x &&& bq_rep 0x33 n) + ((x / 4) &&& bq_rep 0x33 n)
def bq_g3 (n x : Nat) : Nat := (x + x / 16) &&& bq_rep 0x0f n
theorem bq_q1 : ∀ b, b < 256 → ∀ e, e < 2 → ((128 * e + b / 2) &&& 0x55) = ((b / 2) &&& 0x55) ∧ ((b / 2) &&& 0x55) ≤ b := by decide +kernel
theorem bq_q2 : ∀ b, b < 256 → ∀ e, e < 4 → ((64 * e + b / 4) &&& 0x33) = ((b / 4) &&& 0x33) ∧ ((b &&& 0x33) + ((b / 4) &&& 0x33)) < 256 := by decide +kernel
def bq_nb (b : Nat) : Bool := b % 16 < 5 && b / 16 < 5
theorem bq_q3 : ∀ b, b < 80 → bq_nb b = true → ∀ e, e < 5 → ((b + 16 * e + b / 16) &&& 0x0f) = bq_t3 b ∧ b + 16 * e + b / 16 < 256 := by decide +kernel
theorem bq_q4 : ∀ b, b < 256 → bq_nb (bq_t2 (bq_t1 b)) = true ∧ bq_t2 (bq_t1 b) < 80 ∧ bq_t1 b < 256 ∧ bq_t3 (bq_t2 (bq_t1 b)) = bq_sN (fun k => b / 2 ^ k % 2) 8 ∧ bq_t3 (bq_t2 (bq_t1 b)) < 9 := by decide +kernel
def bq_le8 : List Nat → Nat
  | [] => 0
  | b :: l => 256 * bq_le8 l + b
theorem bq_g1_l : ∀ l : List Nat, (∀ b ∈ l, b < 256) → bq_g1 l.length (bq_le8 l) = bq_le8 (l.map bq_t1) ∧ ((bq_le8 l / 2) &&& bq_rep 0x55 l.length) ≤ bq_le8 l := by
  intro l
  induction l with
  | nil => intro _; exact ⟨rfl, Nat.le_refl _⟩
  | cons b l ih =>
    intro h
    obtain ⟨i1, i2⟩ := ih (fun x hx => h x (List.mem_cons_of_mem _ hx))
    have hb := h b List.mem_cons_self
    obtain ⟨p1, p2⟩ := bq_q1 b hb (bq_le8 l % 2) (Nat.mod_lt _ (by decide))
    have e : (256 * bq_le8 l + b) / 2 = 256 * (bq_le8 l / 2) + (128 * (bq_le8 l % 2) + b / 2) := by omega
    have f : ((256 * bq_le8 l + b) / 2 &&& (256 * bq_rep 0x55 l.length + 0x55)) = 256 * ((bq_le8 l / 2) &&& bq_rep 0x55 l.length) + ((b / 2) &&& 0x55) := by
      rw [e, bq_and_b _ _ _ _ (by omega) (by decide), p1]
    unfold bq_g1 at i1 ⊢
    rw [List.length_cons, List.map_cons, bq_le8, bq_le8, bq_rep, f, ← i1, bq_t1]
    omega
theorem bq_g2_l : ∀ l : List Nat, (∀ b ∈ l, b < 256) → bq_g2 l.length (bq_le8 l) = bq_le8 (l.map bq_t2) := by
  intro l
  induction l with
  | nil => intro _; rfl
  | cons b l ih =>
    intro h
    have i1 := ih (fun x hx => h x (List.mem_cons_of_mem _ hx))
    have hb := h b List.mem_cons_self
    obtain ⟨p1, p2⟩ := bq_q2 b hb (bq_le8 l % 4) (Nat.mod_lt _ (by decide))
    have e : (256 * bq_le8 l + b) / 4 = 256 * (bq_le8 l / 4) + (64 * (bq_le8 l % 4) + b / 4) := by omega
    unfold bq_g2 at i1 ⊢
    rw [List.length_cons, List.map_cons, bq_le8, bq_le8, bq_rep, e, bq_and_b (bq_le8 l) b _ _ hb (by decide), bq_and_b (bq_le8 l / 4) _ _ _ (by omega) (by decide), p1, ← i1, bq_t2]
    omega
theorem bq_g3_l : ∀ l : List Nat, (∀ b ∈ l, b < 80 ∧ bq_nb b = true) → bq_g3 l.length (bq_le8 l) = bq_le8 (l.map bq_t3) ∧ bq_le8 l % 16 < 5 := by
  intro l
  induction l with
  | nil => intro _; exact ⟨rfl, by decide⟩
  | cons b l ih =>
    intro h
    obtain ⟨i1, i2⟩ := ih (fun x hx => h x (List.mem_cons_of_mem _ hx))
    obtain ⟨hb, hn⟩ := h b List.mem_cons_self
    obtain ⟨p1, p2⟩ := bq_q3 b hb hn (bq_le8 l % 16) i2
    have e : 256 * bq_le8 l + b + (256 * bq_le8 l + b) / 16 = 256 * (bq_le8 l + bq_le8 l / 16) + (b + 16 * (bq_le8 l % 16) + b / 16) := by omega
    unfold bq_g3 at i1 ⊢
    have hn' : b % 16 < 5 := by
      unfold bq_nb at hn
      rw [Bool.and_eq_true] at hn
      exact of_decide_eq_true hn.1
    refine ⟨?_, ?_⟩
    · rw [List.length_cons, List.map_cons, bq_le8, bq_le8, bq_rep, e, bq_and_b _ _ _ _ (by omega) (by decide), p1, i1]
    · rw [bq_le8]; omega
/-- the bytes of a word -/
def bq_by8 (x : Nat) : List Nat := [x % 256, x / 256 % 256, x / 65536 % 256, x / 16777216 % 256, x / 4294967296 % 256, x / 1099511627776 % 256, x / 281474976710656 % 256, x / 72057594037927936 % 256]
theorem bq_le_by8 (x : Nat) (h : x < 18446744073709551616) : bq_le8 (bq_by8 x) = x := by
  simp only [bq_by8, bq_le8]; omega
theorem bq_by8_lt (x : Nat) : ∀ b ∈ bq_by8 x, b < 256 := by
  intro b hb
  simp only [bq_by8, List.mem_cons, List.not_mem_nil, or_false] at hb
  rcases hb with h | h | h | h | h | h | h | h <;> (rw [h]; exact Nat.mod_lt _ (by decide))
def bq_pop (x : Nat) : Nat := bq_sN (fun k => x / 2 ^ k % 2) 64
theorem bq_fold8 (a b c d e f g h : Nat) (ha : a < 9) (hb : b < 9) (hc : c < 9) (hd : d < 9) (he : e < 9) (hf : f < 9) (hg : g < 9) (hh : h < 9) (y x4 x5 x6 : Nat) (ey : y = bq_le8 [a, b, c, d, e, f, g, h]) (e4 : x4 = y + y / 256) (e5 : x5 = x4 + x4 / 65536) (e6 : x6 = x5 + x5 / 4294967296) : y < 18446744073709551616 ∧ x4 < 18446744073709551616 ∧ x5 < 18446744073709551616 ∧ x6 < 18446744073709551616 ∧ x6 % 128 = a + b + c + d + e + f + g + h := by
  obtain ⟨y7, e7⟩ : ∃ z, z = h := ⟨_, rfl⟩
  obtain ⟨y6, e6y⟩ : ∃ z, z = 256 * y7 + g := ⟨_, rfl⟩
  obtain ⟨y5, e5y⟩ : ∃ z, z = 256 * y6 + f := ⟨_, rfl⟩
  obtain ⟨y4, e4y⟩ : ∃ z, z = 256 * y5 + e := ⟨_, rfl⟩
  obtain ⟨y3, e3y⟩ : ∃ z, z = 256 * y4 + d := ⟨_, rfl⟩
  obtain ⟨y2, e2y⟩ : ∃ z, z = 256 * y3 + c := ⟨_, rfl⟩
  obtain ⟨y1, e1y⟩ : ∃ z, z = 256 * y2 + b := ⟨_, rfl⟩
  have e0 : y = 256 * y1 + a := by
    rw [ey, e1y, e2y, e3y, e4y, e5y, e6y, e7]; simp only [bq_le8, Nat.mul_zero, Nat.zero_add]
  clear ey
  have d0 : y / 256 = y1 := by omega
  have d1 : (y + y1) / 65536 = y2 + y3 := by
    have : y + y1 = 65536 * (y2 + y3) + (256 * (b + c) + (a + b)) := by omega
    omega
  have d2 : (y + y1 + (y2 + y3)) / 4294967296 = y4 + y5 + y6 + y7 := by
    have : y + y1 + (y2 + y3) = 4294967296 * (y4 + y5 + y6 + y7) + (16777216 * (d + e + f + g) + 65536 * (c + d + e + f) + 256 * (b + c + d + e) + (a + b + c + d)) := by omega
    omega
  rw [d0] at e4
  rw [e4, d1] at e5
  rw [e5, d2] at e6
  have b7 : y7 < 9 := by omega
  have b6 : y6 < 4096 := by omega
  have b5 : y5 < 1048576 := by omega
  have b4 : y4 < 268435456 := by omega
  have b3 : y3 < 68719476736 := by omega
  have b2 : y2 < 17592186044416 := by omega
  have b1 : y1 < 4503599627370496 := by omega
  have b0 : y < 1152921504606846976 := by omega
  refine ⟨by omega, by omega, by omega, by omega, ?_⟩
  have : x6 = 128 * (2 * (y1 + y2 + y3 + y4 + y5 + y6 + y7)) + (a + b + c + d + e + f + g + h) := by omega
  omega
theorem bq_pop_by (x : Nat) : bq_pop x = bq_sN (fun k => x % 256 / 2 ^ k % 2) 8 + bq_sN (fun k => x / 256 % 256 / 2 ^ k % 2) 8 + bq_sN (fun k => x / 65536 % 256 / 2 ^ k % 2) 8 + bq_sN (fun k => x / 16777216 % 256 / 2 ^ k % 2) 8 + bq_sN (fun k => x / 4294967296 % 256 / 2 ^ k % 2) 8 + bq_sN (fun k => x / 1099511627776 % 256 / 2 ^ k % 2) 8 + bq_sN (fun k => x / 281474976710656 % 256 / 2 ^ k % 2) 8 + bq_sN (fun k => x / 72057594037927936 % 256 / 2 ^ k % 2) 8 := by
  unfold bq_pop
  have key : ∀ (y j : Nat), bq_sN (fun k => x / 2 ^ k % 2) (j + 8) = bq_sN (fun k => x / 2 ^ k % 2) j + bq_sN (fun k => x / 2 ^ j % 256 / 2 ^ k % 2) 8 := by
    intro _ j
    have hk : ∀ k, k < 8 → x / 2 ^ j % 256 / 2 ^ k % 2 = x / 2 ^ (j + k) % 2 := by
      intro k hk
      rw [Nat.pow_add, ← Nat.div_div_eq_div_mul]
      generalize x / 2 ^ j = z
      have h8 : k = 0 ∨ k = 1 ∨ k = 2 ∨ k = 3 ∨ k = 4 ∨ k = 5 ∨ k = 6 ∨ k = 7 := by omega
      rcases h8 with h | h | h | h | h | h | h | h <;> subst h <;> simp only [Nat.reducePow] <;> omega
    simp only [bq_sN, hk 0 (by decide), hk 1 (by decide), hk 2 (by decide), hk 3 (by decide), hk 4 (by decide), hk 5 (by decide), hk 6 (by decide), hk 7 (by decide), Nat.add_zero]
    simp only [Nat.zero_add, Nat.add_assoc]
  have k7 := key x 56
  have k6 := key x 48
  have k5 := key x 40
  have k4 := key x 32
  have k3 := key x 24
  have k2 := key x 16
  have k1 := key x 8
  have k0 := key x 0
  simp only [Nat.reduceAdd, Nat.reducePow, Nat.div_one] at k0 k1 k2 k3 k4 k5 k6 k7
  rw [k7, k6, k5, k4, k3, k2, k1, k0]
  simp only [bq_sN, Nat.zero_add]
def uL (x : Int64) : Nat := x.toBitVec.toNat
theorem uL_lt (x : Int64) : uL x < 18446744073709551616 := x.toBitVec.isLt
theorem uL_add (x y : Int64) : uL (x + y) = (uL x + uL y) % 18446744073709551616 := by
  unfold uL; rw [Int64.toBitVec_add, BitVec.toNat_add]
theorem uL_sub (x y : Int64) (h : uL y ≤ uL x) : uL (x - y) = uL x - uL y := by
  have := uL_lt x
  unfold uL at *
  rw [Int64.toBitVec_sub, BitVec.toNat_sub]
  omega
theorem uL_and (x y : Int64) : uL (x &&& y) = uL x &&& uL y := by
  unfold uL; rw [Int64.toBitVec_and, BitVec.toNat_and]
theorem uL_or (x y : Int64) : uL (x ||| y) = uL x ||| uL y := by
  unfold uL; rw [Int64.toBitVec_or, BitVec.toNat_or]
theorem uL_ushr (x : Int64) (k : Int32) (n : Nat) (hk : (k.toInt64.toUInt64 &&& Int64.toUInt64 63).toNat % 64 = n) : uL (lushr x k) = uL x / 2 ^ n := by
  unfold lushr
  show (x.toUInt64 >>> (k.toInt64.toUInt64 &&& Int64.toUInt64 63)).toNat = _
  rw [UInt64.toNat_shiftRight, hk, Nat.shiftRight_eq_div_pow]
  rfl
theorem bitc (x : Int64) (h : PH) : mN_bitCount x h = some (nI (bq_pop (uL x))) := by
  unfold mN_bitCount
  rw [lt_e, lt_e, lt_e, lt_e, lt_e, lt_e]
  have hx := uL_lt x
  have hl := bq_by8_lt (uL x)
  have e0 := bq_le_by8 _ hx
  obtain ⟨x1, d1⟩ : ∃ z, z = x - ((lushr x 1) &&& 6148914691236517205) := ⟨_, rfl⟩
  obtain ⟨x2, d2⟩ : ∃ z, z = (x1 &&& 3689348814741910323) + ((lushr x1 2) &&& 3689348814741910323) := ⟨_, rfl⟩
  obtain ⟨x3, d3⟩ : ∃ z, z = (x2 + (lushr x2 4)) &&& 1085102592571150095 := ⟨_, rfl⟩
  obtain ⟨x4, d4⟩ : ∃ z, z = x3 + lushr x3 8 := ⟨_, rfl⟩
  obtain ⟨x5, d5⟩ : ∃ z, z = x4 + lushr x4 16 := ⟨_, rfl⟩
  obtain ⟨x6, d6⟩ : ∃ z, z = x5 + lushr x5 32 := ⟨_, rfl⟩
  rw [← d1, ← d2, ← d3, ← d4, ← d5, ← d6]
  have r55 : uL 6148914691236517205 = bq_rep 0x55 8 := by decide
  have r33 : uL 3689348814741910323 = bq_rep 0x33 8 := by decide
  have r0f : uL 1085102592571150095 = bq_rep 0x0f 8 := by decide
  have len8 : ∀ f : Nat → Nat, ((bq_by8 (uL x)).map f).length = 8 := fun f => by rw [List.length_map]; rfl
  have u1 : uL x1 = bq_le8 ((bq_by8 (uL x)).map bq_t1) := by
    obtain ⟨p1, p2⟩ := bq_g1_l (bq_by8 (uL x)) hl
    rw [show (bq_by8 (uL x)).length = 8 from rfl, e0] at p1 p2
    rw [d1, uL_sub _ _ (by rw [uL_and, uL_ushr x 1 1 (by decide), r55]; exact p2), uL_and, uL_ushr x 1 1 (by decide), r55, ← p1]
    rfl
  have l1 : ∀ b ∈ (bq_by8 (uL x)).map bq_t1, b < 256 := fun b hb => by
    obtain ⟨c, hc, e⟩ := List.mem_map.mp hb
    rw [← e]
    exact (bq_q4 c (hl c hc)).2.2.1
  have bnd : ∀ (l : List Nat), (∀ b ∈ l, b < 256) → bq_le8 l < 256 ^ l.length := by
    intro l
    induction l with
    | nil => intro _; decide
    | cons b l ih =>
      intro h
      have a := ih (fun x hx => h x (List.mem_cons_of_mem _ hx))
      have c := h b List.mem_cons_self
      rw [bq_le8, List.length_cons, Nat.pow_succ]
      omega
  have u2 : uL x2 = bq_le8 (((bq_by8 (uL x)).map bq_t1).map bq_t2) := by
    have p := bq_g2_l _ l1
    rw [len8, ← u1] at p
    have b := bnd (((bq_by8 (uL x)).map bq_t1).map bq_t2) (fun b hb => by
      rw [List.map_map] at hb
      obtain ⟨c, hc, e⟩ := List.mem_map.mp hb
      rw [← e]
      have := (bq_q4 c (hl c hc)).2.1
      show bq_t2 (bq_t1 c) < 256
      omega)
    rw [List.length_map, len8] at b
    rw [d2, uL_add, uL_and, uL_and, uL_ushr x1 2 2 (by decide), r33]
    unfold bq_g2 at p
    rw [show (2 : Nat) ^ 2 = 4 from rfl, p]
    exact Nat.mod_eq_of_lt b
  have l2 : ∀ b ∈ ((bq_by8 (uL x)).map bq_t1).map bq_t2, b < 80 ∧ bq_nb b = true := fun b hb => by
    rw [List.map_map] at hb
    obtain ⟨c, hc, e⟩ := List.mem_map.mp hb
    rw [← e]
    exact ⟨(bq_q4 c (hl c hc)).2.1, (bq_q4 c (hl c hc)).1⟩
  have u3 : uL x3 = bq_le8 ((((bq_by8 (uL x)).map bq_t1).map bq_t2).map bq_t3) := by
    have p := (bq_g3_l _ l2).1
    rw [List.length_map, len8, ← u2] at p
    have b : uL x2 < 80 * 256 ^ 7 := by
      rw [u2]
      simp only [bq_by8, List.map_cons, List.map_nil, bq_le8]
      have k : ∀ c, c < 256 → bq_t2 (bq_t1 c) < 80 := fun c hc => (bq_q4 c hc).2.1
      have m : ∀ y, y % 256 < 256 := fun y => Nat.mod_lt _ (by decide)
      have k0 := k _ (m (uL x))
      have k1 := k _ (m (uL x / 256))
      have k2 := k _ (m (uL x / 65536))
      have k3 := k _ (m (uL x / 16777216))
      have k4 := k _ (m (uL x / 4294967296))
      have k5 := k _ (m (uL x / 1099511627776))
      have k6 := k _ (m (uL x / 281474976710656))
      have k7 := k _ (m (uL x / 72057594037927936))
      omega
    rw [d3, uL_and, uL_add, uL_ushr x2 4 4 (by decide), r0f, show (2 : Nat) ^ 4 = 16 from rfl, Nat.mod_eq_of_lt (by simp only [Nat.reducePow, Nat.reduceMul] at b; omega)]
    exact p
  have fo := bq_fold8 _ _ _ _ _ _ _ _ (bq_q4 _ (Nat.mod_lt (uL x) (by decide))).2.2.2.2 (bq_q4 _ (Nat.mod_lt (uL x / 256) (by decide))).2.2.2.2 (bq_q4 _ (Nat.mod_lt (uL x / 65536) (by decide))).2.2.2.2 (bq_q4 _ (Nat.mod_lt (uL x / 16777216) (by decide))).2.2.2.2 (bq_q4 _ (Nat.mod_lt (uL x / 4294967296) (by decide))).2.2.2.2 (bq_q4 _ (Nat.mod_lt (uL x / 1099511627776) (by decide))).2.2.2.2 (bq_q4 _ (Nat.mod_lt (uL x / 281474976710656) (by decide))).2.2.2.2 (bq_q4 _ (Nat.mod_lt (uL x / 72057594037927936) (by decide))).2.2.2.2 (uL x3) _ _ _ u3 rfl rfl rfl
  obtain ⟨f0, f1, f2, f3, f4⟩ := fo
  have u4 : uL x4 = uL x3 + uL x3 / 256 := by
    rw [d4, uL_add, uL_ushr x3 8 8 (by decide)]
    exact Nat.mod_eq_of_lt f1
  have u5 : uL x5 = uL x4 + uL x4 / 65536 := by
    rw [d5, uL_add, uL_ushr x4 16 16 (by decide), u4]
    exact Nat.mod_eq_of_lt f2
  have u6 : uL x6 = uL x5 + uL x5 / 4294967296 := by
    rw [d6, uL_add, uL_ushr x5 32 32 (by decide), u5, u4]
    exact Nat.mod_eq_of_lt f3
  rw [← u4, ← u5, ← u6] at f4
  have fin : (x6.toInt32 &&& 127) = nI (uL x6 % 128) := by
    apply Int32.toBitVec_inj.mp
    apply BitVec.eq_of_toNat_eq
    rw [Int32.toBitVec_and, BitVec.toNat_and]
    show (x6.toBitVec.signExtend 32).toNat &&& 127 = (BitVec.ofNat 32 (uL x6 % 128)).toNat
    rw [BitVec.signExtend_eq_setWidth_of_le _ (by decide), BitVec.toNat_setWidth, BitVec.toNat_ofNat, show (127 : Nat) = 2 ^ 7 - 1 from rfl, Nat.and_two_pow_sub_one_eq_mod]
    unfold uL
    omega
  rw [fin, f4, bq_pop_by, ← (bq_q4 _ (Nat.mod_lt (uL x) (by decide))).2.2.2.1, ← (bq_q4 _ (Nat.mod_lt (uL x / 256) (by decide))).2.2.2.1, ← (bq_q4 _ (Nat.mod_lt (uL x / 65536) (by decide))).2.2.2.1, ← (bq_q4 _ (Nat.mod_lt (uL x / 16777216) (by decide))).2.2.2.1, ← (bq_q4 _ (Nat.mod_lt (uL x / 4294967296) (by decide))).2.2.2.1, ← (bq_q4 _ (Nat.mod_lt (uL x / 1099511627776) (by decide))).2.2.2.1, ← (bq_q4 _ (Nat.mod_lt (uL x / 281474976710656) (by decide))).2.2.2.1, ← (bq_q4 _ (Nat.mod_lt (uL x / 72057594037927936) (by decide))).2.2.2.1]
