/-! PANS: bins, on paper -/
def pq_ld (d a : Nat → Nat) (S b : Nat) : Nat → Nat
  | 0 => 0
  | k + 1 => pq_ld d a S b k + (if S / 2 ^ k % 2 = 1 ∧ a k = b then d k else 0)
def PQg (d a : Nat → Nat) (m c S B : Nat) : Prop := (∀ i, i < m → S / 2 ^ i % 2 = 1 → a i < B) ∧ ∀ b, b < B → pq_ld d a S b m ≤ c
theorem pq_cg {d a a' : Nat → Nat} {S b : Nat} : ∀ m, (∀ j, j < m → S / 2 ^ j % 2 = 1 → a j = a' j) → pq_ld d a S b m = pq_ld d a' S b m := by
  intro m
  induction m with
  | zero => intro _; rfl
  | succ m ih =>
    intro e
    rw [pq_ld, pq_ld, ih (fun j hj => e j (by omega))]
    by_cases z : S / 2 ^ m % 2 = 1
    · rw [e m (by omega) z]
    · rw [if_neg (fun y => z y.1), if_neg (fun y => z y.1)]
theorem pq_0 {d a : Nat → Nat} {S b : Nat} : ∀ m, (∀ j, j < m → S / 2 ^ j % 2 = 1 → a j ≠ b) → pq_ld d a S b m = 0 := by
  intro m
  induction m with
  | zero => intro _; rfl
  | succ m ih =>
    intro e
    rw [pq_ld, ih (fun j hj => e j (by omega)), if_neg (fun y => e m (by omega) y.1 y.2)]
/-- one more in the set -/
theorem pq_rm {d a : Nat → Nat} {S S' b i : Nat} (hi : S / 2 ^ i % 2 = 1) : ∀ m, (∀ j, j < m → S' / 2 ^ j % 2 = if j = i then 0 else S / 2 ^ j % 2) → pq_ld d a S b m = pq_ld d a S' b m + (if i < m ∧ a i = b then d i else 0) := by
  intro m
  induction m with
  | zero => intro _; rw [if_neg (fun z => Nat.not_lt_zero i z.1)]; rfl
  | succ m ih =>
    intro e
    have e' := e m (by omega)
    rw [pq_ld, pq_ld, ih (fun j hj => e j (by omega))]
    by_cases z : m = i
    · subst z
      rw [if_pos rfl] at e'
      have n1 : ¬ (m < m ∧ a m = b) := fun y => by omega
      have n2 : ¬ (S' / 2 ^ m % 2 = 1 ∧ a m = b) := fun y => by omega
      rw [if_neg n1, if_neg n2]
      by_cases y : a m = b
      · rw [if_pos ⟨hi, y⟩, if_pos ⟨by omega, y⟩]
      · rw [if_neg (fun w => y w.2), if_neg (fun w => y w.2)]
    · rw [if_neg z] at e'
      rw [e']
      by_cases y : i < m ∧ a i = b
      · have p1 : i < m + 1 ∧ a i = b := ⟨by have := y.1; omega, y.2⟩
        rw [if_pos y, if_pos p1]; omega
      · have p2 : ¬ (i < m + 1 ∧ a i = b) := fun w => y ⟨by have := w.1; omega, w.2⟩
        rw [if_neg y, if_neg p2]; omega
theorem pq_sg {d a : Nat → Nat} {S b i : Nat} (hi : S / 2 ^ i % 2 = 1) (hb : a i = b) : ∀ m, i < m → d i ≤ pq_ld d a S b m := by
  intro m
  induction m with
  | zero => intro h; omega
  | succ m ih =>
    intro h
    rw [pq_ld]
    by_cases z : i = m
    · subst z
      rw [if_pos ⟨hi, hb⟩]
      omega
    · have := ih (by omega)
      omega
/-- a dough more: pans and load, as the model counts -/
def pq_w (c x d : Nat) : Nat := if x / 100 = 0 ∨ c < x % 100 + d then 100 * (x / 100 + 1) + d else x + d
theorem pq_wm {c x y d : Nat} (hc : c ≤ 60) (hd : d ≤ c) (h : x ≤ y) (hx : x % 100 ≤ c) (hy : y % 100 ≤ c) : pq_w c x d ≤ pq_w c y d := by
  unfold pq_w
  split <;> split <;> omega
/-- what the model may say of a set -/
def PQs (d : Nat → Nat) (m c S x : Nat) : Prop := x % 100 ≤ c ∧ 1 ≤ x / 100 ∧ ∃ a, PQg d a m c S (x / 100) ∧ pq_ld d a S (x / 100 - 1) m = x % 100
def PQv (d : Nat → Nat) (m c S x : Nat) : Prop := (S = 0 → x = 0) ∧ (S ≠ 0 → PQs d m c S x ∧ ∀ B a, PQg d a m c S B → x ≤ 100 * B + pq_ld d a S (B - 1) m)
theorem pq_sdw {d : Nat → Nat} {m c S S' i x : Nat} (hc : c ≤ 60) (hd : ∀ k, k < m → 1 ≤ d k ∧ d k ≤ c) (him : i < m) (hi : S / 2 ^ i % 2 = 1) (rm : ∀ j, j < m → S' / 2 ^ j % 2 = if j = i then 0 else S / 2 ^ j % 2) (s0 : S' = 0 → ∀ j, j < m → j ≠ i → ¬ S / 2 ^ j % 2 = 1) (v : PQv d m c S' x) : PQs d m c S (pq_w c x (d i)) := by
  have di := hd i him
  have S'i : ¬ S' / 2 ^ i % 2 = 1 := by rw [rm i him, if_pos rfl]; omega
  have S'j : ∀ j, j < m → j ≠ i → S' / 2 ^ j % 2 = S / 2 ^ j % 2 := fun j hj ji => by rw [rm j hj, if_neg ji]
  by_cases z : S' = 0
  · have x0 := v.1 z
    subst x0
    have w : pq_w c 0 (d i) = 100 + d i := by unfold pq_w; rw [if_pos (Or.inl (by decide))]
    rw [w]
    have q1 : (100 + d i) / 100 = 1 := by omega
    have q2 : (100 + d i) % 100 = d i := by omega
    have l0 : pq_ld d (fun _ => 0) S 0 m = d i := by
      rw [pq_rm hi m rm, if_pos ⟨him, rfl⟩, pq_0 m (fun j hj y => by
        exfalso
        by_cases ji : j = i
        · rw [ji] at y; exact S'i y
        · rw [S'j j hj ji] at y
          exact s0 z j hj ji y), Nat.zero_add]
    refine ⟨by omega, by omega, fun _ => 0, ⟨fun j _ _ => by show 0 < (100 + d i) / 100; omega, fun b hb => ?_⟩, ?_⟩
    · rw [q1] at hb
      rw [show b = 0 by omega, l0]
      omega
    · rw [q1, q2]
      exact l0
  · obtain ⟨⟨v1, v2, a, ⟨a1, a2⟩, a3⟩, _⟩ := v.2 z
    have cg : ∀ k b, pq_ld d (fun j => if j = i then k else a j) S' b m = pq_ld d a S' b m := fun k b => pq_cg m (fun j hj y => by
      have : j ≠ i := fun w => by rw [w] at y; exact S'i y
      show (if j = i then k else a j) = a j
      rw [if_neg this])
    have ai : ∀ k, (fun j => if j = i then k else a j) i = k := fun k => if_pos rfl
    by_cases f : c < x % 100 + d i
    · have w : pq_w c x (d i) = 100 * (x / 100 + 1) + d i := by unfold pq_w; rw [if_pos (Or.inr f)]
      rw [w]
      have q1 : (100 * (x / 100 + 1) + d i) / 100 = x / 100 + 1 := by omega
      have q2 : (100 * (x / 100 + 1) + d i) % 100 = d i := by omega
      have ld : ∀ b, pq_ld d (fun j => if j = i then x / 100 else a j) S b m = pq_ld d a S' b m + (if x / 100 = b then d i else 0) := fun b => by
        rw [pq_rm hi m rm, cg, show (if i = i then x / 100 else a i) = x / 100 from if_pos rfl]
        by_cases y : x / 100 = b
        · rw [if_pos ⟨him, y⟩, if_pos y]
        · rw [if_neg (fun w => y w.2), if_neg y]
      have l0 : pq_ld d a S' (x / 100) m = 0 := pq_0 m (fun j hj y w => by have := a1 j hj y; omega)
      refine ⟨by omega, by omega, fun j => if j = i then x / 100 else a j, ⟨fun j hj y => ?_, fun b hb => ?_⟩, ?_⟩
      · show (if j = i then x / 100 else a j) < _
        by_cases w : j = i
        · rw [if_pos w]; omega
        · rw [if_neg w]
          have := a1 j hj (by rw [S'j j hj w]; exact y)
          omega
      · rw [ld]
        by_cases y : x / 100 = b
        · rw [if_pos y, ← y, l0]; omega
        · rw [if_neg y]
          have := a2 b (by omega)
          omega
      · rw [q1, q2, Nat.add_sub_cancel, ld, if_pos rfl, l0, Nat.zero_add]
    · have w : pq_w c x (d i) = x + d i := by unfold pq_w; rw [if_neg (by omega)]
      rw [w]
      have q1 : (x + d i) / 100 = x / 100 := by omega
      have q2 : (x + d i) % 100 = x % 100 + d i := by omega
      have ld : ∀ b, pq_ld d (fun j => if j = i then x / 100 - 1 else a j) S b m = pq_ld d a S' b m + (if x / 100 - 1 = b then d i else 0) := fun b => by
        rw [pq_rm hi m rm, cg, show (if i = i then x / 100 - 1 else a i) = x / 100 - 1 from if_pos rfl]
        by_cases y : x / 100 - 1 = b
        · rw [if_pos ⟨him, y⟩, if_pos y]
        · rw [if_neg (fun w => y w.2), if_neg y]
      refine ⟨by omega, by omega, fun j => if j = i then x / 100 - 1 else a j, ⟨fun j hj y => ?_, fun b hb => ?_⟩, ?_⟩
      · show (if j = i then x / 100 - 1 else a j) < _
        by_cases w : j = i
        · rw [if_pos w]; omega
        · rw [if_neg w]
          have := a1 j hj (by rw [S'j j hj w]; exact y)
          omega
      · rw [ld]
        by_cases y : x / 100 - 1 = b
        · rw [if_pos y, ← y, a3]; omega
        · rw [if_neg y]
          have := a2 b (by omega)
          omega
      · rw [q1, q2, ld, if_pos rfl, a3]
/-- the pan that is furthest on -/
theorem pq_mx {a : Nat → Nat} {S : Nat} : ∀ k, (∀ j, j < k → ¬ S / 2 ^ j % 2 = 1) ∨ ∃ i, i < k ∧ S / 2 ^ i % 2 = 1 ∧ ∀ j, j < k → S / 2 ^ j % 2 = 1 → a j ≤ a i := by
  intro k
  induction k with
  | zero => exact Or.inl (fun j hj => absurd hj (Nat.not_lt_zero j))
  | succ k ih =>
    by_cases z : S / 2 ^ k % 2 = 1
    · rcases ih with q | ⟨i, i1, i2, i3⟩
      · refine Or.inr ⟨k, by omega, z, fun j hj y => ?_⟩
        by_cases w : j = k
        · rw [w]; exact Nat.le_refl _
        · exact absurd y (q j (by omega))
      · by_cases y : a k ≤ a i
        · refine Or.inr ⟨i, by omega, i2, fun j hj w => ?_⟩
          by_cases u : j = k
          · rw [u]; exact y
          · exact i3 j (by omega) w
        · refine Or.inr ⟨k, by omega, z, fun j hj w => ?_⟩
          by_cases u : j = k
          · rw [u]; exact Nat.le_refl _
          · have := i3 j (by omega) w
            omega
    · rcases ih with q | ⟨i, i1, i2, i3⟩
      · refine Or.inl (fun j hj => ?_)
        by_cases w : j = k
        · rw [w]; exact z
        · exact q j (by omega)
      · refine Or.inr ⟨i, by omega, i2, fun j hj w => ?_⟩
        by_cases u : j = k
        · rw [u] at w; exact absurd w z
        · exact i3 j (by omega) w
theorem pq_cow {d : Nat → Nat} {m c S y : Nat} (hc : c ≤ 60) (hd : ∀ k, k < m → 1 ≤ d k ∧ d k ≤ c) (ne : ∃ j, j < m ∧ S / 2 ^ j % 2 = 1) (rmS : Nat → Nat) (M : Nat → Nat) (hr : ∀ i, i < m → S / 2 ^ i % 2 = 1 → PQv d m c (rmS i) (M (rmS i)) ∧ (∀ j, j < m → rmS i / 2 ^ j % 2 = if j = i then 0 else S / 2 ^ j % 2) ∧ y ≤ pq_w c (M (rmS i)) (d i)) (B : Nat) (a : Nat → Nat) (p : PQg d a m c S B) : y ≤ 100 * B + pq_ld d a S (B - 1) m := by
  rcases @pq_mx a S m with q | ⟨i, i1, i2, i3⟩
  · obtain ⟨j, j1, j2⟩ := ne
    exact absurd j2 (q j j1)
  · obtain ⟨v, rm, le⟩ := hr i i1 i2
    have di := hd i i1
    have aB := p.1 i i1 i2
    have ldS := pq_rm (d := d) (a := a) (b := a i) i2 m rm
    rw [if_pos ⟨i1, rfl⟩] at ldS
    have lc := p.2 (a i) aB
    have key : pq_w c (M (rmS i)) (d i) ≤ 100 * (a i + 1) + pq_ld d a S (a i) m := by
      by_cases z : rmS i = 0
      · have x0 := v.1 z
        rw [x0]
        have w : pq_w c 0 (d i) = 100 + d i := by unfold pq_w; rw [if_pos (Or.inl (by decide))]
        rw [w]
        omega
      · obtain ⟨⟨v1, v2, _⟩, v4⟩ := v.2 z
        have pg : PQg d a m c (rmS i) (a i + 1) := by
          refine ⟨fun j hj y => ?_, fun b hb => ?_⟩
          · have : S / 2 ^ j % 2 = 1 := by
              rw [rm j hj] at y
              by_cases w : j = i
              · rw [if_pos w] at y; omega
              · rw [if_neg w] at y; exact y
            have := i3 j hj this
            omega
          · have e := pq_rm (d := d) (a := a) (b := b) i2 m rm
            have := p.2 b (by omega)
            omega
        have u := v4 (a i + 1) a pg
        rw [Nat.add_sub_cancel] at u
        have t : pq_w c (100 * (a i + 1) + pq_ld d a (rmS i) (a i) m) (d i) = 100 * (a i + 1) + pq_ld d a (rmS i) (a i) m + d i := by
          unfold pq_w
          rw [if_neg (by omega)]
        have := pq_wm hc (by omega) u v1 (show (100 * (a i + 1) + pq_ld d a (rmS i) (a i) m) % 100 ≤ c by omega) (d := d i)
        omega
    by_cases e : a i + 1 = B
    · rw [← e, Nat.add_sub_cancel]
      omega
    · omega
/-- each in its own -/
theorem pq_mvl {d : Nat → Nat} {m c S x : Nat} (hm : m ≤ 8) (hc : c ≤ 60) (hd : ∀ k, k < m → 1 ≤ d k ∧ d k ≤ c) (v : PQv d m c S x) : x ≤ 100 * m + 60 := by
  by_cases z : S = 0
  · rw [v.1 z]; omega
  · have one : ∀ b k, pq_ld d (fun j => j) S b k ≤ (if b < k then d b else 0) := fun b k => by
      induction k with
      | zero => rw [if_neg (Nat.not_lt_zero b)]; exact Nat.le_refl _
      | succ k ih =>
        rw [pq_ld]
        by_cases y : k = b
        · subst y
          rw [if_neg (Nat.lt_irrefl k)] at ih
          rw [if_pos (Nat.lt_succ_self k)]
          split <;> omega
        · have n : ¬ (S / 2 ^ k % 2 = 1 ∧ k = b) := fun w => y w.2
          rw [if_neg n]
          by_cases u : b < k
          · rw [if_pos u] at ih
            rw [if_pos (by omega)]
            omega
          · rw [if_neg u] at ih
            rw [if_neg (by omega)]
            omega
    have pg : PQg d (fun j => j) m c S m := ⟨fun j hj _ => hj, fun b hb => by
      have := one b m
      rw [if_pos hb] at this
      have := hd b hb
      omega⟩
    have u := (v.2 z).2 m (fun j => j) pg
    have l : pq_ld d (fun j => j) S (m - 1) m ≤ 60 := by
      have := one (m - 1) m
      by_cases w : m - 1 < m
      · rw [if_pos w] at this
        have := hd (m - 1) w
        omega
      · rw [if_neg w] at this
        omega
    omega
/-- no more pans than there are -/
theorem pq_inj : ∀ (u B : Nat) (s : Nat → Nat), (∀ j, j < u → s j < B) → (∀ i j, i < u → j < u → s i = s j → i = j) → u ≤ B := by
  intro u
  induction u with
  | zero => intro B s _ _; exact Nat.zero_le _
  | succ u ih =>
    intro B s h1 h2
    have b := h1 u (by omega)
    have ne : ∀ j, j < u → s j ≠ s u := fun j hj e => by have := h2 j u (by omega) (by omega) e; omega
    have := ih (B - 1) (fun j => if s j < s u then s j else s j - 1) (fun j hj => by
      have x := h1 j (by omega)
      have y := ne j hj
      show (if s j < s u then s j else s j - 1) < B - 1
      split <;> omega) (fun i j hi hj e => by
      have x := ne i hi
      have y := ne j hj
      have e : (if s i < s u then s i else s i - 1) = (if s j < s u then s j else s j - 1) := e
      refine h2 i j (by omega) (by omega) ?_
      revert e
      split <;> split <;> omega)
    omega
