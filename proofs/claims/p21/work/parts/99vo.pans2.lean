/-! PANS: what class and model find -/
theorem pq_no10 : ¬ (1 : Int32) = 0 := by decide
theorem pn_b : ∀ s, s < 256 → ∀ k, k < 8 → ((nI s >>> (nI k &&& 31)) &&& 1) = nI (s / 2 ^ k % 2) := by decide +kernel
theorem pn_r : ∀ s, s < 256 → ∀ k, k < 8 → s / 2 ^ k % 2 = 1 → (nI s &&& ((1 <<< (nI k &&& 31)) ^^^ (-1))) = nI (s - 2 ^ k) ∧ s - 2 ^ k < s := by decide +kernel
theorem pn_j : ∀ s, s < 256 → ∀ k, k < 8 → s / 2 ^ k % 2 = 1 → ∀ j, j < 8 → (s - 2 ^ k) / 2 ^ j % 2 = if j = k then 0 else s / 2 ^ j % 2 := by decide +kernel
theorem pn_2 : ∀ n, n < 9 → ((1 : Int32) <<< (nI n &&& 31)) = nI (2 ^ n) ∧ 1 ≤ 2 ^ n ∧ 2 ^ n ≤ 256 := by decide +kernel
theorem pn_n : ∀ n, n < 9 → ∀ s, s < 2 ^ n → s ≠ 0 → ∃ j, j < n ∧ s / 2 ^ j % 2 = 1 := by decide +kernel
theorem pn_f : ∀ n, n < 9 → ∀ j, j < n → (2 ^ n - 1) / 2 ^ j % 2 = 1 := by decide +kernel
theorem pn_d : ∀ x, x < 1100 → (nI x / 100 = nI (x / 100) ∧ irm (nI x) 100 = nI (x % 100)) := by decide +kernel
theorem pq_wn {x d c : Nat} (hx : x < 1000) (hd : d ≤ 60) (hc : c ≤ 60) (h : PH) : mm_withDough (nI x) (nI d) (nI c) h = some (nI (pq_w c x d)) := by
  have d1 : ∀ (q : Option Int32), dz 100 q = q := fun q => by unfold dz; rw [if_neg (by decide)]
  obtain ⟨e1, e2⟩ := pn_d x (by omega)
  have t1 : (100 : Int32) * (nI (x / 100) + 1) + nI d = nI (100 * (x / 100 + 1) + d) := by rw [nI_1, show (100 : Int32) * nI (x / 100 + 1) = nI (100 * (x / 100 + 1)) from nI_mul 100 _, nI_add]
  unfold mm_withDough pq_w
  rw [d1, lt_e, d1, lt_e, e1, e2, t1]
  by_cases z : x / 100 = 0
  · rw [if_pos (by rw [z]; decide), if_pos (Or.inl z)]
  · rw [if_neg (nI_nle (by omega) (by omega)), nI_add]
    by_cases f : c < x % 100 + d
    · rw [if_pos (nI_lt f (by omega)), if_pos (Or.inr f)]
    · rw [if_neg (Int32.not_lt.mpr (nI_le (by omega) (by omega))), if_neg (by omega), show (100 : Int32) * nI (x / 100) = nI (100 * (x / 100)) from nI_mul 100 _, nI_add, nI_add, show 100 * (x / 100) + x % 100 = x by omega]
theorem pq_lse (a z : Int32) (h : PH) : mm_lesser a z h = some (imin a z) := by
  unfold mm_lesser imin
  by_cases c : z < a
  · rw [if_pos c, if_pos (Int32.le_of_lt c)]
  · rw [if_neg c]
    by_cases d : z ≤ a
    · rw [if_pos d]
      rw [Int32.lt_iff_toInt_lt] at c
      rw [Int32.le_iff_toInt_le] at d
      rw [show z = a from Int32.toInt_inj.mp (by omega)]
    · rw [if_neg d]
theorem pn_mn {a b : Nat} (ha : a < 2 ^ 31) (hb : b < 2 ^ 31) : imin (nI a) (nI b) = nI (min a b) := by
  unfold imin
  by_cases c : b < a
  · rw [if_pos (nI_lt c ha), Nat.min_eq_right (by omega)]
  · rw [if_neg (Int32.not_lt.mpr (nI_le (by omega) hb)), Nat.min_eq_left (by omega)]
/-- the model, set by set -/
theorem pq_f30 {d : Nat → Nat} {m c S : Nat} (hm : m ≤ 8) (hc : c ≤ 60) (hd : ∀ k, k < m → 1 ≤ d k ∧ d k ≤ c) (hS : S < 2 ^ m) (hS0 : S ≠ 0) {h : PH} (e45 : h 104 45 = nI m) (e129 : ∀ k, k < m → h 129 k = nI (d k)) (M : Nat → Nat) (hM : ∀ s, s < S → PQv d m c s (M s)) : ∀ (n k y : Nat) (hv : PH), m < n + k → k ≤ m → (∀ x, x ≠ 130 → hv x = h x) → (∀ s, s < S → hv 130 s = nI (M s)) → hv 130 S = nI y → (y = 100000000 ∨ (PQs d m c S y ∧ y < 1000)) → (∀ i, i < k → S / 2 ^ i % 2 = 1 → y ≤ pq_w c (M (S - 2 ^ i)) (d i)) → ∃ y' hv', (∀ k0, mm_fewestPans_L30 (nI c) (nI S) k0 n (nI k) hv = k0 hv') ∧ (∀ x, x ≠ 130 → hv' x = h x) ∧ (∀ s, s < S → hv' 130 s = nI (M s)) ∧ hv' 130 S = nI y' ∧ (y' = 100000000 ∨ (PQs d m c S y' ∧ y' < 1000)) ∧ ∀ i, i < m → S / 2 ^ i % 2 = 1 → y' ≤ pq_w c (M (S - 2 ^ i)) (d i) := by
  obtain ⟨_, p1, p2⟩ := pn_2 m (by omega)
  intro n
  induction n with
  | zero => intro k y hv h1 h2; omega
  | succ n ih =>
    intro k y hv h1 h2 fx fs ey sd pr
    have e45' : hv 104 45 = nI m := by rw [fx 104 (by decide)]; exact e45
    by_cases z : k = m
    · exact ⟨y, hv, fun k0 => by rw [mm_fewestPans_L30, e45', if_pos (by rw [z]; exact nI_le (Nat.le_refl _) (by omega))], fx, fs, ey, sd, fun i hi => pr i (by omega)⟩
    · have hk : k < m := by omega
      have hb := pn_b S (by omega) k (by omega)
      by_cases b : S / 2 ^ k % 2 = 1
      · obtain ⟨r1, r2⟩ := pn_r S (by omega) k (by omega) b
        have rj := pn_j S (by omega) k (by omega) b
        have v := hM _ r2
        have vl := pq_mvl hm hc hd v
        have di := hd k hk
        have sw := pq_sdw hc hd hk b (fun j hj => rj j (by omega)) (fun z0 j hj ji q => by
          have := rj j (by omega)
          rw [if_neg ji, z0, Nat.zero_div] at this
          omega) v
        have wl : pq_w c (M (S - 2 ^ k)) (d k) < 1000 := by unfold pq_w; split <;> omega
        have yl : y ≤ 100000000 := by
          rcases sd with q | q
          · omega
          · omega
        obtain ⟨y', hv', a1, a2⟩ := ih (k + 1) (min y (pq_w c (M (S - 2 ^ k)) (d k))) (up hv 130 S (nI (min y (pq_w c (M (S - 2 ^ k)) (d k))))) (by omega) (by omega) (fun x hx => by rw [up_cell hx]; exact fx x hx) (fun s hs => by rw [up_oj (by omega)]; exact fs s hs) up_same (by
          by_cases q : y ≤ pq_w c (M (S - 2 ^ k)) (d k)
          · rw [Nat.min_eq_left q]; exact sd
          · rw [Nat.min_eq_right (by omega)]; exact Or.inr ⟨sw, wl⟩) (fun i hi q => by
          by_cases w : i = k
          · rw [w]; exact Nat.min_le_right _ _
          · exact Nat.le_trans (Nat.min_le_left _ _) (pr i (by omega) q))
        refine ⟨y', hv', fun k0 => ?_, a2⟩
        have mh : mm_has (nI S) (nI k) hv = some 1 := by
          unfold mm_has
          rw [hb, b, if_pos (show nI 1 = (1 : Int32) from rfl)]
        rw [mm_fewestPans_L30, e45', if_neg (nI_ge hk (by omega)), mh, bd_e, if_neg pq_no10, r1, ck_nI (show S < 256 by omega) (by decide), ck_nI (show S - 2 ^ k < 256 by omega) (by decide), ck_nI (show k < 8 by omega) (by decide), show ix (nI (S - 2 ^ k)) = S - 2 ^ k from nI_clamp (by omega), show ix (nI k) = k from nI_clamp (by omega), show ix (nI S) = S from nI_clamp (by omega), fs _ r2, fx 129 (by decide), e129 k hk, ey, pq_wn (by omega) (by omega) hc, bd_e, pq_lse, bd_e, ck_nI (show S < 256 by omega) (by decide), lt_e, pn_mn (by omega) (by omega), nI_1, a1]
      · obtain ⟨y', hv', a1, a2⟩ := ih (k + 1) y hv (by omega) (by omega) fx fs ey sd (fun i hi q => by
          by_cases w : i = k
          · rw [w] at q; exact absurd q b
          · exact pr i (by omega) q)
        refine ⟨y', hv', fun k0 => ?_, a2⟩
        have mh : mm_has (nI S) (nI k) hv = some 0 := by
          unfold mm_has
          rw [hb, show S / 2 ^ k % 2 = 0 by omega, if_neg (show ¬ nI 0 = (1 : Int32) by decide)]
        rw [mm_fewestPans_L30, e45', if_neg (nI_ge hk (by omega)), mh, bd_e, if_pos rfl, nI_1, a1]
theorem pq_f9 {d : Nat → Nat} {m c : Nat} (hm : m ≤ 8) (hc : c ≤ 60) (hd : ∀ k, k < m → 1 ≤ d k ∧ d k ≤ c) {h : PH} (e45 : h 104 45 = nI m) (e129 : ∀ k, k < m → h 129 k = nI (d k)) : ∀ (n S : Nat) (M : Nat → Nat) (hv : PH), 2 ^ m < n + S → 1 ≤ S → S ≤ 2 ^ m → (∀ x, x ≠ 130 → hv x = h x) → (∀ s, s < S → hv 130 s = nI (M s) ∧ PQv d m c s (M s)) → ∃ (M' : Nat → Nat) (hv' : PH), (∀ k0, mm_fewestPans_L9 (nI c) k0 n (nI S) hv = k0 hv') ∧ (∀ x, x ≠ 130 → hv' x = h x) ∧ ∀ s, s < 2 ^ m → hv' 130 s = nI (M' s) ∧ PQv d m c s (M' s) := by
  obtain ⟨q2, p1, p2⟩ := pn_2 m (by omega)
  intro n
  induction n with
  | zero => intro S M hv h1 h2 h3; omega
  | succ n ih =>
    intro S M hv h1 h2 h3 fx fs
    have e45' : hv 104 45 = nI m := by rw [fx 104 (by decide)]; exact e45
    by_cases z : S = 2 ^ m
    · exact ⟨M, hv, fun k0 => by rw [mm_fewestPans_L9, e45', q2, if_pos (by rw [z]; exact nI_le (Nat.le_refl _) (by omega))], fx, fun s hs => fs s (by omega)⟩
    · have hS : S < 2 ^ m := by omega
      obtain ⟨y, hv1, a1, a2, a3, a4, a5, a6⟩ := pq_f30 hm hc hd hS (by omega) e45 e129 M (fun s hs => (fs s hs).2) FU 0 100000000 (up hv 130 S 100000000) (by unfold FU; omega) (Nat.zero_le _) (fun x hx => by rw [up_cell hx]; exact fx x hx) (fun s hs => by rw [up_oj (by omega)]; exact (fs s hs).1) up_same (Or.inl rfl) (fun i hi => absurd hi (Nat.not_lt_zero i))
      rw [nI_0] at a1
      obtain ⟨j, j1, j2⟩ := pn_n m (by omega) S hS (by omega)
      have rmv := fun i (hi : i < m) (b : S / 2 ^ i % 2 = 1) => (show PQv d m c (S - 2 ^ i) (M (S - 2 ^ i)) from (fs _ (pn_r S (by omega) i (by omega) b).2).2)
      have mv : PQv d m c S y := by
        refine ⟨fun w => by omega, fun _ => ⟨?_, fun B a p => pq_cow hc hd ⟨j, j1, j2⟩ (fun i => S - 2 ^ i) M (fun i hi b => ⟨rmv i hi b, fun k hk => pn_j S (by omega) i (by omega) b k (by omega), a6 i hi b⟩) B a p⟩⟩
        rcases a5 with w | w
        · have := a6 j j1 j2
          have v := rmv j j1 j2
          have vl := pq_mvl hm hc hd v
          have dj := hd j j1
          have wl : pq_w c (M (S - 2 ^ j)) (d j) < 1000 := by unfold pq_w; split <;> omega
          omega
        · exact w.1
      obtain ⟨M', hv', b1, b2⟩ := ih (S + 1) (fun s => if s = S then y else M s) hv1 (by omega) (by omega) (by omega) a2 (fun s hs => by
        show hv1 130 s = nI (if s = S then y else M s) ∧ PQv d m c s (if s = S then y else M s)
        by_cases w : s = S
        · rw [if_pos w, w]; exact ⟨a4, mv⟩
        · rw [if_neg w]; exact ⟨a3 s (by omega), (fs s (by omega)).2⟩)
      refine ⟨M', hv', fun k0 => ?_, b2⟩
      rw [mm_fewestPans_L9, e45', q2, if_neg (nI_ge hS (by omega)), ck_nI (show S < 256 by omega) (by decide), lt_e, show ix (nI S) = S from nI_clamp (by omega), a1, nI_1]
      exact b1 k0
theorem pq_fm {d : Nat → Nat} {m c : Nat} (hm : m ≤ 8) (hc : c ≤ 60) (hd : ∀ k, k < m → 1 ≤ d k ∧ d k ≤ c) {h : PH} (e45 : h 104 45 = nI m) (e129 : ∀ k, k < m → h 129 k = nI (d k)) : ∃ x g, mm_fewestPans (nI c) h = some (nI (x / 100), g) ∧ PQv d m c (2 ^ m - 1) x := by
  obtain ⟨q2, p1, p2⟩ := pn_2 m (by omega)
  obtain ⟨M, g, a1, a2, a3⟩ := pq_f9 hm hc hd e45 e129 FU 1 (fun _ => 0) (up h 130 0 0) (by unfold FU; omega) (Nat.le_refl _) (by omega) (fun x hx => up_cell hx) (fun s hs => ⟨by rw [show s = 0 by omega, up_same]; rfl, ⟨fun _ => rfl, fun w => absurd (show s = 0 by omega) w⟩⟩)
  obtain ⟨b1, b2⟩ := a3 (2 ^ m - 1) (by omega)
  have bl := pq_mvl hm hc hd b2
  refine ⟨M (2 ^ m - 1), g, ?_, b2⟩
  have c0 : ∀ (z : Option (Int32 × PH)), ck 0 256 z = z := fun z => ck_nI (i := 0) (by decide) (by decide)
  have d1 : ∀ (q : Option (Int32 × PH)), dz 100 q = q := fun q => by unfold dz; rw [if_neg (by decide)]
  unfold mm_fewestPans
  rw [c0, lt_e, show ix (0 : Int32) = 0 from rfl, show mm_fewestPans_L9 (nI c) _ FU 1 (up h 130 0 0) = _ from a1 _]
  try dsimp only
  rw [a2 104 (by decide), e45, q2, show nI (2 ^ m) - 1 = nI (2 ^ m - 1) from nI_sub (b := 1) p1, ck_nI (show 2 ^ m - 1 < 256 by omega) (by decide), d1, show ix (nI (2 ^ m - 1)) = 2 ^ m - 1 from nI_clamp (by omega), b1, (pn_d _ (by omega)).1]
/-- what is to come into a pan -/
def pq_s (d a : Nat → Nat) (b : Nat) : Nat → Nat
  | 0 => 0
  | k + 1 => pq_s d a b k + (if a k = b then d k else 0)
theorem pq_sm {d a : Nat → Nat} {b i : Nat} : ∀ k, i ≤ k → pq_s d a b i ≤ pq_s d a b k := by
  intro k
  induction k with
  | zero => intro h; rw [show i = 0 by omega]; exact Nat.le_refl _
  | succ k ih =>
    intro h
    by_cases z : i = k + 1
    · rw [z]; exact Nat.le_refl _
    · have := ih (by omega)
      rw [pq_s]
      omega
theorem pq_sl {d a : Nat → Nat} {S b : Nat} : ∀ k, (∀ j, j < k → S / 2 ^ j % 2 = 1) → pq_ld d a S b k = pq_s d a b k := by
  intro k
  induction k with
  | zero => intro _; rfl
  | succ k ih =>
    intro e
    rw [pq_ld, pq_s, ih (fun j hj => e j (by omega))]
    by_cases z : a k = b
    · rw [if_pos ⟨e k (by omega), z⟩, if_pos z]
    · rw [if_neg (fun y => z y.2), if_neg z]
theorem pq_sx {d a a' : Nat → Nat} {b : Nat} : ∀ k, (∀ j, j < k → a j = a' j) → pq_s d a b k = pq_s d a' b k := by
  intro k
  induction k with
  | zero => intro _; rfl
  | succ k ih => intro e; rw [pq_s, pq_s, ih (fun j hj => e j (by omega)), e k (by omega)]
theorem pq_sd {d a a' : Nat → Nat} {b i : Nat} : ∀ k, i ≤ k → (∀ j, i ≤ j → j < k → a j = a' j) → pq_s d a b k - pq_s d a b i = pq_s d a' b k - pq_s d a' b i := by
  intro k
  induction k with
  | zero => intro h _; rw [show i = 0 by omega]; omega
  | succ k ih =>
    intro h e
    by_cases z : i = k + 1
    · rw [z]; omega
    · have x := ih (by omega) (fun j j1 j2 => e j j1 (by omega))
      have m1 := @pq_sm d a b i k (by omega)
      have m2 := @pq_sm d a' b i k (by omega)
      rw [pq_s, pq_s, e k (by omega) (by omega)]
      omega
/-- from house i on, u pans in use with loads L: what the class may say -/
def PQo (d : Nat → Nat) (m c i u : Nat) (L : Nat → Nat) (r : Nat) : Prop := r < 8 → ∃ a, (∀ k, i ≤ k → k < m → a k < r) ∧ u ≤ r ∧ ∀ b, b < r → (if b < u then L b else 0) + (pq_s d a b m - pq_s d a b i) ≤ c
def PQd (d : Nat → Nat) (m c i u : Nat) (L : Nat → Nat) (B : Nat) (a s : Nat → Nat) : Prop := B ≤ 8 ∧ (∀ j, j < u → s j < B) ∧ (∀ j k, j < u → k < u → s j = s k → j = k) ∧ (∀ k, i ≤ k → k < m → a k < B) ∧ (∀ j, j < u → L j + (pq_s d a (s j) m - pq_s d a (s j) i) ≤ c) ∧ ∀ b, b < B → (∀ j, j < u → s j ≠ b) → pq_s d a b m - pq_s d a b i ≤ c
def PQc (d : Nat → Nat) (m c i u : Nat) (L : Nat → Nat) (r : Nat) : Prop := ∀ B a s, PQd d m c i u L B a s → r ≤ B
