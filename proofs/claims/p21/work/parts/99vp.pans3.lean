/-! PANS: the class's search; both first fits; the answers -/
theorem pn_mx {a b : Nat} (ha : a < 2 ^ 31) (hb : b < 2 ^ 31) : imax (nI a) (nI b) = nI (max a b) := by
  unfold imax
  by_cases c : a < b
  · rw [if_pos (nI_lt c hb), Nat.max_eq_right (by omega)]
  · rw [if_neg (Int32.not_lt.mpr (nI_le (by omega) ha)), Nat.max_eq_left (by omega)]
def pqL (L : Nat → Nat) (v x : Nat) : Nat → Nat := fun j => if j = v then x else L j
theorem pq_css {d : Nat → Nat} {m c i u v r : Nat} {L : Nat → Nat} (hi : i < m) (hv : v ≤ u) (s : PQo d m c (i + 1) (max u (v + 1)) (pqL L v ((if v < u then L v else 0) + d i)) r) : PQo d m c i u L r := fun hr => by
  obtain ⟨a, a1, a2, a3⟩ := s hr
  refine ⟨fun k => if k = i then v else a k, fun k k1 k2 => ?_, by omega, fun b hb => ?_⟩
  · show (if k = i then v else a k) < r
    by_cases z : k = i
    · rw [if_pos z]; omega
    · rw [if_neg z]; exact a1 k (by omega) k2
  · have q := a3 b hb
    have e1 : pq_s d (fun k => if k = i then v else a k) b (i + 1) = pq_s d (fun k => if k = i then v else a k) b i + (if v = b then d i else 0) := by
      rw [pq_s]
      show _ + (if (if i = i then v else a i) = b then d i else 0) = _
      rw [if_pos rfl]
    have e2 := @pq_sd d (fun k => if k = i then v else a k) a b (i + 1) m (by omega) (fun j j1 j2 => by
      show (if j = i then v else a j) = a j
      rw [if_neg (by omega)])
    have m1 := @pq_sm d (fun k => if k = i then v else a k) b (i + 1) m (by omega)
    unfold pqL at q
    by_cases z : b = v
    · subst z
      rw [if_pos (by omega), if_pos rfl] at q
      rw [if_pos rfl] at e1
      omega
    · rw [if_neg (fun y => z y.symm)] at e1
      have : (if b < u then L b else 0) = (if b < max u (v + 1) then (if b = v then (if v < u then L v else 0) + d i else L b) else 0) := by
        rw [if_neg z]
        by_cases y : b < u
        · rw [if_pos y, if_pos (by omega)]
        · rw [if_neg y, if_neg (by omega)]
      omega
theorem pq_ccs {d : Nat → Nat} {m c i u v B : Nat} {L a s : Nat → Nat} (hi : i < m) (hv : v ≤ u) (q : PQd d m c i u L B a s) (w : (v < u ∧ s v = a i) ∨ (v = u ∧ ∀ j, j < u → s j ≠ a i)) : PQd d m c (i + 1) (max u (v + 1)) (pqL L v ((if v < u then L v else 0) + d i)) B a (fun j => if j = v then a i else s j) := by
  obtain ⟨q1, q2, q3, q4, q5, q6⟩ := q
  have ai := q4 i (Nat.le_refl _) hi
  have st : ∀ b, pq_s d a b (i + 1) = pq_s d a b i + (if a i = b then d i else 0) := fun b => rfl
  have mo : ∀ b, pq_s d a b (i + 1) ≤ pq_s d a b m := fun b => pq_sm m (by omega)
  have lt : ∀ j, j < max u (v + 1) → j ≠ v → j < u := fun j h1 h2 => by omega
  have ne : ∀ j, j < u → j ≠ v → s j ≠ a i := fun j h1 h2 e => by
    rcases w with ⟨w1, w2⟩ | ⟨w1, w2⟩
    · exact h2 (q3 j v h1 w1 (by rw [e, w2]))
    · exact w2 j h1 e
  refine ⟨q1, fun j hj => ?_, fun j k hj hk e => ?_, fun k k1 k2 => q4 k (by omega) k2, fun j hj => ?_, fun b hb nb => ?_⟩
  · show (if j = v then a i else s j) < B
    by_cases z : j = v
    · rw [if_pos z]; exact ai
    · rw [if_neg z]; exact q2 j (lt j hj z)
  · have e : (if j = v then a i else s j) = (if k = v then a i else s k) := e
    by_cases z : j = v
    · by_cases y : k = v
      · rw [z, y]
      · rw [if_pos z, if_neg y] at e
        exact absurd e.symm (ne k (lt k hk y) y)
    · by_cases y : k = v
      · rw [if_neg z, if_pos y] at e
        exact absurd e (ne j (lt j hj z) z)
      · rw [if_neg z, if_neg y] at e
        exact q3 j k (lt j hj z) (lt k hk y) e
  · show pqL L v ((if v < u then L v else 0) + d i) j + (pq_s d a (if j = v then a i else s j) m - pq_s d a (if j = v then a i else s j) (i + 1)) ≤ c
    unfold pqL
    by_cases z : j = v
    · rw [if_pos z, if_pos z]
      have e := st (a i)
      rw [if_pos rfl] at e
      have := mo (a i)
      rcases w with ⟨w1, w2⟩ | ⟨w1, w2⟩
      · have := q5 v w1
        rw [w2] at this
        rw [if_pos w1]
        omega
      · have := q6 (a i) ai w2
        rw [if_neg (by omega)]
        omega
    · rw [if_neg z, if_neg z]
      have hj' := lt j hj z
      have e := st (s j)
      rw [if_neg (fun y => ne j hj' z y.symm)] at e
      have := q5 j hj'
      omega
  · have bi : b ≠ a i := fun y => nb v (by omega) (by show (if v = v then a i else s v) = b; rw [if_pos rfl]; exact y.symm)
    have e := st b
    rw [if_neg (fun y => bi y.symm)] at e
    have := q6 b hb (fun j hj y => by
      by_cases z : j = v
      · subst z
        rcases w with ⟨w1, w2⟩ | ⟨w1, w2⟩
        · exact bi (by rw [← y, w2])
        · omega
      · exact nb j (by omega) (by show (if j = v then a i else s j) = b; rw [if_neg z]; exact y))
    omega
/-- the class's loop over pans -/
theorem pq_c26 {d : Nat → Nat} {m c i u : Nat} {L : Nat → Nat} (hm : m ≤ 8) (hc : c ≤ 60) (hd : ∀ k, k < m → 1 ≤ d k ∧ d k ≤ c) (hi : i < m) (hu : u ≤ 8) (hL : ∀ j, j < u → L j ≤ c) {h0 : PH} (f0 : Nat → Int32 → Int32 → Int32 → PH → Option (Int32 × PH)) (IH : ∀ (u' : Nat) (L' : Nat → Nat) (hv : PH), u' ≤ 8 → (∀ j, j < u' → L' j ≤ c) → (∀ x, x ≠ 99 → hv x = h0 x) → (∀ j, j < u' → hv 99 j = nI (L' j)) → ∃ r g, f0 20 (nI c) (nI (i + 1)) (nI u') hv = some (nI r, g) ∧ r ≤ 8 ∧ (∀ x, x ≠ 99 → g x = h0 x) ∧ (∀ j, j < u' → g 99 j = nI (L' j)) ∧ PQo d m c (i + 1) u' L' r ∧ PQc d m c (i + 1) u' L' r) : ∀ (n v t : Nat) (hv : PH), 8 < n + v → v ≤ 8 → v ≤ u + 1 → t ≤ 8 → (∀ x, x ≠ 99 → hv x = h0 x) → (∀ j, j < u → hv 99 j = nI (L j)) → PQo d m c i u L t → (∀ B a s, PQd d m c i u L B a s → ∀ w, w < v → ((w < u ∧ s w = a i) ∨ (w = u ∧ ∀ j, j < u → s j ≠ a i)) → t ≤ B) → ∃ r g, mK_fewestFrom_L26 20 (nI c) (nI i) (nI u) (nI (d i)) f0 n (nI t) (nI v) hv = some (nI r, g) ∧ r ≤ 8 ∧ (∀ x, x ≠ 99 → g x = h0 x) ∧ (∀ j, j < u → g 99 j = nI (L j)) ∧ PQo d m c i u L r ∧ PQc d m c i u L r := by
  intro n
  induction n with
  | zero => intro v t hv h1 h2; omega
  | succ n ih =>
    intro v t hv h1 h2 h3 h4 fx fs so pr
    have di := hd i hi
    have fin : u < v ∨ v = 8 → PQc d m c i u L t := fun e B a s q => by
      by_cases z : ∃ j, j < u ∧ s j = a i
      · obtain ⟨j, j1, j2⟩ := z
        exact pr B a s q j (by omega) (Or.inl ⟨j1, j2⟩)
      · have nn : ∀ j, j < u → s j ≠ a i := fun j hj y => z ⟨j, hj, y⟩
        obtain ⟨q1, q2, q3, q4, q5, q6⟩ := id q
        have ai := q4 i (Nat.le_refl _) hi
        have le := pq_inj (u + 1) B (fun j => if j = u then a i else s j) (fun j hj => by
          show (if j = u then a i else s j) < B
          by_cases y : j = u
          · rw [if_pos y]; exact ai
          · rw [if_neg y]; exact q2 j (by omega)) (fun j k hj hk e => by
          have e : (if j = u then a i else s j) = (if k = u then a i else s k) := e
          by_cases y : j = u
          · by_cases x : k = u
            · rw [y, x]
            · rw [if_pos y, if_neg x] at e
              exact absurd e.symm (nn k (by omega))
          · by_cases x : k = u
            · rw [if_neg y, if_pos x] at e
              exact absurd e (nn j (by omega))
            · rw [if_neg y, if_neg x] at e
              exact q3 j k (by omega) (by omega) e)
        exact pr B a s q u (by omega) (Or.inr ⟨rfl, nn⟩)
    by_cases e1 : u < v
    · exact ⟨t, hv, by rw [mK_fewestFrom_L26, if_pos (nI_lt e1 (by omega))], h4, fx, fs, so, fin (Or.inl e1)⟩
    · have n1 : ¬ nI u < nI v := Int32.not_lt.mpr (nI_le (by omega) (by omega))
      by_cases e2 : v = 8
      · exact ⟨t, hv, by rw [mK_fewestFrom_L26, if_neg n1, if_pos (by rw [e2]; decide)], h4, fx, fs, so, fin (Or.inr e2)⟩
      · have n2 : ¬ (8 : Int32) ≤ nI v := nI_ge (b := 8) (by omega) (by decide)
        have vu : v ≤ u := by omega
        have hx : (if v < u then L v else 0) ≤ c := by
          by_cases z : v < u
          · rw [if_pos z]; exact hL v z
          · rw [if_neg z]; exact Nat.zero_le _
        have hb : mK_fewestFrom_L26 20 (nI c) (nI i) (nI u) (nI (d i)) f0 (n + 1) (nI t) (nI v) hv = if nI c < nI ((if v < u then L v else 0) + d i) then mK_fewestFrom_L26 20 (nI c) (nI i) (nI u) (nI (d i)) f0 n (nI t) (nI (v + 1)) hv else lt (up hv 99 v (nI ((if v < u then L v else 0) + d i))) fun h4 => bd2 (f0 20 (nI c) (nI (i + 1)) (nI (max u (v + 1))) h4) fun r5 h6 => lt (imin (nI t) r5) fun x7 => lt (up h6 99 v (nI (if v < u then L v else 0))) fun h8 => mK_fewestFrom_L26 20 (nI c) (nI i) (nI u) (nI (d i)) f0 n x7 (nI (v + 1)) h8 := by
          have cv : ∀ (z : Option (Int32 × PH)), ck (nI v) 8 z = z := fun z => ck_nI (by omega) (by decide)
          rw [mK_fewestFrom_L26, if_neg n1, if_neg n2, jn1_e]
          by_cases z : v < u
          · rw [if_neg (nI_ge z (by omega)), cv, show ix (nI v) = v from nI_clamp (by omega), fs v z, if_pos z]
            try dsimp only
            rw [nI_add, nI_1, nI_1, pn_mx (by omega) (by omega)]
            simp only [cv]
          · rw [if_pos (show nI u ≤ nI v from nI_le (by omega) (by omega)), if_neg z]
            try dsimp only
            rw [show (0 : Int32) + nI (d i) = nI (0 + d i) from nI_add 0 (d i), nI_1, nI_1, pn_mx (by omega) (by omega), show ix (nI v) = v from nI_clamp (by omega), show nI 0 = (0 : Int32) from rfl]
            simp only [cv]
        by_cases f : c < (if v < u then L v else 0) + d i
        · obtain ⟨r, g, a1, a2⟩ := ih (v + 1) t hv (by omega) (by omega) (by omega) h4 fx fs so (fun B a s q w hw y => by
            by_cases z : w = v
            · exfalso
              obtain ⟨q1, q2, q3, q4, q5, q6⟩ := q
              have st : pq_s d a (a i) (i + 1) = pq_s d a (a i) i + d i := by rw [pq_s, if_pos rfl]
              have mo := @pq_sm d a (a i) (i + 1) m (by omega)
              rw [z] at y
              rcases y with ⟨y1, y2⟩ | ⟨y1, y2⟩
              · have := q5 v y1
                rw [y2] at this
                rw [if_pos y1] at f
                omega
              · rw [if_neg (by omega)] at f
                omega
            · exact pr B a s q w (by omega) y)
          refine ⟨r, g, ?_, a2⟩
          rw [hb, if_pos (nI_lt f (by omega))]
          exact a1
        · have sl : ∀ j, j < max u (v + 1) → up hv 99 v (nI ((if v < u then L v else 0) + d i)) 99 j = nI (pqL L v ((if v < u then L v else 0) + d i) j) := fun j hj => by
            unfold pqL
            by_cases z : j = v
            · rw [z, up_same, if_pos rfl]
            · rw [up_oj z, if_neg z]; exact fs j (by omega)
          obtain ⟨r5, g, b1, b2, b3, b4, b5, b6⟩ := IH (max u (v + 1)) (pqL L v ((if v < u then L v else 0) + d i)) (up hv 99 v (nI ((if v < u then L v else 0) + d i))) (by omega) (fun j hj => by
            unfold pqL
            by_cases z : j = v
            · rw [if_pos z]; omega
            · rw [if_neg z]; exact hL j (by omega)) (fun x hx => by rw [up_cell hx]; exact fx x hx) sl
          obtain ⟨r, g', a1, a2⟩ := ih (v + 1) (min t r5) (up g 99 v (nI (if v < u then L v else 0))) (by omega) (by omega) (by omega) (by omega) (fun x hx => by rw [up_cell hx]; exact b3 x hx) (fun j hj => by
            by_cases z : j = v
            · rw [z, up_same, if_pos (by omega)]
            · rw [up_oj z, b4 j (by omega)]
              unfold pqL
              rw [if_neg z]) (by
            by_cases z : t ≤ r5
            · rw [Nat.min_eq_left z]; exact so
            · rw [Nat.min_eq_right (by omega)]; exact pq_css hi vu b5) (fun B a s q w hw y => by
            by_cases z : w = v
            · rw [z] at y
              exact Nat.le_trans (Nat.min_le_right _ _) (b6 B a _ (pq_ccs hi vu q y))
            · exact Nat.le_trans (Nat.min_le_left _ _) (pr B a s q w (by omega) y))
          refine ⟨r, g', ?_, a2⟩
          rw [hb, if_neg (Int32.not_lt.mpr (nI_le (by omega) (by omega))), lt_e, b1, bd2_e, lt_e, pn_mn (by omega) (by omega), lt_e]
          exact a1
theorem pq_at20 {h : PH} (i : Inv h) {n k : Nat} (hn : n ≤ 8) (en : h 20 3 = nI n) (hk : k < n) {hv : PH} (fx : ∀ x, x ≠ 99 → hv x = h x) : mR_at 20 (nI k) 0 hv = some (h 21 k) := by
  have w1 : h 20 1 = 1 := Int32.toInt_inj.mp (by rw [(rows_i (a := 20) (m := 8) (w := 1) rfl i).2.1]; rfl)
  unfold mR_at
  rw [if_neg (nI_pos (by omega)), fx 20 (by decide), en, if_neg (nI_ge hk (by omega)), if_neg (by decide), w1, if_pos (by decide), show nI k * (1 : Int32) + 0 = nI k by rw [Int32.mul_one, Int32.add_zero], show ln (20 + 1) = 8 from rfl, ck_nI (by omega) (by decide), show ix (nI k) = k from nI_clamp (by omega), show (20 : Nat) + 1 = 21 from rfl, fx 21 (by decide)]
theorem pq_call {d : Nat → Nat} {m c : Nat} (hm : m ≤ 8) (hc : c ≤ 60) (hd : ∀ k, k < m → 1 ≤ d k ∧ d k ≤ c) {h : PH} (iv : Inv h) (e20 : h 20 3 = nI m) (e21 : ∀ k, k < m → h 21 k = nI (d k)) : ∀ (n i u : Nat) (L : Nat → Nat) (hv : PH), m < n + i → i ≤ m → u ≤ 8 → (∀ j, j < u → L j ≤ c) → (∀ x, x ≠ 99 → hv x = h x) → (∀ j, j < u → hv 99 j = nI (L j)) → ∃ r g, mK_fewestFrom n 20 (nI c) (nI i) (nI u) hv = some (nI r, g) ∧ r ≤ 8 ∧ (∀ x, x ≠ 99 → g x = h x) ∧ (∀ j, j < u → g 99 j = nI (L j)) ∧ PQo d m c i u L r ∧ PQc d m c i u L r := by
  intro n
  induction n with
  | zero => intro i u L hv h1 h2; omega
  | succ n ih =>
    intro i u L hv h1 h2 hu hL fx fs
    have e20' : hv 20 3 = nI m := by rw [fx 20 (by decide)]; exact e20
    rw [mK_fewestFrom]
    unfold mK_fewestFrom_F
    rw [e20']
    by_cases z : i = m
    · subst z
      rw [if_neg (Int32.not_lt.mpr (nI_le (Nat.le_refl _) (by omega)))]
      refine ⟨u, hv, rfl, hu, fx, fs, fun _ => ⟨fun _ => 0, fun k k1 k2 => by omega, Nat.le_refl _, fun b hb => ?_⟩, fun B a s q => pq_inj u B s q.2.1 q.2.2.1⟩
      rw [if_pos hb, Nat.sub_self]
      exact hL b hb
    · have hi : i < m := by omega
      rw [if_pos (nI_lt hi (by omega)), pq_at20 iv hm e20 hi fx, bd_e, e21 i hi]
      have := pq_c26 hm hc hd hi hu hL (h0 := h) (mK_fewestFrom n) (fun u' L' hv' w1 w2 w3 w4 => ih (i + 1) u' L' hv' (by omega) (by omega) w1 w2 w3 w4) FU 0 8 hv (by unfold FU; omega) (by decide) (Nat.zero_le _) (Nat.le_refl _) fx fs (fun w => by omega) (fun B a s q w hw => absurd hw (Nat.not_lt_zero w))
      rw [nI_0] at this
      exact this
/-- the fewest pans: both -/
theorem pq_few {d : Nat → Nat} {m c : Nat} (hm : m ≤ 8) (hc : c ≤ 60) (hd : ∀ k, k < m → 1 ≤ d k ∧ d k ≤ c) {h g : PH} (iv : Inv h) (e20 : h 20 3 = nI m) (e21 : ∀ k, k < m → h 21 k = nI (d k)) (e45 : g 104 45 = nI m) (e129 : ∀ k, k < m → g 129 k = nI (d k)) : ∃ r h' g', mK_fewestPans 20 (nI c) h = some (nI r, h') ∧ mm_fewestPans (nI c) g = some (nI r, g') := by
  obtain ⟨C, h', a1, a2, a3, a4, a5, a6⟩ := pq_call hm hc hd iv e20 e21 30 0 0 (fun _ => 0) h (by omega) (Nat.zero_le _) (by decide) (fun j hj => absurd hj (Nat.not_lt_zero j)) (fun _ _ => rfl) (fun j hj => absurd hj (Nat.not_lt_zero j))
  obtain ⟨x, g', b1, b2⟩ := pq_fm hm hc hd e45 e129
  have bl := pq_mvl hm hc hd b2
  have ff : ∀ j, j < m → (2 ^ m - 1) / 2 ^ j % 2 = 1 := pn_f m (by omega)
  have key : x / 100 = C := by
    by_cases m0 : m = 0
    · subst m0
      have x0 := b2.1 rfl
      subst x0
      have := a6 0 (fun _ => 0) (fun _ => 0) ⟨by decide, fun j hj => absurd hj (Nat.not_lt_zero j), fun j k hj => absurd hj (Nat.not_lt_zero j), fun k k1 k2 => absurd k2 (Nat.not_lt_zero k), fun j hj => absurd hj (Nat.not_lt_zero j), fun b hb => absurd hb (Nat.not_lt_zero b)⟩
      omega
    · have nz : 2 ^ m - 1 ≠ 0 := by
        obtain ⟨j, hj⟩ : ∃ j, j < m := ⟨0, by omega⟩
        intro z
        have := ff j hj
        rw [z, Nat.zero_div] at this
        omega
      obtain ⟨⟨v1, v2, a, ⟨p1, p2⟩, p3⟩, v4⟩ := b2.2 nz
      have le1 : C ≤ x / 100 := a6 (x / 100) a (fun _ => 0) ⟨by omega, fun j hj => absurd hj (Nat.not_lt_zero j), fun j k hj => absurd hj (Nat.not_lt_zero j), fun k _ k2 => p1 k k2 (ff k k2), fun j hj => absurd hj (Nat.not_lt_zero j), fun b hb _ => by
        have := p2 b hb
        rw [pq_sl m ff] at this
        omega⟩
      by_cases c8 : C < 8
      · obtain ⟨a', s1, s2, s3⟩ := a5 c8
        have pg : PQg d a' m c (2 ^ m - 1) C := ⟨fun k hk _ => s1 k (Nat.zero_le _) hk, fun b hb => by
          have := s3 b hb
          rw [if_neg (Nat.not_lt_zero b), Nat.zero_add] at this
          rw [pq_sl m ff]
          have z : pq_s d a' b 0 = 0 := rfl
          omega⟩
        have u := v4 C a' pg
        have C1 : 1 ≤ C := by
          have := s1 0 (Nat.le_refl _) (by omega)
          omega
        have l := pg.2 (C - 1) (by omega)
        omega
      · omega
  refine ⟨C, h', g', ?_, by rw [← key]; exact b1⟩
  unfold mK_fewestPans
  rw [nI_0] at a1
  rw [a1, bd2_e]
/-- the first pan that fits: both -/
theorem pq_ffi {d c u : Nat} {L : Nat → Nat} (hu : u ≤ 8) (hc : c ≤ 60) (hd : d ≤ c) {h g : PH} (p i : Int32) {iN : Nat} (hiN : iN < 8) (eL : ∀ j, j < u → h 99 j = nI (L j) ∧ g 131 j = nI (c - L j) ∧ L j ≤ c) (e129 : g 129 iN = nI d) : ∀ (n v : Nat), u < n + v → v ≤ u → ∃ w, w ≤ u ∧ (w < u → L w + d ≤ c) ∧ (∀ k0, mK_firstFitPans_L26 20 (nI c) (nI u) i (nI d) h k0 n (nI v) = k0 (nI w)) ∧ ∀ k0, mm_firstPans_L15 p (nI u) (nI iN) g k0 n (nI v) = k0 (nI w) := by
  intro n
  induction n with
  | zero => intro v h1 h2; omega
  | succ n ih =>
    intro v h1 h2
    by_cases z : v = u
    · exact ⟨v, by omega, fun y => by omega, fun k0 => by rw [mK_firstFitPans_L26, if_pos (by rw [z]; exact nI_le (Nat.le_refl _) (by omega))], fun k0 => by rw [mm_firstPans_L15, if_pos (by rw [z]; exact nI_le (Nat.le_refl _) (by omega))]⟩
    · have hv : v < u := by omega
      obtain ⟨l1, l2, l3⟩ := eL v hv
      by_cases f : L v + d ≤ c
      · refine ⟨v, by omega, fun _ => f, fun k0 => ?_, fun k0 => ?_⟩
        · rw [mK_firstFitPans_L26, if_neg (nI_ge hv (by omega)), ck_nI (show v < 8 by omega) (by decide), show ix (nI v) = v from nI_clamp (by omega), l1, nI_add, if_pos (nI_le f (by omega))]
        · rw [mm_firstPans_L15, if_neg (nI_ge hv (by omega)), ck_nI (show v < 8 by omega) (by decide), ck_nI hiN (by decide), show ix (nI v) = v from nI_clamp (by omega), show ix (nI iN) = iN from nI_clamp (by omega), l2, e129, if_pos (nI_le (by omega) (by omega))]
      · obtain ⟨w, w1, w2, w3, w4⟩ := ih (v + 1) (by omega) (by omega)
        refine ⟨w, w1, w2, fun k0 => ?_, fun k0 => ?_⟩
        · rw [mK_firstFitPans_L26, if_neg (nI_ge hv (by omega)), ck_nI (show v < 8 by omega) (by decide), show ix (nI v) = v from nI_clamp (by omega), l1, nI_add, if_neg (nI_ge (by omega) (by omega)), nI_1]
          exact w3 k0
        · rw [mm_firstPans_L15, if_neg (nI_ge hv (by omega)), ck_nI (show v < 8 by omega) (by decide), ck_nI hiN (by decide), show ix (nI v) = v from nI_clamp (by omega), show ix (nI iN) = iN from nI_clamp (by omega), l2, e129, if_neg (nI_ge (by omega) (by omega)), lt_e, nI_1]
          exact w4 k0
theorem pq_ffg {d : Nat → Nat} {m c : Nat} (hm : m ≤ 8) (hc : c ≤ 60) (hd : ∀ k, k < m → 1 ≤ d k ∧ d k ≤ c) {h0 g0 : PH} (iv : Inv h0) (e20 : h0 20 3 = nI m) (e21 : ∀ k, k < m → h0 21 k = nI (d k)) (e45 : g0 104 45 = nI m) (e129 : ∀ k, k < m → g0 129 k = nI (d k)) : ∀ (n i u : Nat) (L : Nat → Nat) (h g : PH), m < n + i → i ≤ m → u ≤ i → (∀ x, x ≠ 99 → h x = h0 x) → (∀ x, x ≠ 131 → g x = g0 x) → (∀ j, j < u → h 99 j = nI (L j) ∧ g 131 j = nI (c - L j) ∧ L j ≤ c) → ∃ r h' g', mK_firstFitPans_L5 20 (nI c) n (nI u) (nI i) h = some (r, h') ∧ mm_firstPans_L4 (nI c) n (nI u) (nI i) g = some (r, g') := by
  intro n
  induction n with
  | zero => intro i u L h g h1 h2; omega
  | succ n ih =>
    intro i u L h g h1 h2 h3 fx fy eL
    have q20 : h 20 3 = nI m := by rw [fx 20 (by decide)]; exact e20
    have q45 : g 104 45 = nI m := by rw [fy 104 (by decide)]; exact e45
    by_cases z : i = m
    · refine ⟨nI u, h, g, ?_, ?_⟩
      · rw [mK_firstFitPans_L5, q20, if_pos (by rw [z]; exact nI_le (Nat.le_refl _) (by omega))]
      · rw [mm_firstPans_L4, q45, if_pos (by rw [z]; exact nI_le (Nat.le_refl _) (by omega))]
    · have hi : i < m := by omega
      have di := hd i hi
      have q129 : g 129 i = nI (d i) := by rw [fy 129 (by decide)]; exact e129 i hi
      obtain ⟨w, w1, w2, w3, w4⟩ := pq_ffi (d := d i) (c := c) (u := u) (L := L) (by omega) hc di.2 (nI c) (nI i) (iN := i) (by omega) eL q129 FU 0 (by unfold FU; omega) (Nat.zero_le _)
      rw [nI_0] at w3 w4
      rw [mK_firstFitPans_L5, q20, if_neg (nI_ge hi (by omega)), pq_at20 iv hm e20 hi fx, bd_e, e21 i hi, w3, mm_firstPans_L4, q45, if_neg (nI_ge hi (by omega)), w4]
      try dsimp only
      rw [if_neg (show ¬ (8 : Int32) ≤ nI w from nI_ge (b := 8) (by omega) (by decide)), jn1_e, jn2_e]
      have c8 : ∀ (q : Option (Int32 × PH)), ck (nI w) 8 q = q := fun q => ck_nI (by omega) (by decide)
      have ci : ∀ (q : Option (Int32 × PH)), ck (nI i) 8 q = q := fun q => ck_nI (by omega) (by decide)
      have xw : ix (nI w) = w := nI_clamp (by omega)
      have xi : ix (nI i) = i := nI_clamp (by omega)
      by_cases y : w = u
      · subst y
        obtain ⟨r, h', g', a1, a2⟩ := ih (i + 1) (w + 1) (pqL L w (d i)) (up h 99 w (nI (d i))) (up (up g 131 w (nI c)) 131 w (nI (c - d i))) (by omega) (by omega) (by omega) (fun x hx => by rw [up_cell hx]; exact fx x hx) (fun x hx => by rw [up_cell hx, up_cell hx]; exact fy x hx) (fun j hj => by
          unfold pqL
          by_cases q : j = w
          · rw [q, up_same, up_same, if_pos rfl]
            exact ⟨rfl, rfl, di.2⟩
          · rw [up_oj q, up_oj q, up_oj q, if_neg q]
            exact eL j (by omega))
        refine ⟨r, h', g', ?_, ?_⟩
        · rw [if_pos (nI_le (Nat.le_refl _) (by omega))]
          try dsimp only
          rw [c8, lt_e, lt_e, nI_1, nI_1, pn_mx (by omega) (by omega), Nat.max_eq_right (by omega), xw]
          exact a1
        · rw [if_pos rfl, c8, lt_e, lt_e]
          try dsimp only
          rw [c8, ci, c8, lt_e, xw, up_same, xi, up_oc (by decide), q129, nI_sub di.2, nI_1, nI_1]
          exact a2
      · have hw : w < u := by omega
        obtain ⟨l1, l2, l3⟩ := eL w hw
        have fw := w2 hw
        obtain ⟨r, h', g', a1, a2⟩ := ih (i + 1) u (pqL L w (L w + d i)) (up h 99 w (nI (L w + d i))) (up g 131 w (nI (c - (L w + d i)))) (by omega) (by omega) (by omega) (fun x hx => by rw [up_cell hx]; exact fx x hx) (fun x hx => by rw [up_cell hx]; exact fy x hx) (fun j hj => by
          unfold pqL
          by_cases q : j = w
          · rw [q, up_same, up_same, if_pos rfl]
            exact ⟨rfl, rfl, fw⟩
          · rw [up_oj q, up_oj q, if_neg q]
            exact eL j hj)
        refine ⟨r, h', g', ?_, ?_⟩
        · rw [if_neg (nI_ge hw (by omega)), c8]
          try dsimp only
          rw [c8, lt_e, lt_e, xw, l1, nI_add, nI_1, nI_1, pn_mx (by omega) (by omega), Nat.max_eq_left (by omega)]
          exact a1
        · rw [if_neg (show ¬ nI w = nI u from fun q => y ((nI_eq (by omega) (by omega)).mp q))]
          try dsimp only
          rw [c8, ci, c8, lt_e, xw, xi, l2, q129, nI_sub (by omega), show c - L w - d i = c - (L w + d i) by omega, nI_1]
          exact a2
/-- the greatest dough -/
theorem pq_gt4 {d : Nat → Nat} {m : Nat} (hm : m ≤ 8) (hd : ∀ k, k < m → d k ≤ 30) {h : PH} (iv : Inv h) (e20 : h 20 3 = nI m) (e21 : ∀ k, k < m → h 21 k = nI (d k)) : ∀ (n k v : Nat), m < n + k → k ≤ m → v ≤ 30 → ∃ w, w ≤ 30 ∧ mK_greatest_L4 20 h n (nI v) (nI k) = some (nI w) ∧ ∀ c, w ≤ c ↔ (v ≤ c ∧ ∀ j, k ≤ j → j < m → d j ≤ c) := by
  intro n
  induction n with
  | zero => intro k v h1 h2; omega
  | succ n ih =>
    intro k v h1 h2 h3
    by_cases z : k = m
    · exact ⟨v, h3, by rw [mK_greatest_L4, e20, if_pos (by rw [z]; exact nI_le (Nat.le_refl _) (by omega))], fun c => ⟨fun q => ⟨q, fun j j1 j2 => by omega⟩, fun q => q.1⟩⟩
    · have hk : k < m := by omega
      have dk := hd k hk
      obtain ⟨w, w0, w1, w2⟩ := ih (k + 1) (max v (d k)) (by omega) (by omega) (by omega)
      refine ⟨w, w0, ?_, fun c => ?_⟩
      · rw [mK_greatest_L4, e20, if_neg (nI_ge hk (by omega)), pq_at20 iv hm e20 hk (hv := h) (fun _ _ => rfl), bd_e, e21 k hk, lt_e, pn_mx (by omega) (by omega), nI_1]
        exact w1
      · rw [w2 c]
        constructor
        · rintro ⟨q1, q2⟩
          refine ⟨by omega, fun j j1 j2 => ?_⟩
          by_cases y : j = k
          · rw [y]; omega
          · exact q2 j (by omega) j2
        · rintro ⟨q1, q2⟩
          have := q2 k (Nat.le_refl _) hk
          exact ⟨by omega, fun j j1 j2 => q2 j (by omega) j2⟩
theorem pq_p30 {d : Nat → Nat} {m c : Nat} (hm : m ≤ 8) (hc : c ≤ 60) (hd : ∀ k, k < m → d k ≤ 30) (p2 : Int32) {g : PH} (e45 : g 104 45 = nI m) (e129 : ∀ k, k < m → g 129 k = nI (d k)) (k0 : Option (Int32 × PH)) : ∀ (n k : Nat), m < n + k → k ≤ m → ((∀ j, k ≤ j → j < m → d j ≤ c) → mm_pans_L30 (nI c) p2 g k0 n (nI k) = k0) ∧ (¬ (∀ j, k ≤ j → j < m → d j ≤ c) → mm_pans_L30 (nI c) p2 g k0 n (nI k) = some (-1, g)) := by
  intro n
  induction n with
  | zero => intro k h1 h2; omega
  | succ n ih =>
    intro k h1 h2
    by_cases z : k = m
    · refine ⟨fun _ => by rw [mm_pans_L30, e45, if_pos (by rw [z]; exact nI_le (Nat.le_refl _) (by omega))], fun q => absurd (fun j j1 j2 => by omega) q⟩
    · have hk : k < m := by omega
      have dk := hd k hk
      obtain ⟨i1, i2⟩ := ih (k + 1) (by omega) (by omega)
      have st : mm_pans_L30 (nI c) p2 g k0 (n + 1) (nI k) = if nI (d k) ≤ nI c then mm_pans_L30 (nI c) p2 g k0 n (nI (k + 1)) else some (-1, g) := by
        rw [mm_pans_L30, e45, if_neg (nI_ge hk (by omega)), ck_nI (show k < 8 by omega) (by decide), show ix (nI k) = k from nI_clamp (by omega), e129 k hk, nI_1]
      rw [st]
      by_cases f : d k ≤ c
      · rw [if_pos (nI_le f (by omega))]
        refine ⟨fun q => i1 (fun j j1 j2 => q j (by omega) j2), fun q => i2 (fun q' => q (fun j j1 j2 => ?_))⟩
        by_cases y : j = k
        · rw [y]; exact f
        · exact q' j (by omega) j2
      · rw [if_neg (nI_ge (by omega) (by omega))]
        exact ⟨fun q => absurd (q k (Nat.le_refl _) hk) f, fun _ => rfl⟩
theorem ag_pans (a1 a2 : Int32) (h : PH) (i : IM h) (rl : RLA h) {rX rm : Int32} {h1 h2 : PH} (e1 : mX_pans a1 a2 h = some (rX, h1)) (e2 : mm_pans a1 a2 h1 = some (rm, h2)) (cs : CS h h1 h2) : rX = rm := by
  have xx := cs.2.2.2.1
  obtain ⟨ld1, ld2⟩ := (show LS_dough h from rl.1.2.1)
  obtain ⟨m, m1, m2, em⟩ := nat_of (show R 0 8 (h 20 3) from inv_rng i.1 rfl) (by decide)
  have hm : m ≤ 8 := by omega
  have dr : ∀ k, k < m → ∃ x : Nat, h 21 k = nI x ∧ 1 ≤ x ∧ x ≤ 30 := fun k hk => by
    obtain ⟨q1, q2⟩ := ld2 k (by rw [em, nI_toInt m2]; omega)
    obtain ⟨x, x1, x2, ex⟩ := nat_of (a := 1) (b := 30) q2 (by decide)
    have := q2.1
    rw [ex, nI_toInt x2] at this
    exact ⟨x, ex, by omega, by omega⟩
  have e21 : ∀ k, k < m → h 21 k = nI ((h 21 k).toInt.toNat) ∧ 1 ≤ (h 21 k).toInt.toNat ∧ (h 21 k).toInt.toNat ≤ 30 := fun k hk => by
    obtain ⟨x, ex, x1, x2⟩ := dr k hk
    rw [ex, nI_toInt (by omega), Int.toNat_natCast]
    exact ⟨rfl, x1, x2⟩
  have e45 : up h1 104 0 0 104 45 = nI m := by rw [up_oj (by decide), xx 104 (by decide), ← ld1]; exact em
  have e129 : ∀ k, k < m → up h1 104 0 0 129 k = nI ((h 21 k).toInt.toNat) := fun k hk => by
    rw [up_oc (by decide), xx 129 (by decide), ← (ld2 k (by rw [em, nI_toInt m2]; omega)).1]
    exact (e21 k hk).1
  unfold mX_pans at e1
  unfold mm_pans at e2
  rw [lt_e] at e2
  by_cases f1 : 1 ≤ a1 ∧ a1 ≤ 60
  · obtain ⟨c, c1, c2, ec⟩ := nat_of (rng_of (x := 1) (y := 60) rfl rfl f1) (by decide)
    subst ec
    by_cases f2 : 0 ≤ a2 ∧ a2 ≤ 1
    · rw [within_y f1, bd_e, if_neg pq_no10, within_y f2, bd_e, if_neg pq_no10] at e1
      rw [isIn_y f1, bd_e, if_neg pq_no10, isIn_y f2, bd_e, if_neg pq_no10] at e2
      obtain ⟨w, w0, w1, w2⟩ := pq_gt4 (d := fun k => (h 21 k).toInt.toNat) hm (fun k hk => (e21 k hk).2.2) i.1 em (fun k hk => (e21 k hk).1) FU 0 0 (by unfold FU; omega) (Nat.zero_le _) (by decide)
      rw [nI_0] at w1
      rw [show mK_greatest 20 h = some (nI w) from w1, bd_e] at e1
      obtain ⟨p1, p2⟩ := pq_p30 (d := fun k => (h 21 k).toInt.toNat) (c := c) hm (by omega) (fun k hk => (e21 k hk).2.2) a2 e45 e129 (if a2 = 0 then bd2 (mm_fewestPans (nI c) (up h1 104 0 0)) fun r4 h5 => some (r4, h5) else bd2 (mm_firstPans (nI c) (up h1 104 0 0)) fun r6 h7 => some (r6, h7)) FU 0 (by unfold FU; omega) (Nat.zero_le _)
      rw [nI_0] at p1 p2
      by_cases g : w ≤ c
      · have all := ((w2 c).mp g).2
        rw [if_pos (nI_le g (by omega))] at e1
        rw [p1 all] at e2
        have hd : ∀ k, k < m → 1 ≤ (h 21 k).toInt.toNat ∧ (h 21 k).toInt.toNat ≤ c := fun k hk => ⟨(e21 k hk).2.1, all k (Nat.zero_le _) hk⟩
        by_cases z : a2 = 0
        · rw [if_pos z] at e1 e2
          obtain ⟨r, h', g', q1, q2⟩ := pq_few (d := fun k => (h 21 k).toInt.toNat) hm (by omega) hd i.1 em (fun k hk => (e21 k hk).1) e45 e129
          rw [q1, bd2_e] at e1
          rw [q2, bd2_e] at e2
          cases e1
          cases e2
          rfl
        · rw [if_neg z] at e1 e2
          obtain ⟨r, h', g', q1, q2⟩ := pq_ffg (d := fun k => (h 21 k).toInt.toNat) hm (by omega) hd i.1 em (fun k hk => (e21 k hk).1) e45 e129 FU 0 0 (fun _ => 0) h (up h1 104 0 0) (by unfold FU; omega) (Nat.zero_le _) (Nat.le_refl _) (fun _ _ => rfl) (fun _ _ => rfl) (fun j hj => absurd hj (Nat.not_lt_zero j))
          rw [nI_0] at q1 q2
          rw [show mK_firstFitPans 20 (nI c) h = some (r, h') from q1, bd2_e] at e1
          rw [show mm_firstPans (nI c) (up h1 104 0 0) = some (r, g') from q2, bd2_e] at e2
          cases e1
          cases e2
          rfl
      · have nall : ¬ ∀ j, 0 ≤ j → j < m → (h 21 j).toInt.toNat ≤ c := fun q => g ((w2 c).mpr ⟨Nat.zero_le _, q⟩)
        rw [if_neg (nI_ge (by omega) (by omega))] at e1
        rw [p2 nall] at e2
        cases e1
        cases e2
        rfl
    · rw [within_y f1, bd_e, if_neg pq_no10, within_n f2, bd_e, if_pos rfl] at e1
      rw [isIn_y f1, bd_e, if_neg pq_no10, isIn_n f2, bd_e, if_pos rfl] at e2
      cases e1
      cases e2
      rfl
  · rw [within_n f1, bd_e, if_pos rfl] at e1
    rw [isIn_n f1, bd_e, if_pos rfl] at e2
    cases e1
    cases e2
    rfl
