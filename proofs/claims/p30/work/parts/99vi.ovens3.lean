section
/-! OVENS: orders as lists; the least by a fold -/
def evO (X Y : Nat → Int32) : Int32 → Int32 → List Nat → Int32
  | _, c, [] => c
  | b, c, i :: l => evO X Y (b + X i) (imax c (b + X i) + Y i) l
def plO (m : Nat) : Nat → Nat → List (List Nat)
  | 0, _ => [[]]
  | r + 1, u => (List.range' 0 m).flatMap (fun i => if u / 2 ^ i % 2 = 0 then (plO m r (u + 2 ^ i)).map (List.cons i) else [])
def mnF (v : Int32) (l : List Int32) : Int32 := l.foldl imin v
theorem imin_i (x y : Int32) : (imin x y).toInt ≤ x.toInt ∧ (imin x y).toInt ≤ y.toInt ∧ (imin x y = x ∨ imin x y = y) := by
  unfold imin
  by_cases c : y < x
  · rw [if_pos c]
    rw [Int32.lt_iff_toInt_lt] at c
    exact ⟨by omega, by omega, Or.inr rfl⟩
  · rw [if_neg c]
    rw [Int32.lt_iff_toInt_lt] at c
    exact ⟨by omega, by omega, Or.inl rfl⟩
theorem mnF_le : ∀ (l : List Int32) (v : Int32), (mnF v l).toInt ≤ v.toInt := by
  intro l
  induction l with
  | nil => intro v; exact Int.le_refl _
  | cons x l ih =>
    intro v
    have h1 := ih (imin v x)
    have h2 := (imin_i v x).1
    show (mnF (imin v x) l).toInt ≤ _
    omega
theorem mnF_in : ∀ (l : List Int32) (v : Int32), mnF v l = v ∨ mnF v l ∈ l := by
  intro l
  induction l with
  | nil => intro v; exact Or.inl rfl
  | cons x l ih =>
    intro v
    show mnF (imin v x) l = v ∨ mnF (imin v x) l ∈ x :: l
    rcases ih (imin v x) with h | h
    · rw [h]
      rcases (imin_i v x).2.2 with q | q
      · exact Or.inl q
      · rw [q]; exact Or.inr List.mem_cons_self
    · exact Or.inr (List.mem_cons_of_mem _ h)
theorem mnF_all : ∀ (l : List Int32) (v x : Int32), x ∈ l → (mnF v l).toInt ≤ x.toInt := by
  intro l
  induction l with
  | nil => intro v x h; exact absurd h List.not_mem_nil
  | cons y l ih =>
    intro v x h
    show (mnF (imin v y) l).toInt ≤ _
    rcases List.mem_cons.mp h with rfl | h
    · have h1 := mnF_le l (imin v x)
      have h2 := (imin_i v x).2.1
      omega
    · exact ih _ x h
/-- two numbers that are least of the same -/
theorem mnF_pull (l : List Int32) (v w : Int32) (h : v.toInt ≤ w.toInt) : mnF v l = imin v (mnF w l) := by
  apply Int32.toInt_inj.mp
  have a1 := mnF_le l v
  have a2 := mnF_le l w
  have a3 := imin_i v (mnF w l)
  have k1 : (mnF v l).toInt ≤ (mnF w l).toInt := by
    rcases mnF_in l w with q | q
    · rw [q]; omega
    · exact mnF_all l v _ q
  have k2 : (mnF v l).toInt = v.toInt ∨ (mnF w l).toInt ≤ (mnF v l).toInt := by
    rcases mnF_in l v with q | q
    · exact Or.inl (by rw [q])
    · exact Or.inr (mnF_all l w _ q)
  rcases a3 with ⟨b1, b2, b3 | b3⟩
  · rw [b3] at b2 ⊢
    omega
  · rw [b3] at b1 ⊢
    omega
theorem mnF_app (v : Int32) (l l' : List Int32) : mnF v (l ++ l') = mnF (mnF v l) l' := List.foldl_append
theorem bitT : ∀ u, u < 64 → ∀ k, k < 6 → (((nI u >>> (nI k &&& 31)) &&& 1) = 0 ↔ u / 2 ^ k % 2 = 0) := by decide +kernel
theorem bitS : ∀ u, u < 64 → ∀ k, k < 6 → u / 2 ^ k % 2 = 0 → (nI u ||| (1 <<< (nI k &&& 31))) = nI (u + 2 ^ k) ∧ u + 2 ^ k < 64 := by decide +kernel
def rmO (m u : Nat) : Nat := ((List.range m).filter (fun i => decide (u / 2 ^ i % 2 = 0))).length
theorem rmO_d : ∀ m, m < 7 → ∀ u, u < 64 → ∀ k, k < 6 → k < m → u / 2 ^ k % 2 = 0 → rmO m (u + 2 ^ k) + 1 = rmO m u := by decide +kernel
theorem rmO_0' : ∀ m, m < 7 → ∀ u, u < 64 → ∀ k, k < 6 → k < m → rmO m u = 0 → u / 2 ^ k % 2 = 1 := by decide +kernel
theorem rmO_0 (m : Nat) (hm : m < 7) (u : Nat) (hu : u < 64) (h : rmO m u = 0) (k : Nat) (h6 : k < 6) (hk : k < m) : ¬ u / 2 ^ k % 2 = 0 := by
  rw [rmO_0' m hm u hu k h6 hk h]
  decide
theorem rmO_m : ∀ m, m < 7 → rmO m 0 = m := by decide +kernel
theorem evO_r {X Y : Nat → Int32} {m : Nat} (hX : ∀ k, k < m → R 1 30 (X k)) (hY : ∀ k, k < m → R 1 30 (Y k)) : ∀ (l : List Nat) (t : Nat) (b c : Int32), (∀ i, i ∈ l → i < m) → t + l.length ≤ 12 → R 0 (30 * (t : Int)) b → R 0 (60 * (t : Int)) c → R 0 1000 (evO X Y b c l) := by
  intro l
  induction l with
  | nil => intro t b c _ ht hb hc; exact r_w hc (by have : ([] : List Nat).length = 0 := rfl; omega)
  | cons i l ih =>
    intro t b c hm ht hb hc
    rw [List.length_cons] at ht
    have x1 := hX i (hm i List.mem_cons_self)
    have y1 := hY i (hm i List.mem_cons_self)
    have e1 := i_add hb x1 (by omega)
    have rb : R 0 (30 * ((t + 1 : Nat) : Int)) (b + X i) := by
      obtain ⟨p1, p2⟩ := hb
      obtain ⟨p3, p4⟩ := x1
      exact ⟨by omega, by omega⟩
    have rx : R 0 (60 * (t : Int) + 30) (imax c (b + X i)) := r_max hc rb (by omega)
    have e2 := i_add rx y1 (by omega)
    rw [evO]
    refine ih (t + 1) _ _ (fun j hj => hm j (List.mem_cons_of_mem _ hj)) (by omega) rb ?_
    obtain ⟨p1, p2⟩ := rx
    obtain ⟨p3, p4⟩ := y1
    exact ⟨by omega, by omega⟩
theorem plO_mem (m : Nat) : ∀ (r u : Nat) (l : List Nat), l ∈ plO m r u → (∀ i, i ∈ l → i < m) ∧ l.length = r := by
  intro r
  induction r with
  | zero =>
    intro u l h
    rw [plO] at h
    have : l = [] := List.mem_singleton.mp h
    subst this
    exact ⟨fun i hi => absurd hi List.not_mem_nil, rfl⟩
  | succ r ih =>
    intro u l h
    rw [plO] at h
    obtain ⟨i, hi, h2⟩ := List.mem_flatMap.mp h
    have him : i < m := by
      have := List.mem_range'_1.mp hi
      omega
    by_cases c : u / 2 ^ i % 2 = 0
    · rw [if_pos c] at h2
      obtain ⟨l', h3, h4⟩ := List.mem_map.mp h2
      obtain ⟨q1, q2⟩ := ih _ l' h3
      subst h4
      refine ⟨fun j hj => ?_, by rw [List.length_cons, q2]⟩
      rcases List.mem_cons.mp hj with rfl | hj
      · exact him
      · exact q1 j hj
    · rw [if_neg c] at h2
      exact absurd h2 List.not_mem_nil
/-! the class's recursion is the fold -/
theorem at28 {h : PH} (i : Inv h) {n k : Nat} (hn : n ≤ 6) (en : h 28 3 = nI n) (hk : k < n) : mR_at 28 (nI k) 0 h = some (h 29 (2 * k)) ∧ mR_at 28 (nI k) 1 h = some (h 29 (2 * k + 1)) := by
  have t0 := at_row (a := 28) (m := 6) (w := 2) rfl rfl (by decide) (by decide) i (c := 0) en hn hk (by decide)
  have t1 := at_row (a := 28) (m := 6) (w := 2) rfl rfl (by decide) (by decide) i (c := 1) en hn hk (by decide)
  rw [nI_0, show k * 2 + 0 = 2 * k by omega] at t0
  rw [show nI 1 = (1 : Int32) from rfl, show k * 2 + 1 = 2 * k + 1 by omega] at t1
  exact ⟨t0, t1⟩
def bkO (m u k : Nat) (G : Nat → List (List Nat)) : List (List Nat) := (List.range' k (m - k)).flatMap (fun i => if u / 2 ^ i % 2 = 0 then (G i).map (List.cons i) else [])
theorem bkO_s (m u k : Nat) (G : Nat → List (List Nat)) (hk : k < m) : bkO m u k G = (if u / 2 ^ k % 2 = 0 then (G k).map (List.cons k) else []) ++ bkO m u (k + 1) G := by
  unfold bkO
  rw [show m - k = (m - (k + 1)) + 1 by omega, List.range'_succ, List.flatMap_cons]
theorem bkO_e (m u : Nat) (G : Nat → List (List Nat)) : bkO m u m G = [] := by
  unfold bkO
  rw [Nat.sub_self]
  rfl
theorem ev_cons (X Y : Nat → Int32) (b c : Int32) (k : Nat) (L : List (List Nat)) : (L.map (List.cons k)).map (evO X Y b c) = L.map (evO X Y (b + X k) (imax c (b + X k) + Y k)) := by
  rw [List.map_map]
  rfl
theorem db7 (h : PH) (i : Inv h) (m : Nat) (hm : m ≤ 6) (en : h 28 3 = nI m) (u : Nat) (hu : u < 64) (b c : Int32) (f0 : Nat → Int32 → Int32 → Int32 → PH → Option Int32) (K : Int32 → Option Int32) (G : Nat → List (List Nat)) (hG : ∀ j, j < m → u / 2 ^ j % 2 = 0 → f0 28 (nI (u + 2 ^ j)) (b + h 29 (2 * j)) (imax c (b + h 29 (2 * j)) + h 29 (2 * j + 1)) h = some (mnF 1000000 ((G j).map (evO (fun k => h 29 (2 * k)) (fun k => h 29 (2 * k + 1)) (b + h 29 (2 * j)) (imax c (b + h 29 (2 * j)) + h 29 (2 * j + 1)))))) : ∀ (f k : Nat) (v : Int32), m < f + k → k ≤ m → v.toInt ≤ 1000000 → mK_doneBy_L7 28 (nI u) b c f0 h K f v (nI k) = K (mnF v ((bkO m u k G).map (evO (fun k => h 29 (2 * k)) (fun k => h 29 (2 * k + 1)) b c))) := by
  intro f
  induction f with
  | zero => intro k v h1 h2; omega
  | succ f ih =>
    intro k v h1 h2 hv
    rw [mK_doneBy_L7, en]
    by_cases e : k = m
    · subst e
      rw [if_pos (nI_le (Nat.le_refl _) (by omega)), bkO_e]
      rfl
    · have hk : k < m := by omega
      obtain ⟨a0, a1⟩ := at28 i hm en hk
      rw [if_neg (nI_ge hk (by omega)), bkO_s m u k G hk, nI_1]
      by_cases cb : u / 2 ^ k % 2 = 0
      · rw [if_pos ((bitT u hu k (by omega)).mpr cb), if_pos cb, a0, bd_e, lt_e, a1, bd_e, lt_e, (bitS u hu k (by omega) cb).1, hG k hk cb, bd_e, lt_e, List.map_append, mnF_app, ev_cons, ← mnF_pull _ v 1000000 hv]
        exact ih (k + 1) _ (by omega) (by omega) (by
          have := mnF_le ((G k).map (evO (fun k => h 29 (2 * k)) (fun k => h 29 (2 * k + 1)) (b + h 29 (2 * k)) (imax c (b + h 29 (2 * k)) + h 29 (2 * k + 1)))) v
          omega)
      · rw [if_neg (fun q => cb ((bitT u hu k (by omega)).mp q)), if_neg cb, List.nil_append]
        exact ih (k + 1) v (by omega) (by omega) hv
theorem plO_ne (m : Nat) (hm : m ≤ 6) : ∀ (r u : Nat), u < 64 → rmO m u = r → plO m r u ≠ [] := by
  intro r
  induction r with
  | zero => intro u _ _ q; rw [plO] at q; cases q
  | succ r ih =>
    intro u hu hr q
    have ex : ∃ k, k < m ∧ u / 2 ^ k % 2 = 0 := by
      refine Classical.byContradiction (fun no => ?_)
      have z : ∀ i, i ∈ List.range m → ¬ (decide (u / 2 ^ i % 2 = 0)) = true := fun i hi => by
        have := List.mem_range.mp hi
        intro w
        exact no ⟨i, this, of_decide_eq_true w⟩
      have : (List.range m).filter (fun i => decide (u / 2 ^ i % 2 = 0)) = [] := List.filter_eq_nil_iff.mpr z
      unfold rmO at hr
      rw [this] at hr
      cases hr
    obtain ⟨k, k1, k2⟩ := ex
    have d := rmO_d m (by omega) u hu k (by omega) k1 k2
    have ne := ih (u + 2 ^ k) (bitS u hu k (by omega) k2).2 (by omega)
    obtain ⟨l, hl⟩ := List.exists_mem_of_ne_nil _ ne
    have : k :: l ∈ plO m (r + 1) u := by
      rw [plO]
      refine List.mem_flatMap.mpr ⟨k, List.mem_range'_1.mpr (by omega), ?_⟩
      rw [if_pos k2]
      exact List.mem_map.mpr ⟨l, hl, rfl⟩
    rw [q] at this
    exact absurd this List.not_mem_nil
theorem plO_bk (m r u : Nat) : plO m (r + 1) u = bkO m u 0 (fun j => plO m r (u + 2 ^ j)) := rfl
theorem dbk (h : PH) (i : Inv h) (m : Nat) (hm : m ≤ 6) (en : h 28 3 = nI m) (hX : ∀ k, k < m → R 1 30 (h 29 (2 * k))) (hY : ∀ k, k < m → R 1 30 (h 29 (2 * k + 1))) : ∀ (r u t e : Nat) (b c : Int32), u < 64 → rmO m u = r → t + r ≤ 6 → R 0 (30 * (t : Int)) b → R 0 (60 * (t : Int)) c → mK_doneBy (r + 1 + e) 28 (nI u) b c h = some (mnF 1000000 ((plO m r u).map (evO (fun k => h 29 (2 * k)) (fun k => h 29 (2 * k + 1)) b c))) := by
  intro r
  induction r with
  | zero =>
    intro u t e b c hu hr ht hb hc
    rw [show 0 + 1 + e = e + 1 by omega]
    show mK_doneBy_F (mK_doneBy e) 28 (nI u) b c h = _
    unfold mK_doneBy_F
    have no := rmO_0 m (by omega) u hu hr
    have := db7 h i m hm en u hu b c (mK_doneBy e) (fun (x7 : Int32) => if x7 = 1000000 then some c else some x7) (fun _ => []) (fun j hj cj => absurd cj (no j (by omega) hj)) FU 0 1000000 (by unfold FU; omega) (by omega) (by decide)
    rw [nI_0] at this
    refine Eq.trans this ?_
    have z : bkO m u 0 (fun _ => []) = [] := by
      unfold bkO
      refine List.flatMap_eq_nil_iff.mpr (fun j _ => ?_)
      split
      · rfl
      · rfl
    rw [z]
    show (if (1000000 : Int32) = 1000000 then some c else some 1000000) = some (imin 1000000 c)
    rw [if_pos rfl]
    unfold imin
    rw [if_pos (by rw [Int32.lt_iff_toInt_lt]; have := hc.2; simp only [show (1000000 : Int32).toInt = 1000000 from rfl]; omega)]
  | succ r ih =>
    intro u t e b c hu hr ht hb hc
    rw [show r + 1 + 1 + e = (r + 1 + e) + 1 by omega]
    show mK_doneBy_F (mK_doneBy (r + 1 + e)) 28 (nI u) b c h = _
    unfold mK_doneBy_F
    have this := db7 h i m hm en u hu b c (mK_doneBy (r + 1 + e)) (fun (x7 : Int32) => if x7 = 1000000 then some c else some x7) (fun j => plO m r (u + 2 ^ j)) (fun j hj cj => by
      have x1 := hX j hj
      have y1 := hY j hj
      have e1 := i_add hb x1 (by omega)
      have rb : R 0 (30 * ((t + 1 : Nat) : Int)) (b + h 29 (2 * j)) := by
        obtain ⟨p1, p2⟩ := hb
        obtain ⟨p3, p4⟩ := x1
        exact ⟨by omega, by omega⟩
      have rx : R 0 (60 * (t : Int) + 30) (imax c (b + h 29 (2 * j))) := r_max hc rb (by omega)
      have e2 := i_add rx y1 (by omega)
      have d := rmO_d m (by omega) u hu j (by omega) hj cj
      refine ih (u + 2 ^ j) (t + 1) e _ _ (bitS u hu j (by omega) cj).2 (by omega) (by omega) rb ?_
      obtain ⟨p1, p2⟩ := rx
      obtain ⟨p3, p4⟩ := y1
      exact ⟨by omega, by omega⟩) FU 0 1000000 (by unfold FU; omega) (by omega) (by decide)
    rw [nI_0, ← plO_bk] at this
    refine Eq.trans this ?_
    have ne := plO_ne m hm (r + 1) u hu hr
    obtain ⟨l, hl⟩ := List.exists_mem_of_ne_nil _ ne
    obtain ⟨q1, q2⟩ := plO_mem m (r + 1) u l hl
    have rl := evO_r (X := fun k => h 29 (2 * k)) (Y := fun k => h 29 (2 * k + 1)) hX hY l t b c q1 (by omega) hb hc
    have le := mnF_all ((plO m (r + 1) u).map (evO (fun k => h 29 (2 * k)) (fun k => h 29 (2 * k + 1)) b c)) 1000000 _ (List.mem_map.mpr ⟨l, hl, rfl⟩)
    have n6 : ¬ mnF 1000000 ((plO m (r + 1) u).map (evO (fun k => h 29 (2 * k)) (fun k => h 29 (2 * k + 1)) b c)) = 1000000 := fun q => by
      rw [q] at le
      have := rl.2
      simp only [show (1000000 : Int32).toInt = 1000000 from rfl] at le
      omega
    rw [if_neg n6]
end
section
/-! OVENS: which order, by the class -/
def fndO (X Y : Nat → Int32) (M b c : Int32) (L : List (List Nat)) : Option (List Nat) := L.find? (fun l => decide (evO X Y b c l = M))
theorem fnd_in {X Y : Nat → Int32} {M b c : Int32} {L : List (List Nat)} {s : List Nat} (h : fndO X Y M b c L = some s) : s ∈ L ∧ evO X Y b c s = M := by
  unfold fndO at h
  have q : decide (evO X Y b c s = M) = true := List.find?_some (p := fun l => decide (evO X Y b c l = M)) h
  exact ⟨List.mem_of_find?_eq_some h, of_decide_eq_true q⟩
theorem fnd_no {X Y : Nat → Int32} {M b c : Int32} {L : List (List Nat)} (h : ∀ l, l ∈ L → ¬ evO X Y b c l = M) : fndO X Y M b c L = none := by
  unfold fndO
  exact List.find?_eq_none.mpr (fun l hl q => h l hl (of_decide_eq_true q))
theorem fnd_ex {X Y : Nat → Int32} {M b c : Int32} {L : List (List Nat)} {l : List Nat} (h : l ∈ L) (e : evO X Y b c l = M) : ∃ s, fndO X Y M b c L = some s := by
  cases q : fndO X Y M b c L with
  | some s => exact ⟨s, rfl⟩
  | none =>
    unfold fndO at q
    exact absurd (decide_eq_true e) (List.find?_eq_none.mp q l h)
theorem fnd_app (X Y : Nat → Int32) (M b c : Int32) (L L' : List (List Nat)) : fndO X Y M b c (L ++ L') = (fndO X Y M b c L).or (fndO X Y M b c L') := List.find?_append
theorem fnd_map (X Y : Nat → Int32) (M b c : Int32) (k : Nat) (L : List (List Nat)) : fndO X Y M b c (L.map (List.cons k)) = (fndO X Y M (b + X k) (imax c (b + X k) + Y k) L).map (List.cons k) := by
  unfold fndO
  rw [List.find?_map]
  rfl
theorem ftk (h : PH) (i : Inv h) (m : Nat) (hm : m ≤ 6) (en : h 28 3 = nI m) (hX : ∀ k, k < m → R 1 30 (h 29 (2 * k))) (hY : ∀ k, k < m → R 1 30 (h 29 (2 * k + 1))) (r u t : Nat) (hu : u < 64) (hr : rmO m u = r + 1) (ht : t + (r + 1) ≤ 6) (b c M : Int32) (hb : R 0 (30 * (t : Int)) b) (hc : R 0 (60 * (t : Int)) c) (hM : M.toInt < 1000000) (hall : ∀ l, l ∈ plO m (r + 1) u → M.toInt ≤ (evO (fun k => h 29 (2 * k)) (fun k => h 29 (2 * k + 1)) b c l).toInt) : ∀ (f k : Nat) (s : List Nat), m < f + k → k ≤ m → fndO (fun k => h 29 (2 * k)) (fun k => h 29 (2 * k + 1)) M b c (bkO m u k (fun j => plO m r (u + 2 ^ j))) = some s → ∃ j s', s = j :: s' ∧ mK_firstThatKeeps_L3 28 (nI u) b c M h f (nI k) = some (nI j) ∧ j < m ∧ u / 2 ^ j % 2 = 0 ∧ fndO (fun k => h 29 (2 * k)) (fun k => h 29 (2 * k + 1)) M (b + h 29 (2 * j)) (imax c (b + h 29 (2 * j)) + h 29 (2 * j + 1)) (plO m r (u + 2 ^ j)) = some s' := by
  intro f
  induction f with
  | zero => intro k s h1 h2; omega
  | succ f ih =>
    intro k s h1 h2 hs
    rw [mK_firstThatKeeps_L3, en]
    by_cases e : k = m
    · subst e
      rw [bkO_e] at hs
      cases hs
    · have hk : k < m := by omega
      obtain ⟨a0, a1⟩ := at28 i hm en hk
      rw [bkO_s m u k _ hk, fnd_app] at hs
      rw [if_neg (nI_ge hk (by omega)), nI_1]
      by_cases cb : u / 2 ^ k % 2 = 0
      · rw [if_pos cb, fnd_map] at hs
        have x1 := hX k hk
        have y1 := hY k hk
        have e1 := i_add hb x1 (by omega)
        have rb : R 0 (30 * ((t + 1 : Nat) : Int)) (b + h 29 (2 * k)) := by
          obtain ⟨p1, p2⟩ := hb
          obtain ⟨p3, p4⟩ := x1
          exact ⟨by omega, by omega⟩
        have rx : R 0 (60 * (t : Int) + 30) (imax c (b + h 29 (2 * k))) := r_max hc rb (by omega)
        have e2 := i_add rx y1 (by omega)
        have rc : R 0 (60 * ((t + 1 : Nat) : Int)) (imax c (b + h 29 (2 * k)) + h 29 (2 * k + 1)) := by
          obtain ⟨p1, p2⟩ := rx
          obtain ⟨p3, p4⟩ := y1
          exact ⟨by omega, by omega⟩
        have d := rmO_d m (by omega) u hu k (by omega) hk cb
        have db := dbk h i m hm en hX hY r (u + 2 ^ k) (t + 1) (29 - r) _ _ (bitS u hu k (by omega) cb).2 (by omega) (by omega) rb rc
        rw [show r + 1 + (29 - r) = 30 by omega] at db
        rw [if_pos ((bitT u hu k (by omega)).mpr cb), a0, bd_e, lt_e, a1, bd_e, lt_e, (bitS u hu k (by omega) cb).1, db, bd_e]
        have inn : ∀ l, l ∈ plO m r (u + 2 ^ k) → k :: l ∈ plO m (r + 1) u := fun l hl => by
          rw [plO]
          refine List.mem_flatMap.mpr ⟨k, List.mem_range'_1.mpr (by omega), ?_⟩
          rw [if_pos cb]
          exact List.mem_map.mpr ⟨l, hl, rfl⟩
        by_cases cm : mnF 1000000 ((plO m r (u + 2 ^ k)).map (evO (fun k => h 29 (2 * k)) (fun k => h 29 (2 * k + 1)) (b + h 29 (2 * k)) (imax c (b + h 29 (2 * k)) + h 29 (2 * k + 1)))) = M
        · rw [if_pos cm]
          have ex : ∃ l, l ∈ plO m r (u + 2 ^ k) ∧ evO (fun k => h 29 (2 * k)) (fun k => h 29 (2 * k + 1)) (b + h 29 (2 * k)) (imax c (b + h 29 (2 * k)) + h 29 (2 * k + 1)) l = M := by
            rcases mnF_in ((plO m r (u + 2 ^ k)).map (evO (fun k => h 29 (2 * k)) (fun k => h 29 (2 * k + 1)) (b + h 29 (2 * k)) (imax c (b + h 29 (2 * k)) + h 29 (2 * k + 1)))) 1000000 with q | q
            · rw [cm] at q
              rw [q] at hM
              exact absurd hM (by decide)
            · rw [cm] at q
              obtain ⟨l, l1, l2⟩ := List.mem_map.mp q
              exact ⟨l, l1, l2⟩
          obtain ⟨l, l1, l2⟩ := ex
          obtain ⟨s', hs'⟩ := fnd_ex l1 l2
          rw [hs'] at hs
          cases hs
          exact ⟨k, s', rfl, rfl, hk, cb, hs'⟩
        · rw [if_neg cm]
          have no : fndO (fun k => h 29 (2 * k)) (fun k => h 29 (2 * k + 1)) M (b + h 29 (2 * k)) (imax c (b + h 29 (2 * k)) + h 29 (2 * k + 1)) (plO m r (u + 2 ^ k)) = none := fnd_no (fun l hl q => cm (by
            apply Int32.toInt_inj.mp
            have le := mnF_all ((plO m r (u + 2 ^ k)).map (evO (fun k => h 29 (2 * k)) (fun k => h 29 (2 * k + 1)) (b + h 29 (2 * k)) (imax c (b + h 29 (2 * k)) + h 29 (2 * k + 1)))) 1000000 _ (List.mem_map.mpr ⟨l, hl, rfl⟩)
            rw [q] at le
            rcases mnF_in ((plO m r (u + 2 ^ k)).map (evO (fun k => h 29 (2 * k)) (fun k => h 29 (2 * k + 1)) (b + h 29 (2 * k)) (imax c (b + h 29 (2 * k)) + h 29 (2 * k + 1)))) 1000000 with w | w
            · rw [w] at le
              simp only [show (1000000 : Int32).toInt = 1000000 from rfl] at le
              omega
            · obtain ⟨l2, w1, w2⟩ := List.mem_map.mp w
              have ge := hall (k :: l2) (inn l2 w1)
              have ge : M.toInt ≤ (evO (fun k => h 29 (2 * k)) (fun k => h 29 (2 * k + 1)) (b + h 29 (2 * k)) (imax c (b + h 29 (2 * k)) + h 29 (2 * k + 1)) l2).toInt := ge
              rw [w2] at ge
              omega))
          rw [no] at hs
          exact ih (k + 1) s (by omega) (by omega) hs
      · rw [if_neg cb, show fndO (fun k => h 29 (2 * k)) (fun k => h 29 (2 * k + 1)) M b c [] = none from rfl] at hs
        rw [if_neg (fun q => cb ((bitT u hu k (by omega)).mp q))]
        exact ih (k + 1) s (by omega) (by omega) hs
theorem la22 (h : PH) (i : Inv h) (m : Nat) (hm : m ≤ 6) (en : h 28 3 = nI m) (hX : ∀ k, k < m → R 1 30 (h 29 (2 * k))) (hY : ∀ k, k < m → R 1 30 (h 29 (2 * k + 1))) (M : Int32) (hM : M.toInt < 1000000) (p : Nat) (hp : p < m) : ∀ (f j r u : Nat) (b c v : Int32) (s : List Nat), p + 1 < f + j → j ≤ p + 1 → j + r = m → u < 64 → rmO m u = r → R 0 (30 * (j : Int)) b → R 0 (60 * (j : Int)) c → (∀ l, l ∈ plO m r u → M.toInt ≤ (evO (fun k => h 29 (2 * k)) (fun k => h 29 (2 * k + 1)) b c l).toInt) → fndO (fun k => h 29 (2 * k)) (fun k => h 29 (2 * k + 1)) M b c (plO m r u) = some s → mK_loafAt_L22 28 (nI p) M h f (nI u) b c v (nI j) = some (if p < j then v else nI (s.getD (p - j) 0)) := by
  intro f
  induction f with
  | zero => intro j r u b c v s h1 h2; omega
  | succ f ih =>
    intro j r u b c v s h1 h2 hjr hu hr hb hc hall hs
    rw [mK_loafAt_L22]
    by_cases e : p < j
    · rw [if_pos (nI_lt e (by omega)), if_pos e]
    · rw [if_neg (by rw [Int32.lt_iff_toInt_lt, nI_toInt (by omega), nI_toInt (by omega)]; omega), if_neg e]
      obtain ⟨r', rfl⟩ : ∃ r', r = r' + 1 := ⟨r - 1, by omega⟩
      rw [plO_bk] at hs
      obtain ⟨k, s', q1, q2, q3, q4, q5⟩ := ftk h i m hm en hX hY r' u j hu hr (by omega) b c M hb hc hM hall FU 0 s (by unfold FU; omega) (by omega) hs
      rw [nI_0] at q2
      have q2 : mK_firstThatKeeps 28 (nI u) b c M h = some (nI k) := q2
      obtain ⟨a0, a1⟩ := at28 i hm en q3
      rw [q2, bd_e, if_neg (fun q => by
        have : (nI k).toInt = -1 := by rw [q]; rfl
        rw [nI_toInt (by omega)] at this
        omega), lt_e, a0, bd_e, lt_e, a1, bd_e, lt_e, (bitS u hu k (by omega) q4).1, nI_1]
      have x1 := hX k q3
      have y1 := hY k q3
      have e1 := i_add hb x1 (by omega)
      have rb : R 0 (30 * ((j + 1 : Nat) : Int)) (b + h 29 (2 * k)) := by
        obtain ⟨p1, p2⟩ := hb
        obtain ⟨p3, p4⟩ := x1
        exact ⟨by omega, by omega⟩
      have rx : R 0 (60 * (j : Int) + 30) (imax c (b + h 29 (2 * k))) := r_max hc rb (by omega)
      have e2 := i_add rx y1 (by omega)
      have rc : R 0 (60 * ((j + 1 : Nat) : Int)) (imax c (b + h 29 (2 * k)) + h 29 (2 * k + 1)) := by
        obtain ⟨p1, p2⟩ := rx
        obtain ⟨p3, p4⟩ := y1
        exact ⟨by omega, by omega⟩
      have d := rmO_d m (by omega) u hu k (by omega) q3 q4
      rw [ih (j + 1) r' (u + 2 ^ k) _ _ (nI k) s' (by omega) (by omega) (by omega) (bitS u hu k (by omega) q4).2 (by omega) rb rc (fun l hl => by
        refine hall (k :: l) ?_
        rw [plO]
        refine List.mem_flatMap.mpr ⟨k, List.mem_range'_1.mpr (by omega), ?_⟩
        rw [if_pos q4]
        exact List.mem_map.mpr ⟨l, hl, rfl⟩) q5]
      congr 1
      subst q1
      by_cases e3 : p = j
      · subst e3
        rw [if_pos (by omega), Nat.sub_self]
        rfl
      · rw [if_neg (by omega), show p - j = (p - (j + 1)) + 1 by omega]
        rfl
/-! the model's orders: their row for each number of loaves, by computing; then for any heap -/
def cHO (m : Nat) (l : List Nat) : PH := fun b j => if b = 104 then nI m else if b = 139 then nI (l.getD j 0) else 0
def chkO (m : Nat) : List (List Nat) → Bool
  | [] => true
  | [l] => match mm_goesToNextOrder (cHO m l) with
    | some (r, _) => r == 0
    | none => false
  | l :: l' :: t => (match mm_goesToNextOrder (cHO m l) with
    | some (r, g) => r == 1 && (List.range m).all (fun j => g 139 j == nI (l'.getD j 0))
    | none => false) && chkO m (l' :: t)
set_option maxRecDepth 100000 in
theorem chk_0 : chkO 0 (plO 0 0 0) = true := by decide +kernel
set_option maxRecDepth 100000 in
theorem chk_1 : chkO 1 (plO 1 1 0) = true := by decide +kernel
set_option maxRecDepth 100000 in
theorem chk_2 : chkO 2 (plO 2 2 0) = true := by decide +kernel
set_option maxRecDepth 100000 in
theorem chk_3 : chkO 3 (plO 3 3 0) = true := by decide +kernel
set_option maxRecDepth 100000 in
theorem chk_4 : chkO 4 (plO 4 4 0) = true := by decide +kernel
set_option maxRecDepth 100000 in
theorem chk_5 : chkO 5 (plO 5 5 0) = true := by decide +kernel
set_option maxRecDepth 100000 in
theorem chk_6 : chkO 6 (plO 6 6 0) = true := by decide +kernel
set_option maxRecDepth 100000 in
theorem hd_all : ∀ m, m < 7 → (plO m m 0).head? = some (List.range m) := by decide +kernel
theorem chk_all (m : Nat) (hm : m ≤ 6) : chkO m (plO m m 0) = true := by
  match m, hm with
  | 0, _ => exact chk_0
  | 1, _ => exact chk_1
  | 2, _ => exact chk_2
  | 3, _ => exact chk_3
  | 4, _ => exact chk_4
  | 5, _ => exact chk_5
  | 6, _ => exact chk_6
  | m + 7, hm => omega
def PrO (m : Nat) (r s : Option (Int32 × PH)) : Prop := (r = none ∧ s = none) ∨ ∃ x h' g', r = some (x, h') ∧ s = some (x, g') ∧ ∀ j, j < m → h' 139 j = g' 139 j
theorem pr_no (m : Nat) : PrO m none none := Or.inl ⟨rfl, rfl⟩
theorem pr_ck {m : Nat} {v : Int32} {N : Nat} {r s : Option (Int32 × PH)} (h : vp_in v N → PrO m r s) : PrO m (ck v N r) (ck v N s) := by
  by_cases c : vp_in v N
  · rw [ck_in c, ck_in c]
    exact h c
  · have : ∀ q : Option (Int32 × PH), ck v N q = none := fun q => by
      unfold ck
      rw [if_pos (Classical.byContradiction fun z => c z)]
    rw [this, this]
    exact pr_no m
theorem pr_if {m : Nat} {c : Prop} [Decidable c] {a b a' b' : Option (Int32 × PH)} (h1 : c → PrO m a a') (h2 : ¬ c → PrO m b b') : PrO m (if c then a else b) (if c then a' else b') := by
  by_cases h : c
  · rw [if_pos h, if_pos h]; exact h1 h
  · rw [if_neg h, if_neg h]; exact h2 h
theorem tn7 (m : Nat) (hm : m ≤ 6) (h g : PH) (E : ∀ j, j < m → h 139 j = g 139 j) (k0 k1 : Int32 → Option (Int32 × PH)) (hk0 : ∀ x : Int32, x < 0 → PrO m (k0 x) (k1 x)) (hk : ∀ i, i + 1 < m → PrO m (k0 (nI i)) (k1 (nI i))) : ∀ (n : Nat) (v : Int32), (v < 0 ∨ ∃ i, v = nI i ∧ i + 1 < m) → PrO m (mm_goesToNextOrder_L7 h k0 n v) (mm_goesToNextOrder_L7 g k1 n v) := by
  intro n
  induction n with
  | zero => intro v _; exact pr_no m
  | succ n ih =>
    intro v hv
    rw [mm_goesToNextOrder_L7, mm_goesToNextOrder_L7]
    refine pr_if (fun c => hk0 v c) (fun c => ?_)
    rcases hv with q | ⟨i, rfl, hi⟩
    · exact absurd q c
    · refine pr_ck (fun _ => pr_ck (fun _ => ?_))
      rw [nI_1, show ix (nI i) = i from nI_clamp (by omega), show ix (nI (i + 1)) = i + 1 from nI_clamp (by omega), E i (by omega), E (i + 1) (by omega)]
      refine pr_if (fun _ => hk i hi) (fun _ => ?_)
      rw [lt_e, lt_e]
      refine ih _ ?_
      match i, hi with
      | 0, _ => exact Or.inl (by decide)
      | i + 1, hi => exact Or.inr ⟨i, nI_pred i, by omega⟩
theorem tn48 (m i : Nat) (hm : m ≤ 6) (hi : i < m) (h g : PH) (E : ∀ j, j < m → h 139 j = g 139 j) (k0 k1 : Int32 → Option (Int32 × PH)) (hk : ∀ k, k < m → PrO m (k0 (nI k)) (k1 (nI k))) : ∀ (n : Nat) (v : Int32), (v < 0 ∨ ∃ k, v = nI k ∧ k < m) → PrO m (mm_goesToNextOrder_L48 (nI i) h k0 n v) (mm_goesToNextOrder_L48 (nI i) g k1 n v) := by
  intro n
  induction n with
  | zero => intro v _; exact pr_no m
  | succ n ih =>
    intro v hv
    rw [mm_goesToNextOrder_L48, mm_goesToNextOrder_L48]
    refine pr_ck (fun cv => pr_ck (fun _ => ?_))
    rcases hv with q | ⟨k, rfl, hk2⟩
    · exact absurd (Or.inl q) cv
    · rw [show ix (nI i) = i from nI_clamp (by omega), show ix (nI k) = k from nI_clamp (by omega), E i hi, E k hk2]
      refine pr_if (fun _ => hk k hk2) (fun _ => ?_)
      rw [lt_e, lt_e]
      refine ih _ ?_
      match k, hk2 with
      | 0, _ => exact Or.inl (by decide)
      | k + 1, hk2 => exact Or.inr ⟨k, nI_pred k, by omega⟩
theorem tn109 (m : Nat) (hm : m ≤ 6) : ∀ (n a b : Nat) (h g : PH), b < m → (∀ j, j < m → h 139 j = g 139 j) → PrO m (mm_goesToNextOrder_L109 n (nI b) (nI a) h) (mm_goesToNextOrder_L109 n (nI b) (nI a) g) := by
  intro n
  induction n with
  | zero => intro a b h g _ _; exact pr_no m
  | succ n ih =>
    intro a b h g hb E
    rw [mm_goesToNextOrder_L109, mm_goesToNextOrder_L109]
    refine pr_if (fun _ => Or.inr ⟨1, h, g, rfl, rfl, E⟩) (fun c => ?_)
    refine pr_ck (fun ca => ?_)
    rw [lt_e, lt_e]
    refine pr_ck (fun _ => pr_ck (fun _ => ?_))
    rw [lt_e, lt_e]
    refine pr_ck (fun _ => ?_)
    simp only [lt_e]
    by_cases ab : b ≤ a
    · by_cases a31 : a < 2 ^ 31
      · exact absurd (nI_le ab a31) c
      · have eb : ix (nI b) = b := nI_clamp (by omega)
        have a6 : ix (nI a) < 6 := Nat.not_le.mp (fun q => ca (Or.inr q))
        have al : ¬ nI a < 0 := fun q => ca (Or.inl q)
        obtain ⟨a', a1, a2⟩ := nI_of al
        rw [a2] at c a6 ⊢
        rw [show ix (nI a') = a' from nI_clamp a1] at a6
        have hab : a' < b := by
          refine Nat.not_le.mp (fun q => c (nI_le q a1))
        obtain ⟨b', rfl⟩ : ∃ b', b = b' + 1 := ⟨b - 1, by omega⟩
        rw [nI_pred, nI_1, show ix (nI a') = a' from nI_clamp a1, eb, E a' (by omega), E (b' + 1) hb]
        refine ih (a' + 1) b' _ _ (by omega) (fun j hj => ?_)
        by_cases j1 : j = b' + 1
        · rw [j1, up_same, up_same]
        · rw [up_oj j1, up_oj j1]
          by_cases j2 : j = a'
          · rw [j2, up_same, up_same]
          · rw [up_oj j2, up_oj j2]
            exact E j hj
    · obtain ⟨b', rfl⟩ : ∃ b', b = b' + 1 := ⟨b - 1, by omega⟩
      rw [nI_pred, nI_1, show ix (nI a) = a from nI_clamp (by omega), show ix (nI (b' + 1)) = b' + 1 from nI_clamp (by omega), E a (by omega), E (b' + 1) hb]
      refine ih (a + 1) b' _ _ (by omega) (fun j hj => ?_)
      by_cases j1 : j = b' + 1
      · rw [j1, up_same, up_same]
      · rw [up_oj j1, up_oj j1]
        by_cases j2 : j = a
        · rw [j2, up_same, up_same]
        · rw [up_oj j2, up_oj j2]
          exact E j hj
theorem tr_next (m : Nat) (hm : m ≤ 6) (h g : PH) (e1 : h 104 57 = nI m) (e2 : g 104 57 = nI m) (E : ∀ j, j < m → h 139 j = g 139 j) : PrO m (mm_goesToNextOrder h) (mm_goesToNextOrder g) := by
  unfold mm_goesToNextOrder
  rw [lt_e, lt_e, e1, e2]
  refine tn7 m hm h g E _ _ (fun x hx => ?_) (fun i hi => ?_) FU _ ?_
  · rw [if_neg (Int32.not_le.mpr hx), if_neg (Int32.not_le.mpr hx)]
    exact Or.inr ⟨0, h, g, rfl, rfl, E⟩
  · refine pr_if (fun _ => ?_) (fun _ => Or.inr ⟨0, h, g, rfl, rfl, E⟩)
    rw [lt_e, lt_e]
    obtain ⟨m', rfl⟩ : ∃ m', m = m' + 1 := ⟨m - 1, by omega⟩
    rw [nI_pred]
    refine tn48 (m' + 1) i hm (by omega) h g E _ _ (fun k hk => ?_) FU _ (Or.inr ⟨m', rfl, by omega⟩)
    refine pr_ck (fun _ => ?_)
    rw [lt_e, lt_e]
    refine pr_ck (fun _ => pr_ck (fun _ => ?_))
    rw [lt_e, lt_e]
    refine pr_ck (fun _ => ?_)
    have f1 : ∀ (q : PH) (x y : Int32) (a b : Nat), q 104 57 = nI (m' + 1) → up (up q 139 a x) 139 b y 104 57 = nI (m' + 1) := fun q x y a b hq => by rw [up_oc (by decide), up_oc (by decide)]; exact hq
    simp only [lt_e]
    rw [f1 h _ _ _ _ e1, f1 g _ _ _ _ e2, nI_pred, nI_1, show ix (nI i) = i from nI_clamp (by omega), show ix (nI k) = k from nI_clamp (by omega), E i (by omega), E k hk]
    refine tn109 (m' + 1) hm FU (i + 1) m' _ _ (by omega) (fun j hj => ?_)
    by_cases j1 : j = k
    · rw [j1, up_same, up_same]
    · rw [up_oj j1, up_oj j1]
      by_cases j2 : j = i
      · rw [j2, up_same, up_same]
      · rw [up_oj j2, up_oj j2]
        exact E j hj
  · match m, hm with
    | 0, _ => exact Or.inl (by decide)
    | 1, _ => exact Or.inl (by decide)
    | m + 2, _ => exact Or.inr ⟨m, by rw [show (2 : Int32) = nI 2 from rfl, nI_sub (by omega)]; rfl, by omega⟩
theorem imax_c (x y : Int32) : imax x y = imax y x := by
  unfold imax
  by_cases c1 : x < y
  · rw [if_pos c1, if_neg (Int32.not_lt.mpr (Int32.le_of_lt c1))]
  · by_cases c2 : y < x
    · rw [if_neg c1, if_pos c2]
    · rw [if_neg c1, if_neg c2]
      exact Int32.le_antisymm (Int32.not_lt.mp c2) (Int32.not_lt.mp c1)
theorem gdO {l : List Nat} {k : Nat} (h : k < l.length) : l.getD k 0 = l[k] := by
  rw [List.getD_eq_getElem?_getD, List.getElem?_eq_getElem h]
  rfl
theorem dn_at (m : Nat) (hm : m ≤ 6) (X Y : Nat → Int32) (l : List Nat) (ll : l.length = m) (lm : ∀ i, i ∈ l → i < m) (g : PH) (e : g 104 57 = nI m) (e9 : ∀ j, j < m → g 139 j = nI (l.getD j 0)) (eX : ∀ k, k < m → g 137 k = X k) (eY : ∀ k, k < m → g 138 k = Y k) : ∀ (f k : Nat) (b c : Int32), m < f + k → k ≤ m → mm_doneBy_L6 g f b c (nI k) = some (evO X Y b c (l.drop k)) := by
  intro f
  induction f with
  | zero => intro k b c h1 h2; omega
  | succ f ih =>
    intro k b c h1 h2
    rw [mm_doneBy_L6, e]
    by_cases ek : k = m
    · rw [ek, if_pos (nI_le (Nat.le_refl _) (by omega)), List.drop_of_length_le (by omega)]
      rfl
    · have hk : k < l.length := by omega
      have mem : l.getD k 0 ∈ l := by
        rw [gdO hk]
        exact List.getElem_mem hk
      have lt := lm _ mem
      have e139 := e9 k (by omega)
      have i139 : ix (nI (l.getD k 0)) = l.getD k 0 := nI_clamp (by omega)
      rw [if_neg (nI_ge (by omega) (by omega)), ck_nI (by omega) (by decide), show ix (nI k) = k from nI_clamp (by omega), e139, ck_nI (by omega) (by decide), lt_e, i139, eX _ lt, greater_eq, bd_e, ck_nI (by omega) (by decide), ck_nI (by omega) (by decide), lt_e, eY _ lt, nI_1, imax_c (b + X (l.getD k 0)) c, List.drop_eq_getElem_cons hk, evO, ← gdO hk]
      exact ih (k + 1) _ _ (by omega) (by omega)
theorem cp70 (p1 p2 p4 : Int32) (m : Nat) (hm : m ≤ 6) (k0 : PH → Option (Int32 × PH)) : ∀ (f k : Nat) (g : PH), m < f + k → k ≤ m → g 104 57 = nI m → ∃ g', mm_ovens_L70 p1 p2 p4 k0 f (nI k) g = k0 g' ∧ (∀ b, b ≠ 140 → g' b = g b) ∧ (p2 ≤ p4 → g' 140 = g 140) ∧ (¬ p2 ≤ p4 → (∀ j, k ≤ j → j < m → g' 140 j = g 139 j) ∧ ∀ j, j < k → g' 140 j = g 140 j) := by
  intro f
  induction f with
  | zero => intro k g h1 h2; omega
  | succ f ih =>
    intro k g h1 h2 e
    rw [mm_ovens_L70, e]
    by_cases ek : k = m
    · rw [ek, if_pos (nI_le (Nat.le_refl _) (by omega))]
      exact ⟨g, rfl, fun _ _ => rfl, fun _ => rfl, fun _ => ⟨fun j h1 h2 => by omega, fun _ _ => rfl⟩⟩
    · rw [if_neg (nI_ge (by omega) (by omega))]
      by_cases c : p2 ≤ p4
      · rw [if_pos c]
        exact ⟨g, rfl, fun _ _ => rfl, fun _ => rfl, fun q => absurd c q⟩
      · rw [if_neg c, ck_nI (by omega) (by decide), ck_nI (by omega) (by decide), lt_e, nI_1, show ix (nI k) = k from nI_clamp (by omega)]
        obtain ⟨g', q1, q2, q3, q4⟩ := ih (k + 1) (up g 140 k (g 139 k)) (by omega) (by omega) (by rw [up_oc (by decide)]; exact e)
        obtain ⟨q5, q6⟩ := q4 c
        refine ⟨g', q1, fun b hb => by rw [q2 b hb, up_cell hb], fun q => absurd q c, fun _ => ⟨fun j h1 h2 => ?_, fun j hj => ?_⟩⟩
        · by_cases ej : j = k
          · rw [ej, q6 k (by omega), up_same]
          · rw [q5 j (by omega) h2, up_oc (by decide)]
        · rw [q6 j (by omega), up_oj (by omega)]
theorem ov_go (p1 : Int32) (m : Nat) (hm : m ≤ 6) (X Y : Nat → Int32) (k0 : Int32 → PH → Option (Int32 × PH)) : ∀ (t : List (List Nat)) (l : List Nat) (v : Int32) (g : PH) (f : Nat), t.length + 1 < f → chkO m (l :: t) = true → (∀ s, s ∈ l :: t → s.length = m ∧ ∀ i, i ∈ s → i < m) → g 104 57 = nI m → (∀ j, j < m → g 139 j = nI (l.getD j 0)) → (∀ k, k < m → g 137 k = X k) → (∀ k, k < m → g 138 k = Y k) → ∃ g', mm_ovens_L57 p1 k0 f v 1 g = k0 (mnF v ((l :: t).map (evO X Y 0 0))) g' ∧ (mnF v ((l :: t).map (evO X Y 0 0)) < v → ∃ s, fndO X Y (mnF v ((l :: t).map (evO X Y 0 0))) 0 0 (l :: t) = some s ∧ ∀ j, j < m → g' 140 j = nI (s.getD j 0)) ∧ (¬ mnF v ((l :: t).map (evO X Y 0 0)) < v → g' 140 = g 140) := by
  intro t
  induction t with
  | nil =>
    intro l v g f hf hc hs e e9 eX eY
    obtain ⟨f', rfl⟩ : ∃ f', f = f' + 2 := ⟨f - 2, by omega⟩
    obtain ⟨l1, l2⟩ := hs l List.mem_cons_self
    have dn := dn_at m hm X Y l l1 l2 g e e9 eX eY FU 0 0 0 (by unfold FU; omega) (by omega)
    rw [nI_0, List.drop_zero] at dn
    have dn : mm_doneBy g = some (evO X Y 0 0 l) := dn
    rw [mm_ovens_L57, if_neg (by decide), dn, bd_e]
    obtain ⟨h7, q1, q2, q3, q4⟩ := cp70 p1 v (evO X Y 0 0 l) m hm (fun (h7 : PH) => bd (mm_lesser v (evO X Y 0 0 l) h7) fun r8 => bd2 (mm_goesToNextOrder h7) fun r9 h10 => mm_ovens_L57 p1 k0 (f' + 1) r8 r9 h10) FU 0 g (by unfold FU; omega) (by omega) e
    rw [nI_0] at q1
    rw [q1, lesser_eq, bd_e, imin_c]
    have E : ∀ j, j < m → h7 139 j = cHO m l 139 j := fun j hj => by rw [q2 139 (by decide), e9 j hj]; rfl
    have tr := tr_next m hm h7 (cHO m l) (by rw [q2 104 (by decide)]; exact e) rfl E
    have hc : (match mm_goesToNextOrder (cHO m l) with
      | some (r, _) => r == 0
      | none => false) = true := hc
    rcases tr with ⟨t1, t2⟩ | ⟨x, h', g', t1, t2, t3⟩
    · rw [t2] at hc; cases hc
    · rw [t2] at hc
      have x0 : x = 0 := eq_of_beq hc
      subst x0
      have fr : ∀ b, b ≠ 139 → h' b = h7 b := fun b hb => funext fun j => fkm_goesToNextOrder h7 t1 b j (by
        by_cases b4 : b = 104
        · subst b4; exact (by
            show 1000 + j ∉ [139]
            intro q
            have := List.mem_singleton.mp q
            omega)
        · unfold kk
          rw [if_neg b4]
          intro q
          exact hb (List.mem_singleton.mp q))
      rw [t1, bd2_e, mm_ovens_L57, if_pos rfl]
      have mn : mnF v ([l].map (evO X Y 0 0)) = imin v (evO X Y 0 0 l) := rfl
      refine ⟨h', by rw [mn], ?_⟩
      rw [mn]
      unfold imin
      by_cases c : evO X Y 0 0 l < v
      · rw [if_pos c]
        refine ⟨fun _ => ⟨l, ?_, fun j hj => ?_⟩, fun q => absurd c q⟩
        · unfold fndO
          rw [List.find?_cons_of_pos (by exact decide_eq_true rfl)]
        · rw [fr 140 (by decide), (q4 (Int32.not_le.mpr c)).1 j (by omega) hj]
          exact e9 j hj
      · rw [if_neg c]
        refine ⟨fun q => absurd q (fun w => Int32.lt_irrefl w), fun _ => ?_⟩
        rw [fr 140 (by decide), q3 (Int32.not_lt.mp c)]
  | cons l' t ih =>
    intro l v g f hf hc hs e e9 eX eY
    rw [List.length_cons] at hf
    obtain ⟨f', rfl⟩ : ∃ f', f = f' + 1 := ⟨f - 1, by omega⟩
    obtain ⟨l1, l2⟩ := hs l List.mem_cons_self
    have dn := dn_at m hm X Y l l1 l2 g e e9 eX eY FU 0 0 0 (by unfold FU; omega) (by omega)
    rw [nI_0, List.drop_zero] at dn
    have dn : mm_doneBy g = some (evO X Y 0 0 l) := dn
    rw [mm_ovens_L57, if_neg (by decide), dn, bd_e]
    obtain ⟨h7, q1, q2, q3, q4⟩ := cp70 p1 v (evO X Y 0 0 l) m hm (fun (h7 : PH) => bd (mm_lesser v (evO X Y 0 0 l) h7) fun r8 => bd2 (mm_goesToNextOrder h7) fun r9 h10 => mm_ovens_L57 p1 k0 f' r8 r9 h10) FU 0 g (by unfold FU; omega) (by omega) e
    rw [nI_0] at q1
    rw [q1, lesser_eq, bd_e, imin_c]
    have E : ∀ j, j < m → h7 139 j = cHO m l 139 j := fun j hj => by rw [q2 139 (by decide), e9 j hj]; rfl
    have tr := tr_next m hm h7 (cHO m l) (by rw [q2 104 (by decide)]; exact e) rfl E
    have hc : ((match mm_goesToNextOrder (cHO m l) with
      | some (r, g) => r == 1 && (List.range m).all (fun j => g 139 j == nI (l'.getD j 0))
      | none => false) && chkO m (l' :: t)) = true := hc
    rw [Bool.and_eq_true] at hc
    obtain ⟨hc, hc2⟩ := hc
    rcases tr with ⟨t1, t2⟩ | ⟨x, h', g', t1, t2, t3⟩
    · rw [t2] at hc; cases hc
    · rw [t2] at hc
      have hc : (x == 1 && (List.range m).all (fun j => g' 139 j == nI (l'.getD j 0))) = true := hc
      rw [Bool.and_eq_true] at hc
      have x0 : x = 1 := eq_of_beq hc.1
      subst x0
      have fr : ∀ b, b ≠ 139 → h' b = h7 b := fun b hb => funext fun j => fkm_goesToNextOrder h7 t1 b j (by
        by_cases b4 : b = 104
        · subst b4; exact (by
            show 1000 + j ∉ [139]
            intro q
            have := List.mem_singleton.mp q
            omega)
        · unfold kk
          rw [if_neg b4]
          intro q
          exact hb (List.mem_singleton.mp q))
      rw [t1, bd2_e]
      obtain ⟨gf, w1, w2, w3⟩ := ih l' (imin v (evO X Y 0 0 l)) h' f' (by omega) hc2 (fun s hs2 => hs s (List.mem_cons_of_mem _ hs2)) (by rw [fr 104 (by decide), q2 104 (by decide)]; exact e) (fun j hj => by
        rw [t3 j hj]
        exact eq_of_beq (List.all_eq_true.mp hc.2 j (List.mem_range.mpr hj))) (fun k hk => by rw [fr 137 (by decide), q2 137 (by decide)]; exact eX k hk) (fun k hk => by rw [fr 138 (by decide), q2 138 (by decide)]; exact eY k hk)
      have mn : mnF v ((l :: l' :: t).map (evO X Y 0 0)) = mnF (imin v (evO X Y 0 0 l)) ((l' :: t).map (evO X Y 0 0)) := rfl
      rw [mn]
      refine ⟨gf, w1, ?_⟩
      generalize hM : mnF (imin v (evO X Y 0 0 l)) ((l' :: t).map (evO X Y 0 0)) = M at w1 w2 w3 ⊢
      have le := mnF_le ((l' :: t).map (evO X Y 0 0)) (imin v (evO X Y 0 0 l))
      rw [hM] at le
      have im := imin_i v (evO X Y 0 0 l)
      by_cases c : M < imin v (evO X Y 0 0 l)
      · obtain ⟨s, s1, s2⟩ := w2 c
        rw [Int32.lt_iff_toInt_lt] at c
        refine ⟨fun _ => ⟨s, ?_, s2⟩, fun q => absurd (Int32.lt_iff_toInt_lt.mpr (by omega)) q⟩
        unfold fndO at s1 ⊢
        rw [List.find?_cons_of_neg (by
          intro q
          have e5 : evO X Y 0 0 l = M := of_decide_eq_true q
          have im2 := im.2.1
          rw [← e5] at c
          omega)]
        exact s1
      · have eM : M = imin v (evO X Y 0 0 l) := Int32.toInt_inj.mp (by rw [Int32.lt_iff_toInt_lt] at c; omega)
        have g140 := w3 c
        rw [eM]
        unfold imin
        by_cases c2 : evO X Y 0 0 l < v
        · rw [if_pos c2]
          refine ⟨fun _ => ⟨l, ?_, fun j hj => ?_⟩, fun q => absurd c2 q⟩
          · unfold fndO
            rw [List.find?_cons_of_pos (by exact decide_eq_true rfl)]
          · rw [g140, fr 140 (by decide), (q4 (Int32.not_le.mpr c2)).1 j (by omega) hj]
            exact e9 j hj
        · rw [if_neg c2]
          refine ⟨fun q => absurd q (fun w => Int32.lt_irrefl w), fun _ => ?_⟩
          rw [g140, fr 140 (by decide), q3 (Int32.not_lt.mp c2)]
theorem li30 (p1 : Int32) (m : Nat) (hm : m ≤ 6) (k0 : PH → Option (Int32 × PH)) : ∀ (f k : Nat) (g : PH), m < f + k → k ≤ m → g 104 57 = nI m → (∀ j, j < k → g 139 j = nI j) → ∃ g', mm_ovens_L30 p1 k0 f (nI k) g = k0 g' ∧ (∀ j, j < m → g' 139 j = nI j) ∧ ∀ b, b ≠ 139 → g' b = g b := by
  intro f
  induction f with
  | zero => intro k g h1 h2; omega
  | succ f ih =>
    intro k g h1 h2 e hg
    rw [mm_ovens_L30, e]
    by_cases ek : k = m
    · rw [ek, if_pos (nI_le (Nat.le_refl _) (by omega))]
      exact ⟨g, rfl, fun j hj => hg j (by omega), fun _ _ => rfl⟩
    · rw [if_neg (nI_ge (by omega) (by omega)), ck_nI (by omega) (by decide), lt_e, nI_1, show ix (nI k) = k from nI_clamp (by omega)]
      obtain ⟨g', q1, q2, q3⟩ := ih (k + 1) (up g 139 k (nI k)) (by omega) (by omega) (by rw [up_oc (by decide)]; exact e) (fun j hj => by
        by_cases ej : j = k
        · rw [ej, up_same]
        · rw [up_oj ej]; exact hg j (by omega))
      exact ⟨g', q1, q2, fun b hb => by rw [q3 b hb, up_cell hb]⟩
set_option maxRecDepth 100000 in
theorem pl_len : ∀ m, m < 7 → (plO m m 0).length < 1000 := by decide +kernel
theorem ag_ovens (a1 : Int32) (h : PH) (i : IM h) (rl : RLA h) {rX rm : Int32} {h2 : PH} (e1 : mX_ovens a1 h = some rX) (e2 : mm_ovens a1 h = some (rm, h2)) : rX = rm := by
  obtain ⟨m, m1, m2, en⟩ := nat_of (show R 0 6 (h 28 3) from inv_rng i.1 rfl) (by decide)
  have own : LS_loaf h := rl.1.2.2.2.2.2.1
  unfold LS_loaf at own
  have hX : ∀ k, k < m → R 1 30 (h 29 (2 * k)) := fun k hk => (own.2 k (by rw [en, nI_toInt m2]; omega)).1.2
  have hY : ∀ k, k < m → R 1 30 (h 29 (2 * k + 1)) := fun k hk => (own.2 k (by rw [en, nI_toInt m2]; omega)).2.2
  have em : up h 104 0 0 104 57 = nI m := by rw [up_oj (by decide), ← own.1]; exact en
  have z0 : R 0 (30 * ((0 : Nat) : Int)) (0 : Int32) := ⟨by decide, by decide⟩
  have z1 : R 0 (60 * ((0 : Nat) : Int)) (0 : Int32) := ⟨by decide, by decide⟩
  have db := dbk h i.1 m (by omega) en hX hY m 0 0 (29 - m) 0 0 (by decide) (rmO_m m (by omega)) (by omega) z0 z1
  rw [show m + 1 + (29 - m) = 30 by omega, nI_0] at db
  -- the list of all orders
  have hd := hd_all m (by omega)
  obtain ⟨t, ht⟩ : ∃ t, plO m m 0 = List.range m :: t := by
    cases q : plO m m 0 with
    | nil => rw [q] at hd; cases hd
    | cons l t => rw [q] at hd; cases hd; exact ⟨t, rfl⟩
  have bd1 : ∀ l, l ∈ plO m m 0 → R 0 1000 (evO (fun k => h 29 (2 * k)) (fun k => h 29 (2 * k + 1)) 0 0 l) := fun l hl => by
    obtain ⟨q1, q2⟩ := plO_mem m m 0 l hl
    exact evO_r hX hY l 0 0 0 q1 (by omega) z0 z1
  -- the least by both beginnings
  have le1 := mnF_all ((plO m m 0).map (evO (fun k => h 29 (2 * k)) (fun k => h 29 (2 * k + 1)) 0 0)) 100000000 _ (List.mem_map.mpr ⟨List.range m, by rw [ht]; exact List.mem_cons_self, rfl⟩)
  have r0 := (bd1 (List.range m) (by rw [ht]; exact List.mem_cons_self)).2
  have same : mnF 1000000 ((plO m m 0).map (evO (fun k => h 29 (2 * k)) (fun k => h 29 (2 * k + 1)) 0 0)) = mnF 100000000 ((plO m m 0).map (evO (fun k => h 29 (2 * k)) (fun k => h 29 (2 * k + 1)) 0 0)) := by
    rw [mnF_pull _ 1000000 100000000 (by decide)]
    unfold imin
    rw [if_pos (by rw [Int32.lt_iff_toInt_lt]; simp only [show (1000000 : Int32).toInt = 1000000 from rfl]; omega)]
  rw [same] at db
  generalize hM : mnF 100000000 ((plO m m 0).map (evO (fun k => h 29 (2 * k)) (fun k => h 29 (2 * k + 1)) 0 0)) = M at db le1
  have Mlt : M.toInt < 1000000 := by omega
  -- the model
  have model : ∀ k0 : Int32 → PH → Option (Int32 × PH), ∃ g s, (mm_ovens_L30 a1 (fun (h4 : PH) => mm_ovens_L57 a1 k0 FU 100000000 1 h4) FU 0 (up h 104 0 0)) = k0 M g ∧ fndO (fun k => h 29 (2 * k)) (fun k => h 29 (2 * k + 1)) M 0 0 (plO m m 0) = some s ∧ ∀ j, j < m → g 140 j = nI (s.getD j 0) := fun k0 => by
    obtain ⟨g, q1, q2, q3⟩ := li30 a1 m (by omega) (fun (h4 : PH) => mm_ovens_L57 a1 k0 FU 100000000 1 h4) FU 0 (up h 104 0 0) (by unfold FU; omega) (by omega) em (fun j hj => by omega)
    rw [nI_0] at q1
    have ck := chk_all m (by omega)
    rw [ht] at ck
    have ln := pl_len m (by omega)
    rw [ht, List.length_cons] at ln
    have key := ov_go a1 m (by omega) (fun k => h 29 (2 * k)) (fun k => h 29 (2 * k + 1)) k0 t (List.range m) 100000000 g FU (by unfold FU; omega) ck (fun s hs => by
      rw [← ht] at hs
      obtain ⟨w1, w2⟩ := plO_mem m m 0 s hs
      exact ⟨w2, w1⟩) (by rw [q3 104 (by decide)]; exact em) (fun j hj => by
      rw [q2 j hj, gdO (by rw [List.length_range]; exact hj), List.getElem_range]) (fun k hk => by
      rw [q3 137 (by decide), up_oc (by decide)]
      exact (own.2 k (by rw [en, nI_toInt m2]; omega)).1.1.symm) (fun k hk => by
      rw [q3 138 (by decide), up_oc (by decide)]
      exact (own.2 k (by rw [en, nI_toInt m2]; omega)).2.1.symm)
    rw [← ht, hM] at key
    obtain ⟨gf, w1, w2, -⟩ := key
    obtain ⟨s, s1, s2⟩ := w2 (by rw [Int32.lt_iff_toInt_lt]; simp only [show (100000000 : Int32).toInt = 100000000 from rfl]; omega)
    exact ⟨gf, s, q1.trans w1, s1, s2⟩
  unfold mX_ovens at e1
  unfold mm_ovens at e2
  rw [lt_e, jn0_e] at e2
  by_cases c : a1 = 0
  · rw [if_pos c, db, bd_e] at e1
    rw [if_pos c] at e2
    obtain ⟨g, s, q1, -, -⟩ := model (fun (x11 : Int32) (h12 : PH) => if a1 = 0 then some (x11, h12) else ck (a1 - 10) 6 <| some (h12 140 (ix (a1 - 10)), h12))
    rw [q1, if_pos c] at e2
    cases e1
    cases e2
    rfl
  · rw [if_neg c] at e1 e2
    have e9 : (9 : Int32) + nI m = nI (9 + m) := nI_add 9 m
    rw [em, e9] at e2
    by_cases f1 : 10 ≤ a1 ∧ a1 ≤ nI (9 + m)
    · rw [isIn_y f1, bd_e, if_neg (by decide)] at e2
      obtain ⟨k, k1, k2, ek⟩ := nat_of (rng_of (x := 10) (y := ((9 + m : Nat) : Int)) rfl (nI_toInt (by omega)) f1) (by decide)
      have kp : 10 ≤ k := by
        have := f1.1
        rw [ek, Int32.le_iff_toInt_le, nI_toInt k2] at this
        simp only [show (10 : Int32).toInt = 10 from rfl] at this
        omega
      have e10 : a1 - 10 = nI (k - 10) := by rw [ek, show (10 : Int32) = nI 10 from rfl, nI_sub kp]
      obtain ⟨g, s, q1, q2, q3⟩ := model (fun (x11 : Int32) (h12 : PH) => if a1 = 0 then some (x11, h12) else ck (a1 - 10) 6 <| some (h12 140 (ix (a1 - 10)), h12))
      rw [q1, if_neg c, e10, ck_nI (by omega) (by decide), show ix (nI (k - 10)) = k - 10 from nI_clamp (by omega), q3 (k - 10) (by omega)] at e2
      rw [if_neg (by rw [ek, Int32.lt_iff_toInt_lt, nI_toInt k2]; simp only [show (10 : Int32).toInt = 10 from rfl]; omega), e10, en, if_pos (nI_lt (by omega) (by omega))] at e1
      have la := la22 h i.1 m (by omega) en hX hY M Mlt (k - 10) (by omega) FU 0 m 0 0 0 (-1) s (by unfold FU; omega) (by omega) (by omega) (by decide) (rmO_m m (by omega)) z0 z1 (fun l hl => by
        have := mnF_all ((plO m m 0).map (evO (fun k => h 29 (2 * k)) (fun k => h 29 (2 * k + 1)) 0 0)) 100000000 _ (List.mem_map.mpr ⟨l, hl, rfl⟩)
        rw [hM] at this
        exact this) q2
      rw [nI_0, if_neg (by omega), Nat.sub_zero] at la
      unfold mK_loafAt at e1
      rw [db, bd_e, la, bd_e] at e1
      cases e1
      cases e2
      rfl
    · rw [isIn_n f1, bd_e, if_pos rfl] at e2
      cases e2
      by_cases c2 : a1 < 10
      · rw [if_pos c2] at e1
        cases e1
        rfl
      · rw [if_neg c2, en] at e1
        have nl : ¬ a1 - 10 < nI m := fun q => by
          have l10 : 10 ≤ a1 := Int32.not_lt.mp c2
          have r10 : R 10 2147483647 a1 := le_lo (show R 10 10 (10 : Int32) from ⟨by decide, by decide⟩) (r_full _) l10
          have s10 := i_sub r10 (show R 10 10 (10 : Int32) from ⟨by decide, by decide⟩) (by decide)
          simp only [show (10 : Int32).toInt = 10 from rfl] at s10
          rw [Int32.lt_iff_toInt_lt, s10, nI_toInt m2] at q
          refine f1 ⟨l10, ?_⟩
          rw [Int32.le_iff_toInt_le, nI_toInt (by omega)]
          omega
        rw [if_neg nl] at e1
        cases e1
        rfl
end
section
/-! THE STEP of this claim's law -/
def II (h : PH) : Prop := IM h ∧ GI h ∧ RLA h
theorem st_state (a1 : Int32) (h : PH) (ii : II h) : ∃ h2, pc_state a1 h = some h2 ∧ II h2 := by
  obtain ⟨rX, h1, rm, h2, e1, e2, cs, rl, ag⟩ := rl_state a1 h ii.1 ii.2.1 ii.2.2
  refine ⟨h2, ?_, cs.1, cs.2.1, rl⟩
  unfold pc_state
  rw [e1, bd2_e, e2, bd2_e]
theorem st_house (a1 a2 a3 : Int32) (h : PH) (ii : II h) : ∃ h2, pc_house a1 a2 a3 h = some h2 ∧ II h2 := by
  obtain ⟨rX, h1, rm, h2, e1, e2, cs, rl, ag⟩ := rl_house a1 a2 a3 h ii.1 ii.2.1 ii.2.2
  refine ⟨h2, ?_, cs.1, cs.2.1, rl⟩
  unfold pc_house
  rw [e1, bd2_e, e2, bd2_e]
theorem st_set (a1 a2 a3 : Int32) (h : PH) (ii : II h) : ∃ h2, pc_set a1 a2 a3 h = some h2 ∧ II h2 := by
  obtain ⟨rX, h1, rm, h2, e1, e2, cs, rl, ag⟩ := rl_set a1 a2 a3 h ii.1 ii.2.1 ii.2.2
  refine ⟨h2, ?_, cs.1, cs.2.1, rl⟩
  unfold pc_set
  rw [e1, bd2_e, e2, bd2_e]
theorem st_act (a1 a2 a3 : Int32) (h : PH) (ii : II h) : ∃ h2, pc_act a1 a2 a3 h = some h2 ∧ II h2 := by
  obtain ⟨rX, h1, rm, h2, e1, e2, cs, rl, ag⟩ := rl_act a1 a2 a3 h ii.1 ii.2.1 ii.2.2
  refine ⟨h2, ?_, cs.1, cs.2.1, rl⟩
  unfold pc_act
  rw [e1, bd2_e, e2, bd2_e]
theorem st_quarters (a1 : Int32) (h : PH) (ii : II h) : ∃ h2, pc_quarters a1 h = some h2 ∧ II h2 := by
  obtain ⟨rX, h1, rm, h2, e1, e2, cs, rl, ag⟩ := rl_quarters a1 h ii.1 ii.2.1 ii.2.2
  refine ⟨h2, ?_, cs.1, cs.2.1, rl⟩
  unfold pc_quarters
  rw [e1, bd2_e, e2, bd2_e]
theorem st_feed (a1 a2 a3 a4 a5 : Int32) (h : PH) (ii : II h) : ∃ h2, pc_feed a1 a2 a3 a4 a5 h = some h2 ∧ II h2 := by
  obtain ⟨rX, h1, rm, h2, e1, e2, cs, rl, ag⟩ := rl_feed a1 a2 a3 a4 a5 h ii.1 ii.2.1 ii.2.2
  refine ⟨h2, ?_, cs.1, cs.2.1, rl⟩
  unfold pc_feed
  rw [e1, bd2_e, e2, bd2_e]
theorem st_end (a1 : Int32) (h : PH) (ii : II h) : ∃ h2, pc_end a1 h = some h2 ∧ II h2 := by
  obtain ⟨rX, h1, rm, h2, e1, e2, cs, rl, ag⟩ := rl_end a1 h ii.1 ii.2.1 ii.2.2
  refine ⟨h2, ?_, cs.1, cs.2.1, rl⟩
  unfold pc_end
  rw [e1, bd2_e, e2, bd2_e]
theorem st_text (a1 : Int32) (h : PH) (ii : II h) : ∃ h2, pc_text a1 h = some h2 ∧ II h2 := by
  obtain ⟨rX, h1, rm, h2, e1, e2, cs, rl, ag⟩ := rl_text a1 h ii.1 ii.2.1 ii.2.2
  refine ⟨h2, ?_, cs.1, cs.2.1, rl⟩
  unfold pc_text
  rw [e1, bd2_e, e2, bd2_e]
theorem st_fault (a1 : Int32) (h : PH) (ii : II h) : ∃ h2, pc_fault a1 h = some h2 ∧ II h2 := by
  obtain ⟨rX, rm, h2, e1, e2, cs, rl, ag⟩ := rl_fault a1 h ii.1 ii.2.1 ii.2.2
  refine ⟨h2, ?_, cs.1, cs.2.1, rl⟩
  unfold pc_fault
  rw [e1, bd_e, e2, bd2_e]
theorem st_of (a1 a2 : Int32) (h : PH) (ii : II h) : ∃ h2, pc_of a1 a2 h = some h2 ∧ II h2 := by
  obtain ⟨rX, h1, rm, h2, e1, e2, cs, rl, ag⟩ := rl_of a1 a2 h ii.1 ii.2.1 ii.2.2
  refine ⟨h2, ?_, cs.1, cs.2.1, rl⟩
  unfold pc_of
  rw [e1, bd2_e, e2, bd2_e]
theorem st_book (a1 a2 : Int32) (h : PH) (ii : II h) : ∃ h2, pc_book a1 a2 h = some h2 ∧ II h2 := by
  obtain ⟨rX, rm, h2, e1, e2, cs, rl, ag⟩ := rl_book a1 a2 h ii.1 ii.2.1 ii.2.2
  refine ⟨h2, ?_, cs.1, cs.2.1, rl⟩
  unfold pc_book
  rw [e1, bd_e, e2, bd2_e]
theorem st_goes (a1 a2 : Int32) (h : PH) (ii : II h) : ∃ h2, pc_goes a1 a2 h = some h2 ∧ II h2 := by
  obtain ⟨rX, h1, rm, h2, e1, e2, cs, rl, ag⟩ := rl_goes a1 a2 h ii.1 ii.2.1 ii.2.2
  refine ⟨h2, ?_, cs.1, cs.2.1, rl⟩
  unfold pc_goes
  rw [e1, bd2_e, e2, bd2_e]
theorem st_stands (a1 : Int32) (h : PH) (ii : II h) : ∃ h2, pc_stands a1 h = some h2 ∧ II h2 := by
  obtain ⟨rX, h1, rm, h2, e1, e2, cs, rl, ag⟩ := rl_stands a1 h ii.1 ii.2.1 ii.2.2
  refine ⟨h2, ?_, cs.1, cs.2.1, rl⟩
  unfold pc_stands
  rw [e1, bd2_e, e2, bd2_e]
theorem st_hears (a1 a2 : Int32) (h : PH) (ii : II h) : ∃ h2, pc_hears a1 a2 h = some h2 ∧ II h2 := by
  obtain ⟨rX, h1, rm, h2, e1, e2, cs, rl, ag⟩ := rl_hears a1 a2 h ii.1 ii.2.1 ii.2.2
  refine ⟨h2, ?_, cs.1, cs.2.1, rl⟩
  unfold pc_hears
  rw [e1, bd2_e, e2, bd2_e]
theorem st_heard (a1 a2 : Int32) (h : PH) (ii : II h) : ∃ h2, pc_heard a1 a2 h = some h2 ∧ II h2 := by
  obtain ⟨rX, h1, rm, h2, e1, e2, cs, rl, ag⟩ := rl_heard a1 a2 h ii.1 ii.2.1 ii.2.2
  refine ⟨h2, ?_, cs.1, cs.2.1, rl⟩
  unfold pc_heard
  rw [e1, bd2_e, e2, bd2_e]
theorem st_ants (a1 a2 : Int32) (h : PH) (ii : II h) : ∃ h2, pc_ants a1 a2 h = some h2 ∧ II h2 := by
  obtain ⟨rX, h1, rm, h2, e1, e2, cs, rl, ag⟩ := rl_ants a1 a2 h ii.1 ii.2.1 ii.2.2
  refine ⟨h2, ?_, cs.1, cs.2.1, rl⟩
  unfold pc_ants
  rw [e1, bd2_e, e2, bd2_e]
theorem st_piece (a1 : Int32) (h : PH) (ii : II h) : ∃ h2, pc_piece a1 h = some h2 ∧ II h2 := by
  obtain ⟨rX, h1, rm, h2, e1, e2, cs, rl, ag⟩ := rl_piece a1 h ii.1 ii.2.1 ii.2.2
  refine ⟨h2, ?_, cs.1, cs.2.1, rl⟩
  unfold pc_piece
  rw [e1, bd2_e, e2, bd2_e]
theorem st_plate (a1 a2 : Int32) (h : PH) (ii : II h) : ∃ h2, pc_plate a1 a2 h = some h2 ∧ II h2 := by
  obtain ⟨rX, rm, h2, e1, e2, cs, rl, ag⟩ := rl_plate a1 a2 h ii.1 ii.2.1 ii.2.2
  refine ⟨h2, ?_, cs.1, cs.2.1, rl⟩
  unfold pc_plate
  rw [e1, bd_e, e2, bd2_e]
theorem st_dough (a1 : Int32) (h : PH) (ii : II h) : ∃ h2, pc_dough a1 h = some h2 ∧ II h2 := by
  obtain ⟨rX, h1, rm, h2, e1, e2, cs, rl, ag⟩ := rl_dough a1 h ii.1 ii.2.1 ii.2.2
  refine ⟨h2, ?_, cs.1, cs.2.1, rl⟩
  unfold pc_dough
  rw [e1, bd2_e, e2, bd2_e]
theorem st_pans (a1 a2 : Int32) (h : PH) (ii : II h) : ∃ h2, pc_pans a1 a2 h = some h2 ∧ II h2 := by
  obtain ⟨rX, h1, rm, h2, e1, e2, cs, rl, ag⟩ := rl_pans a1 a2 h ii.1 ii.2.1 ii.2.2
  refine ⟨h2, ?_, cs.1, cs.2.1, rl⟩
  unfold pc_pans
  rw [e1, bd2_e, e2, bd2_e]
theorem st_mortgage (a1 a2 a3 a4 : Int32) (h : PH) (ii : II h) : ∃ h2, pc_mortgage a1 a2 a3 a4 h = some h2 ∧ II h2 := by
  obtain ⟨rX, rm, h2, e1, e2, cs, rl, ag⟩ := rl_mortgage a1 a2 a3 a4 h ii.1 ii.2.1 ii.2.2
  refine ⟨h2, ?_, cs.1, cs.2.1, rl⟩
  unfold pc_mortgage
  rw [e1, bd_e, e2, bd2_e]
theorem st_mark (a1 : Int32) (h : PH) (ii : II h) : ∃ h2, pc_mark a1 h = some h2 ∧ II h2 := by
  obtain ⟨rX, h1, rm, h2, e1, e2, cs, rl, ag⟩ := rl_mark a1 h ii.1 ii.2.1 ii.2.2
  refine ⟨h2, ?_, cs.1, cs.2.1, rl⟩
  unfold pc_mark
  rw [e1, bd2_e, e2, bd2_e]
theorem st_measures (a1 : Int32) (h : PH) (ii : II h) : ∃ h2, pc_measures a1 h = some h2 ∧ II h2 := by
  obtain ⟨rX, rm, h2, e1, e2, cs, rl, ag⟩ := rl_measures a1 h ii.1 ii.2.1 ii.2.2
  refine ⟨h2, ?_, cs.1, cs.2.1, rl⟩
  unfold pc_measures
  rw [e1, bd_e, e2, bd2_e]
theorem st_bite (a1 a2 : Int32) (h : PH) (ii : II h) : ∃ h2, pc_bite a1 a2 h = some h2 ∧ II h2 := by
  obtain ⟨rX, h1, rm, h2, e1, e2, cs, rl, ag⟩ := rl_bite a1 a2 h ii.1 ii.2.1 ii.2.2
  refine ⟨h2, ?_, cs.1, cs.2.1, rl⟩
  unfold pc_bite
  rw [e1, bd2_e, e2, bd2_e]
theorem st_whose (a1 a2 : Int32) (h : PH) (ii : II h) : ∃ h2, pc_whose a1 a2 h = some h2 ∧ II h2 := by
  obtain ⟨rX, rm, h2, e1, e2, cs, rl, ag⟩ := rl_whose a1 a2 h ii.1 ii.2.1 ii.2.2
  refine ⟨h2, ?_, cs.1, cs.2.1, rl⟩
  unfold pc_whose
  rw [e1, bd_e, e2, bd2_e]
theorem st_crumb (a1 : Int32) (h : PH) (ii : II h) : ∃ h2, pc_crumb a1 h = some h2 ∧ II h2 := by
  obtain ⟨rX, h1, rm, h2, e1, e2, cs, rl, ag⟩ := rl_crumb a1 h ii.1 ii.2.1 ii.2.2
  refine ⟨h2, ?_, cs.1, cs.2.1, rl⟩
  unfold pc_crumb
  rw [e1, bd2_e, e2, bd2_e]
theorem st_crumbs (a1 : Int32) (h : PH) (ii : II h) : ∃ h2, pc_crumbs a1 h = some h2 ∧ II h2 := by
  obtain ⟨rX, h1, rm, h2, e1, e2, cs, rl, ag⟩ := rl_crumbs a1 h ii.1 ii.2.1 ii.2.2
  refine ⟨h2, ?_, cs.1, cs.2.1, rl⟩
  unfold pc_crumbs
  rw [e1, bd2_e, e2, bd2_e]
theorem st_loaf (a1 a2 : Int32) (h : PH) (ii : II h) : ∃ h2, pc_loaf a1 a2 h = some h2 ∧ II h2 := by
  obtain ⟨rX, h1, rm, h2, e1, e2, cs, rl, ag⟩ := rl_loaf a1 a2 h ii.1 ii.2.1 ii.2.2
  refine ⟨h2, ?_, cs.1, cs.2.1, rl⟩
  unfold pc_loaf
  rw [e1, bd2_e, e2, bd2_e]
theorem st_ovens (a1 : Int32) (h : PH) (ii : II h) : ∃ h2, pc_ovens a1 h = some h2 ∧ II h2 := by
  obtain ⟨rX, rm, h2, e1, e2, cs, rl, ag⟩ := rl_ovens a1 h ii.1 ii.2.1 ii.2.2
  refine ⟨h2, ?_, cs.1, cs.2.1, rl⟩
  unfold pc_ovens
  rw [e1, bd_e, e2, bd2_e, if_pos (ag_ovens a1 h ii.1 ii.2.2 e1 e2)]
theorem st_alone (a1 : Int32) (h : PH) (ii : II h) : ∃ h2, pc_alone a1 h = some h2 ∧ II h2 := by
  obtain ⟨rX, h1, rm, h2, e1, e2, cs, rl, ag⟩ := rl_alone a1 h ii.1 ii.2.1 ii.2.2
  refine ⟨h2, ?_, cs.1, cs.2.1, rl⟩
  unfold pc_alone
  rw [e1, bd2_e, e2, bd2_e]
theorem st_heir (a1 a2 : Int32) (h : PH) (ii : II h) : ∃ h2, pc_heir a1 a2 h = some h2 ∧ II h2 := by
  obtain ⟨rX, h1, rm, h2, e1, e2, cs, rl, ag⟩ := rl_heir a1 a2 h ii.1 ii.2.1 ii.2.2
  refine ⟨h2, ?_, cs.1, cs.2.1, rl⟩
  unfold pc_heir
  rw [e1, bd2_e, e2, bd2_e]
theorem st_line (a1 a2 : Int32) (h : PH) (ii : II h) : ∃ h2, pc_line a1 a2 h = some h2 ∧ II h2 := by
  obtain ⟨rX, rm, h2, e1, e2, cs, rl, ag⟩ := rl_line a1 a2 h ii.1 ii.2.1 ii.2.2
  refine ⟨h2, ?_, cs.1, cs.2.1, rl⟩
  unfold pc_line
  rw [e1, bd_e, e2, bd2_e]
theorem st_window (a1 : Int32) (h : PH) (ii : II h) : ∃ h2, pc_window a1 h = some h2 ∧ II h2 := by
  obtain ⟨rX, rm, h2, e1, e2, cs, rl, ag⟩ := rl_window a1 h ii.1 ii.2.1 ii.2.2
  refine ⟨h2, ?_, cs.1, cs.2.1, rl⟩
  unfold pc_window
  rw [e1, bd_e, e2, bd2_e]
theorem st_member (a1 a2 : Int32) (h : PH) (ii : II h) : ∃ h2, pc_member a1 a2 h = some h2 ∧ II h2 := by
  obtain ⟨rX, h1, rm, h2, e1, e2, cs, rl, ag⟩ := rl_member a1 a2 h ii.1 ii.2.1 ii.2.2
  refine ⟨h2, ?_, cs.1, cs.2.1, rl⟩
  unfold pc_member
  rw [e1, bd2_e, e2, bd2_e]
theorem st_council (a1 : Int32) (h : PH) (ii : II h) : ∃ h2, pc_council a1 h = some h2 ∧ II h2 := by
  obtain ⟨rX, rm, h2, e1, e2, cs, rl, ag⟩ := rl_council a1 h ii.1 ii.2.1 ii.2.2
  refine ⟨h2, ?_, cs.1, cs.2.1, rl⟩
  unfold pc_council
  rw [e1, bd_e, e2, bd2_e]
theorem st_game (a1 a2 : Int32) (h : PH) (ii : II h) : ∃ h2, pc_game a1 a2 h = some h2 ∧ II h2 := by
  obtain ⟨rX, h1, rm, h2, e1, e2, cs, rl, ag⟩ := rl_game a1 a2 h ii.1 ii.2.1 ii.2.2
  refine ⟨h2, ?_, cs.1, cs.2.1, rl⟩
  unfold pc_game
  rw [e1, bd2_e, e2, bd2_e]
theorem st_undo (h : PH) (ii : II h) : ∃ h2, pc_undo h = some h2 ∧ II h2 := by
  obtain ⟨rX, h1, rm, h2, e1, e2, cs, rl, ag⟩ := rl_undo h ii.1 ii.2.1 ii.2.2
  refine ⟨h2, ?_, cs.1, cs.2.1, rl⟩
  unfold pc_undo
  rw [e1, bd2_e, e2, bd2_e]
theorem st_image (a1 : Int32) (h : PH) (ii : II h) : ∃ h2, pc_image a1 h = some h2 ∧ II h2 := by
  obtain ⟨rX, h1, rm, h2, e1, e2, cs, rl, ag⟩ := rl_image a1 h ii.1 ii.2.1 ii.2.2
  refine ⟨h2, ?_, cs.1, cs.2.1, rl⟩
  unfold pc_image
  rw [e1, bd2_e, e2, bd2_e]
theorem st_look (a1 : Int32) (h : PH) (ii : II h) : ∃ h2, pc_look a1 h = some h2 ∧ II h2 := by
  obtain ⟨rX, rm, h2, e1, e2, cs, rl, ag⟩ := rl_look a1 h ii.1 ii.2.1 ii.2.2
  refine ⟨h2, ?_, cs.1, cs.2.1, rl⟩
  unfold pc_look
  rw [e1, bd_e, e2, bd2_e]
theorem st_if {c : Prop} [Decidable c] {a b : Option PH} {P : PH → Prop} (h1 : c → ∃ h2, a = some h2 ∧ P h2) (h2 : ¬ c → ∃ h2, b = some h2 ∧ P h2) : ∃ h2, (if c then a else b) = some h2 ∧ P h2 := by
  by_cases h : c
  · rw [if_pos h]; exact h1 h
  · rw [if_neg h]; exact h2 h
theorem st_all (o a1 a2 a3 a4 a5 : Int32) (h : PH) (ii : II h) : ∃ h2, stp o a1 a2 a3 a4 a5 h = some h2 ∧ II h2 := by
  unfold stp
  refine st_if (fun _ => st_state a1 h ii) (fun _ => ?_)
  refine st_if (fun _ => st_house a1 a2 a3 h ii) (fun _ => ?_)
  refine st_if (fun _ => st_set a1 a2 a3 h ii) (fun _ => ?_)
  refine st_if (fun _ => st_act a1 a2 a3 h ii) (fun _ => ?_)
  refine st_if (fun _ => st_quarters a1 h ii) (fun _ => ?_)
  refine st_if (fun _ => st_feed a1 a2 a3 a4 a5 h ii) (fun _ => ?_)
  refine st_if (fun _ => st_end a1 h ii) (fun _ => ?_)
  refine st_if (fun _ => st_text a1 h ii) (fun _ => ?_)
  refine st_if (fun _ => st_fault a1 h ii) (fun _ => ?_)
  refine st_if (fun _ => st_of a1 a2 h ii) (fun _ => ?_)
  refine st_if (fun _ => st_book a1 a2 h ii) (fun _ => ?_)
  refine st_if (fun _ => st_goes a1 a2 h ii) (fun _ => ?_)
  refine st_if (fun _ => st_stands a1 h ii) (fun _ => ?_)
  refine st_if (fun _ => st_hears a1 a2 h ii) (fun _ => ?_)
  refine st_if (fun _ => st_heard a1 a2 h ii) (fun _ => ?_)
  refine st_if (fun _ => st_ants a1 a2 h ii) (fun _ => ?_)
  refine st_if (fun _ => st_piece a1 h ii) (fun _ => ?_)
  refine st_if (fun _ => st_plate a1 a2 h ii) (fun _ => ?_)
  refine st_if (fun _ => st_dough a1 h ii) (fun _ => ?_)
  refine st_if (fun _ => st_pans a1 a2 h ii) (fun _ => ?_)
  refine st_if (fun _ => st_mortgage a1 a2 a3 a4 h ii) (fun _ => ?_)
  refine st_if (fun _ => st_mark a1 h ii) (fun _ => ?_)
  refine st_if (fun _ => st_measures a1 h ii) (fun _ => ?_)
  refine st_if (fun _ => st_bite a1 a2 h ii) (fun _ => ?_)
  refine st_if (fun _ => st_whose a1 a2 h ii) (fun _ => ?_)
  refine st_if (fun _ => st_crumb a1 h ii) (fun _ => ?_)
  refine st_if (fun _ => st_crumbs a1 h ii) (fun _ => ?_)
  refine st_if (fun _ => st_loaf a1 a2 h ii) (fun _ => ?_)
  refine st_if (fun _ => st_ovens a1 h ii) (fun _ => ?_)
  refine st_if (fun _ => st_alone a1 h ii) (fun _ => ?_)
  refine st_if (fun _ => st_heir a1 a2 h ii) (fun _ => ?_)
  refine st_if (fun _ => st_line a1 a2 h ii) (fun _ => ?_)
  refine st_if (fun _ => st_window a1 h ii) (fun _ => ?_)
  refine st_if (fun _ => st_member a1 a2 h ii) (fun _ => ?_)
  refine st_if (fun _ => st_council a1 h ii) (fun _ => ?_)
  refine st_if (fun _ => st_game a1 a2 h ii) (fun _ => ?_)
  refine st_if (fun _ => st_undo h ii) (fun _ => ?_)
  refine st_if (fun _ => st_image a1 h ii) (fun _ => ?_)
  refine st_if (fun _ => st_look a1 h ii) (fun _ => ?_)
  exact ⟨h, rfl, ii⟩
end
