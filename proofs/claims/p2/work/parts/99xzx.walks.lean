/-! WAYS through a street: walks, their costs, and what relaxing comes to -/
def WKc (E : Nat → Nat → Prop) (w op : Nat → Nat → Nat) (s : Nat) : List Nat → Nat → Prop
  | [], _ => False
  | [a], c => a = s ∧ c = 0
  | b :: a :: l, c => E a b ∧ ∃ c', WKc E w op s (a :: l) c' ∧ c = op c' (w a b)
theorem wk_suf {E : Nat → Nat → Prop} {w op : Nat → Nat → Nat} {s : Nat} (oi : ∀ c x, c ≤ op c x) : ∀ (m : List Nat) (c : Nat), WKc E w op s m c → ∀ b, b ∈ m → ∃ m2 c2, WKc E w op s (b :: m2) c2 ∧ c2 ≤ c ∧ ∃ x, m = x ++ (b :: m2) := by
  intro m
  induction m with
  | nil => intro c h; exact absurd h (fun z => z)
  | cons a l ih =>
    intro c h b hb
    cases l with
    | nil =>
      have : b = a := by simpa using hb
      subst this
      exact ⟨[], c, h, Nat.le_refl _, [], rfl⟩
    | cons a2 l =>
      by_cases z : b = a
      · subst z
        exact ⟨a2 :: l, c, h, Nat.le_refl _, [], rfl⟩
      · have hb2 : b ∈ a2 :: l := by
          rcases List.mem_cons.mp hb with y | y
          · exact absurd y z
          · exact y
        obtain ⟨_, c', h', ec⟩ := h
        obtain ⟨m2, c2, q1, q2, x, q3⟩ := ih c' h' b hb2
        have := oi c' (w a2 a)
        exact ⟨m2, c2, q1, by omega, a :: x, by rw [q3]; rfl⟩
theorem wk_nd {E : Nat → Nat → Prop} {w op : Nat → Nat → Nat} {s : Nat} (oi : ∀ c x, c ≤ op c x) (om : ∀ c c' x, c ≤ c' → op c x ≤ op c' x) : ∀ (l : List Nat) (b c : Nat), WKc E w op s (b :: l) c → ∃ l2 c2, WKc E w op s (b :: l2) c2 ∧ c2 ≤ c ∧ (b :: l2).Nodup := by
  intro l
  induction l with
  | nil => intro b c h; exact ⟨[], c, h, Nat.le_refl _, by simp⟩
  | cons a l ih =>
    intro b c h
    obtain ⟨e, c', h', ec⟩ := h
    obtain ⟨l2, c2, q1, q2, q3⟩ := ih a c' h'
    by_cases z : b ∈ a :: l2
    · obtain ⟨m2, c3, r1, r2, x, r3⟩ := wk_suf oi _ _ q1 b z
      have := oi c' (w a b)
      refine ⟨m2, c3, r1, by omega, ?_⟩
      rw [r3] at q3
      exact (List.nodup_append.mp q3).2.1
    · refine ⟨a :: l2, op c2 (w a b), ⟨e, c2, q1, rfl⟩, ?_, List.nodup_cons.mpr ⟨z, q3⟩⟩
      rw [ec]
      exact om _ _ _ q2
/-- as many different ones as there are -/
theorem nd_fl {H : Nat} : ∀ l : List Nat, l.Nodup → l.length ≤ (l.filter (fun x => x != H)).length + 1 := by
  intro l
  induction l with
  | nil => intro _; exact Nat.zero_le _
  | cons a l ih =>
    intro nd
    obtain ⟨n1, n2⟩ := List.nodup_cons.mp nd
    by_cases z : a = H
    · have : l.filter (fun x => x != H) = l := List.filter_eq_self.mpr (fun x hx => by
        have : x ≠ H := fun y => n1 (by rw [z, ← y]; exact hx)
        simpa using this)
      rw [List.filter_cons_of_neg (by simpa using z), this]
      exact Nat.le_refl _
    · rw [List.filter_cons_of_pos (by simpa using z)]
      have := ih n2
      simp only [List.length_cons]
      omega
theorem nd_len : ∀ (H : Nat) (l : List Nat), l.Nodup → (∀ x, x ∈ l → x < H) → l.length ≤ H := by
  intro H
  induction H with
  | zero =>
    intro l _ h
    cases l with
    | nil => exact Nat.le_refl _
    | cons a l => exact absurd (h a List.mem_cons_self) (Nat.not_lt_zero a)
  | succ H ih =>
    intro l nd h
    have a := nd_fl (H := H) l nd
    have b := ih (l.filter (fun x => x != H)) (List.Pairwise.filter _ nd) (fun x hx => by
      obtain ⟨h1, h2⟩ := List.mem_filter.mp hx
      have h3 := h x h1
      have h4 : x ≠ H := by simpa using h2
      omega)
    omega
/-- what a round of relaxing makes sure of -/
def KL (E : Nat → Nat → Prop) (w op : Nat → Nat → Nat) (s I r : Nat) (A : Nat → Nat) : Prop := ∀ l b c, WKc E w op s (b :: l) c → c < I → l.length ≤ r → A b ≤ c
def SO (E : Nat → Nat → Prop) (w op : Nat → Nat → Nat) (s I : Nat) (A : Nat → Nat) : Prop := A s = 0 ∧ ∀ v, A v ≤ I ∧ (A v = I ∨ ∃ l, WKc E w op s (v :: l) (A v))
theorem kl_0 {E : Nat → Nat → Prop} {w op : Nat → Nat → Nat} {s I : Nat} {A : Nat → Nat} (so : SO E w op s I A) : KL E w op s I 0 A := fun l b c h _ hl => by
  cases l with
  | nil =>
    obtain ⟨h1, h2⟩ := h
    subst h1
    rw [so.1]
    exact Nat.zero_le _
  | cons a l => simp at hl
theorem kl_s {E : Nat → Nat → Prop} {w op : Nat → Nat → Nat} {s I r : Nat} {A A' : Nat → Nat} (oi : ∀ c x, c ≤ op c x) (om : ∀ c c' x, c ≤ c' → op c x ≤ op c' x) (so : SO E w op s I A') (k : KL E w op s I r A) (q : ∀ a b, E a b → A a < I → A' b ≤ op (A a) (w a b)) : KL E w op s I (r + 1) A' := fun l b c h hc hl => by
  cases l with
  | nil =>
    obtain ⟨h1, h2⟩ := h
    subst h1
    rw [so.1]
    exact Nat.zero_le _
  | cons a l =>
    obtain ⟨e, c', h', ec⟩ := h
    have o := oi c' (w a b)
    have ka := k l a c' h' (by omega) (by simpa using hl)
    have := q a b e (by omega)
    have := om _ _ (w a b) ka
    omega
/-- one relaxing -/
def rlx (w op : Nat → Nat → Nat) (A : Nat → Nat) (a b : Nat) : Nat → Nat := fun v => if v = b then min (A b) (op (A a) (w a b)) else A v
theorem rlx_le {w op : Nat → Nat → Nat} {A : Nat → Nat} {a b : Nat} (v : Nat) : rlx w op A a b v ≤ A v := by
  unfold rlx
  by_cases z : v = b
  · rw [if_pos z, z]; exact Nat.min_le_left _ _
  · rw [if_neg z]; exact Nat.le_refl _
theorem rlx_b {w op : Nat → Nat → Nat} {A : Nat → Nat} {a b : Nat} : rlx w op A a b b ≤ op (A a) (w a b) := by
  unfold rlx
  rw [if_pos rfl]
  exact Nat.min_le_right _ _
theorem rlx_so {E : Nat → Nat → Prop} {w op : Nat → Nat → Nat} {s I : Nat} {A : Nat → Nat} (oi : ∀ c x, c ≤ op c x) (so : SO E w op s I A) {a b : Nat} (e : E a b) : SO E w op s I (rlx w op A a b) := by
  refine ⟨?_, fun v => ⟨Nat.le_trans (rlx_le v) (so.2 v).1, ?_⟩⟩
  · have := @rlx_le w op A a b s
    rw [so.1] at this
    omega
  · unfold rlx
    by_cases z : v = b
    · rw [if_pos z]
      subst z
      by_cases y : A v ≤ op (A a) (w a v)
      · rw [Nat.min_eq_left y]
        exact (so.2 v).2
      · rw [Nat.min_eq_right (by omega)]
        rcases (so.2 a).2 with q | ⟨l, q⟩
        · have := oi (A a) (w a v)
          have := (so.2 v).1
          omega
        · exact Or.inr ⟨a :: l, e, A a, q, rfl⟩
    · rw [if_neg z]
      exact (so.2 v).2
theorem rlx_I {w op : Nat → Nat → Nat} {A : Nat → Nat} {a b I : Nat} (oi : ∀ c x, c ≤ op c x) (h : A a = I) (hb : A b ≤ I) : rlx w op A a b = A := by
  funext v
  unfold rlx
  by_cases z : v = b
  · rw [if_pos z, z, Nat.min_eq_left]
    have := oi (A a) (w a b)
    omega
  · rw [if_neg z]
/-- a walk of different houses costs little -/
theorem wk_c {E : Nat → Nat → Prop} {w op : Nat → Nat → Nat} {s W : Nat} (ob : ∀ c x, x ≤ W → op c x ≤ c + W) (hw : ∀ a b, E a b → w a b ≤ W) : ∀ (l : List Nat) (b c : Nat), WKc E w op s (b :: l) c → c ≤ W * l.length := by
  intro l
  induction l with
  | nil => intro b c h; rw [h.2]; exact Nat.zero_le _
  | cons a l ih =>
    intro b c h
    obtain ⟨e, c', h', ec⟩ := h
    have := ih a c' h'
    have := ob c' (w a b) (hw a b e)
    rw [List.length_cons, Nat.mul_succ]
    omega
theorem wk_in {E : Nat → Nat → Prop} {w op : Nat → Nat → Nat} {s H : Nat} (hs : s < H) (he : ∀ a b, E a b → b < H) : ∀ (l : List Nat) (b c : Nat), WKc E w op s (b :: l) c → ∀ x, x ∈ b :: l → x < H := by
  intro l
  induction l with
  | nil =>
    intro b c h x hx
    have : x = b := by simpa using hx
    rw [this, h.1]
    exact hs
  | cons a l ih =>
    intro b c h x hx
    obtain ⟨e, c', h', _⟩ := h
    rcases List.mem_cons.mp hx with y | y
    · rw [y]; exact he a b e
    · exact ih a c' h' x y
/-- two that are sound and sure tell the same -/
theorem so_eq {E : Nat → Nat → Prop} {w op : Nat → Nat → Nat} {s H I J r q : Nat} {A M : Nat → Nat} (oi : ∀ c x, c ≤ op c x) (om : ∀ c c' x, c ≤ c' → op c x ≤ op c' x) (ob : ∀ c x, x ≤ 792 → op c x ≤ c + 792) (hw : ∀ a b, E a b → w a b ≤ 792) (hs : s < H) (hH : H ≤ 12) (he : ∀ a b, E a b → b < H) (hI : 10000 ≤ I) (hJ : 10000 ≤ J) (hr : H ≤ r + 1) (hq : H ≤ q + 1) (sA : SO E w op s I A) (kA : KL E w op s I r A) (sM : SO E w op s J M) (kM : KL E w op s J q M) (v : Nat) : (A v = M v ∧ A v < 10000) ∨ (A v = I ∧ M v = J) := by
  have key : ∀ l c, WKc E w op s (v :: l) c → ∃ c2, c2 ≤ c ∧ A v ≤ c2 ∧ M v ≤ c2 ∧ c2 < 10000 := fun l c h => by
    obtain ⟨l2, c2, q1, q2, q3⟩ := wk_nd oi om l v c h
    have len := nd_len H _ q3 (wk_in hs he l2 v c2 q1)
    rw [List.length_cons] at len
    have cc := wk_c ob hw l2 v c2 q1
    have : 792 * l2.length ≤ 792 * 11 := Nat.mul_le_mul_left _ (by omega)
    exact ⟨c2, q2, kA l2 v c2 q1 (by omega) (by omega), kM l2 v c2 q1 (by omega) (by omega), by omega⟩
  rcases (sA.2 v).2 with a | ⟨l, a⟩
  · rcases (sM.2 v).2 with m | ⟨l, m⟩
    · exact Or.inr ⟨a, m⟩
    · obtain ⟨c2, x1, x2, x3, x4⟩ := key l _ m
      omega
  · obtain ⟨c2, x1, x2, x3, x4⟩ := key l _ a
    rcases (sM.2 v).2 with m | ⟨l', m⟩
    · omega
    · obtain ⟨c3, y1, y2, y3, y4⟩ := key l' _ m
      exact Or.inl ⟨by omega, by omega⟩
