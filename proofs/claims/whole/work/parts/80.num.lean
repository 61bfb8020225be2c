/-! NUMBERS AND HEAPS: how the pure step is computed -/
theorem up_at (h : PH) (a j : Nat) (x : Int32) (b i : Nat) : up h a j x b i = if b = a then (if i = j then x else h a i) else h b i := by
  unfold up setC upd
  by_cases hb : b = a
  · subst hb; simp
  · simp [hb]
theorem ck_in {ρ : Type} {i : Int32} {n : Nat} {k : Option ρ} (h : vp_in i n) : ck i n k = k := by
  unfold ck; exact if_neg h
theorem ck_nI {ρ : Type} {i n : Nat} {k : Option ρ} (h : i < n) (hn : n < 2 ^ 31) : ck (nI i) n k = k := ck_in (vp_in_nI h hn)
theorem ps_state {h : PH} {a : Int32} (e : h 1 7 = h 105 1) : pc_state a h = some (up (up (up (up (up h 1 7 a) 70 3 0) 104 0 0) 105 1 a) 104 3 0) := by
  have c1 : ∀ {ρ : Type} {k : Option ρ}, ck 1 115 k = k := fun {_ _} => ck_nI (i := 1) (by decide) (by decide)
  have i1 : ix 1 = 1 := rfl
  simp only [pc_state, mX_state, mm_state, mP_forget, bd, bd2, lt, c1, i1, up_at, e]
  simp
theorem ps_fault {h : PH} {a : Int32} (e1 : h 90 2 = h 104 31) (e2 : h 90 3 = h 104 32) : pc_fault a h = some (up h 104 0 0) := by
  simp only [pc_fault, mX_fault, mm_fault, bd, bd2, lt, up_at, e1, e2]
  by_cases c0 : a = 0
  · simp [c0]
  · by_cases c1 : a = 1
    · simp [c0, c1]
    · simp [c0, c1]
