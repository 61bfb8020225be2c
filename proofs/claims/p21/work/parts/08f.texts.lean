section TX
variable {G : GG} {M : MM} {d pc pc' : Nat} {L : List (Option Value)} {st : List Value} {h h' : PH} {v : Option Value}
theorem LV.of2 {ls : Array Slot} {nL : Nat} {L : List (Option Value)} {i : Nat} {x : Value} (h : lv_has ls nL ((i, x) :: (aL L).filter (fun q => !(q.1 == i) && (!(q.1 == i + 1) && !(q.1 + 1 == i && q.2.category == 2))))) (hk : okS L i = true) : LV ls nL ((L.set i (some x)).set (i + 1) none) := by
  refine ⟨h.1, h.2.1, fun j w hj => ?_⟩
  by_cases h1 : j = i + 1
  · subst h1
    by_cases hl : i + 1 < (L.set i (some x)).length
    · rw [List.getElem?_set_self hl] at hj; cases hj
    · rw [List.getElem?_eq_none (by simpa using Nat.not_lt.mp hl)] at hj; cases hj
  · rw [List.getElem?_set_ne (Ne.symm h1)] at hj
    by_cases hji : j = i
    · subst hji
      have hl : j < L.length := by simpa using (List.getElem?_eq_some_iff.mp hj).1
      rw [List.getElem?_set_self hl] at hj
      cases hj
      exact h.2.2 (j, x) List.mem_cons_self
    · rw [List.getElem?_set_ne (Ne.symm hji)] at hj
      refine h.2.2 (j, w) (List.mem_cons_of_mem _ (List.mem_filter.mpr ⟨aL_mem.mpr hj, ?_⟩))
      have h2 : ¬ (j + 1 = i ∧ w.category = 2) := by
        rintro ⟨e1, e2⟩
        subst e1
        simp only [okS, hj] at hk
        rw [e2] at hk
        exact absurd hk (by decide)
      simp only [Bool.and_eq_true, Bool.not_eq_true', beq_eq_false_iff_ne, ne_eq, Bool.and_eq_false_iff]
      refine ⟨hji, h1, ?_⟩
      by_cases e1 : j + 1 = i
      · right; exact fun e2 => h2 ⟨e1, e2⟩
      · left; exact e1
theorem v_lstore {i : Nat} {x : Int64} (hd : dl M pc .lstore_n .lstore i pc') (hn : i + 1 < M.2.2.1) (hk : okS L i = true) (k : Vx G M d pc' ((L.set i (some (.long x))).set (i + 1) none) st h v h') : Vx G M d pc L (.long x :: st) h v h' := by
  intro p e s m args below meth c C H locs ls hR hS hL
  rcases hd with ⟨k0, hd, e1, rfl⟩ | ⟨hd, rfl⟩
  · exact lv_lstore_n C.1 C.2.1 hd e1 hL.has hn rfl (fun ls' hl' => k p e s m args below meth c C H locs ls' hR hS (LV.of2 hl' hk))
  · exact lv_lstore C.1 C.2.1 hd hL.has hn rfl (fun ls' hl' => k p e s m args below meth c C H locs ls' hR hS (LV.of2 hl' hk))
theorem v_lst_0 {a0 a1 : Option Value} {t : List (Option Value)} {x : Int64} (hd : dl M pc .lstore_n .lstore 0 pc') (hn : 0 + 1 < M.2.2.1) (k : Vx G M d pc' (some (.long x) :: none :: t) st h v h') : Vx G M d pc (a0 :: a1 :: t) (.long x :: st) h v h' := v_lstore hd hn rfl k
theorem v_lst_1 {a0 a1 a2 : Option Value} {t : List (Option Value)} {x : Int64} (hd : dl M pc .lstore_n .lstore 1 pc') (hn : 1 + 1 < M.2.2.1) (hk : okS (a0 :: a1 :: a2 :: t) 1 = true) (k : Vx G M d pc' (a0 :: some (.long x) :: none :: t) st h v h') : Vx G M d pc (a0 :: a1 :: a2 :: t) (.long x :: st) h v h' := v_lstore hd hn hk k
theorem v_lcmp {x y : Int64} (hd : dn M pc .lcmp 1 pc') (k : Vx G M d pc' L (.int (lg_cmp x y) :: st) h v h') : Vx G M d pc L (.long y :: .long x :: st) h v h' := by
  obtain ⟨hd, rfl⟩ := hd
  intro p e s m args below meth c C H locs ls hR hS hL
  exact W.lcmp C.1 C.2.1 hd (k p e s m args below meth c C H locs ls hR hS hL)
theorem v_ladd {x y : Int64} (hd : dn M pc .ladd 1 pc') (k : Vx G M d pc' L (.long (x + y) :: st) h v h') : Vx G M d pc L (.long y :: .long x :: st) h v h' := by
  obtain ⟨hd, rfl⟩ := hd
  intro p e s m args below meth c C H locs ls hR hS hL
  exact lv_ladd C.1 C.2.1 hd (k p e s m args below meth c C H locs ls hR hS hL)
theorem v_lsub {x y : Int64} (hd : dn M pc .lsub 1 pc') (k : Vx G M d pc' L (.long (x - y) :: st) h v h') : Vx G M d pc L (.long y :: .long x :: st) h v h' := by
  obtain ⟨hd, rfl⟩ := hd
  intro p e s m args below meth c C H locs ls hR hS hL
  exact lv_lsub C.1 C.2.1 hd (k p e s m args below meth c C H locs ls hR hS hL)
end TX
