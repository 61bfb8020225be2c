/-! THE PAST: what is kept is a town, too: RTT over heaps in which the kept town stands where the town stands -/
theorem mi_b : ∀ i, i < 12 → ∀ c, c < 11 → (mc c = 108 ∨ mc c = 109) → mi i c < 12 := by decide +kernel
theorem tb_cg {A : Nat → Prop} {H : Nat} {hc hm gc gm : PH} (t : TW A H hc hm) (c1 : ∀ j, 1 ≤ j → j ≤ 7 → gc 1 j = hc 1 j) (c2 : ∀ j, j < 132 → gc 2 j = hc 2 j) (m6 : gm 104 6 = hm 104 6) (m5 : ∀ j, j < 115 → gm 105 j = hm 105 j) (m8 : ∀ j, j < 12 → gm 108 j = hm 108 j) (m9 : ∀ j, j < 12 → gm 109 j = hm 109 j) : TW A H gc gm := by
  obtain ⟨t1, t2, t3, t4, t5, t6⟩ := t
  refine ⟨t1, by rw [c1 1 (by decide) (by decide)]; exact t2, by rw [m6]; exact t3, fun f f1 f2 => ?_, fun i c hi hcc ha => ?_, fun i c hi hc4 => ?_⟩
  · rw [c1 f (by omega) (by omega), m5 _ (by have := (sf_r f f2 f1).1; omega)]
    exact t4 f f1 f2
  · rw [c2 _ (by omega), t5 i c hi hcc ha]
    have b := mi_b i (by omega) c hcc
    rcases (mi_r i (by omega) c hcc).2.2 with e | e | e
    · rw [e, m5 _ (mi_r i (by omega) c hcc).1]
    · rw [e, m8 _ (b (Or.inl e))]
    · rw [e, m9 _ (b (Or.inr e))]
  · rw [c2 _ (by omega)]
    exact t6 i c hi hc4
theorem bk_cg {B : BKT} {hc hm gc gm : PH} (b : BKr B hc hm) (c0 : gc 16 0 = hc 16 0) (c1 : gc 16 1 = hc 16 1) (c3 : gc 16 3 = hc 16 3) (c7 : ∀ j, j < 600 → gc 17 j = hc 17 j) (m2 : gm 105 2 = hm 105 2) (m10 : ∀ j, j < 600 → gm 110 j = hm 110 j) : BKr B gc gm := by
  obtain ⟨n, n1, n2, n3, n4, n5, n6, n7⟩ := b
  exact ⟨n, n1, by rw [c0]; exact n2, by rw [c1]; exact n3, by rw [c3]; exact n4, by rw [m2]; exact n5, fun j hj => by rw [c7 j (by omega), m10 j (by omega)]; exact n6 j hj, n7.1, fun j hj => by have := n7.1; rw [c7 j (by omega)]; exact n7.2 j hj⟩
/-- RTT speaks of these cells alone -/
theorem rt_cg {B : BKT} {A : Nat → Prop} {H b : Nat} {Ls : LNS} {hc hm gc gm : PH} (r : RTT A H b Ls B hc hm) (c1 : ∀ j, 1 ≤ j → j ≤ 7 → gc 1 j = hc 1 j) (c2 : ∀ j, j < 132 → gc 2 j = hc 2 j) (cl : ∀ x, 6 ≤ x → x ≤ 9 → gc x = hc x) (c14 : gc 14 = hc 14) (c15 : gc 15 = hc 15) (c60 : gc 16 0 = hc 16 0) (c61 : gc 16 1 = hc 16 1) (c63 : gc 16 3 = hc 16 3) (c7 : ∀ j, j < 600 → gc 17 j = hc 17 j) (c68 : gc 68 3 = hc 68 3) (m45 : gm 104 5 = hm 104 5) (m46 : gm 104 6 = hm 104 6) (m5 : ∀ j, j < 115 → gm 105 j = hm 105 j) (m8 : ∀ j, j < 12 → gm 108 j = hm 108 j) (m9 : ∀ j, j < 12 → gm 109 j = hm 109 j) (m10 : ∀ j, j < 600 → gm 110 j = hm 110 j) (ml : ∀ x, 113 ≤ x → x ≤ 119 → gm x = hm x) (m23 : gm 123 = hm 123) : RTT A H b Ls B gc gm := by
  obtain ⟨q1, q2, q3, q4, q5, q6, q7⟩ := r
  have h12 := q1.1
  refine ⟨tb_cg q1 c1 c2 m46 m5 m8 m9, ⟨q2.1, q2.2.1, q2.2.2.1, lwc_of q2.2.2.2.1 cl, lwm_of q2.2.2.2.2 ml⟩, bk_cg q3 c60 c61 c63 c7 (m5 2 (by decide)) m10, fun k hk => ?_, by rw [c68]; exact q5, by rw [m45]; exact q6, ld_of q7 (fun i hi => c2 _ (by omega))⟩
  rw [nx_fr c14 c15, m23]
  exact q4 k hk
/-- where the kept town e stands for the town; where the kept row j stands for now -/
def pC (e : Nat) (h : PH) : PH := fun b => if b = 1 then h (73 + 2 * e) else if b = 2 then h (74 + 2 * e) else if b = 16 then (fun j => if j = 3 then h 72 e else h 16 j) else h b
def pM (j : Nat) (h : PH) : PH := fun b => if b = 105 then (fun x => h 106 (115 * j + x)) else h b
theorem pC_1 (e : Nat) (h : PH) : pC e h 1 = h (73 + 2 * e) := rfl
theorem pC_2 (e : Nat) (h : PH) : pC e h 2 = h (74 + 2 * e) := rfl
theorem pC_3 (e : Nat) (h : PH) : pC e h 16 3 = h 72 e := rfl
theorem pC_6 (e : Nat) (h : PH) {j : Nat} (hj : j ≠ 3) : pC e h 16 j = h 16 j := by
  change (if j = 3 then h 72 e else h 16 j) = _
  rw [if_neg hj]
theorem pC_o (e : Nat) (h : PH) {b : Nat} (h1 : b ≠ 1) (h2 : b ≠ 2) (h3 : b ≠ 16) : pC e h b = h b := by
  unfold pC
  rw [if_neg h1, if_neg h2, if_neg h3]
theorem pM_5 (j : Nat) (h : PH) (x : Nat) : pM j h 105 x = h 106 (115 * j + x) := rfl
theorem pM_o (j : Nat) (h : PH) {b : Nat} (h1 : b ≠ 105) : pM j h b = h b := by
  unfold pM
  rw [if_neg h1]
def B0 : BKT := (0, fun _ => 0)
def PK (H b : Nat) (Ls : LNS) (u s : Nat) (hc hm : PH) : Prop := u ≤ 6 ∧ s < 6 ∧ hc 70 2 = nI s ∧ hc 70 3 = nI u ∧ hm 104 3 = nI u ∧ (∀ j, j < u → RTT AA H b Ls B0 (pC ((s + j) % 6) hc) (pM j hm) ∧ hc 72 ((s + j) % 6) ≤ hc 16 3) ∧ ∀ i j, i < j → j < u → hc 72 ((s + i) % 6) ≤ hc 72 ((s + j) % 6)
/-- a kept town stays one while its cells, the texts, the book's old lines stay -/
theorem rt_kept {B : BKT} {H b : Nat} {Ls : LNS} {hc hm gc gm : PH} {e f j k : Nat} (r : RTT AA H b Ls B (pC e hc) (pM j hm)) (c1 : ∀ x, 1 ≤ x → x ≤ 7 → gc (73 + 2 * f) x = hc (73 + 2 * e) x) (c2 : ∀ x, x < 132 → gc (74 + 2 * f) x = hc (74 + 2 * e) x) (cn : gc 72 f = hc 72 e) (cl : ∀ x, 6 ≤ x → x ≤ 9 → gc x = hc x) (c14 : gc 14 = hc 14) (c15 : gc 15 = hc 15) (c60 : gc 16 0 = hc 16 0) (c61 : gc 16 1 = hc 16 1) (c7 : ∀ x, x < 600 → gc 17 x = hc 17 x) (c68 : gc 68 3 = hc 68 3) (m45 : gm 104 5 = hm 104 5) (m46 : gm 104 6 = hm 104 6) (m5 : ∀ x, x < 115 → gm 106 (115 * k + x) = hm 106 (115 * j + x)) (m8 : ∀ x, x < 12 → gm 108 x = hm 108 x) (m9 : ∀ x, x < 12 → gm 109 x = hm 109 x) (m10 : ∀ x, x < 600 → gm 110 x = hm 110 x) (ml : ∀ x, 113 ≤ x → x ≤ 119 → gm x = hm x) (m23 : gm 123 = hm 123) : RTT AA H b Ls B (pC f gc) (pM k gm) := by
  refine rt_cg r c1 c2 (fun x x1 x2 => ?_) ?_ ?_ ?_ ?_ cn (fun x hx => ?_) ?_ ?_ ?_ m5 (fun x hx => ?_) (fun x hx => ?_) (fun x hx => ?_) (fun x x1 x2 => ?_) ?_
  · rw [pC_o f gc (by omega) (by omega) (by omega), pC_o e hc (by omega) (by omega) (by omega)]; exact cl x x1 x2
  · rw [pC_o f gc (by decide) (by decide) (by decide), pC_o e hc (by decide) (by decide) (by decide)]; exact c14
  · rw [pC_o f gc (by decide) (by decide) (by decide), pC_o e hc (by decide) (by decide) (by decide)]; exact c15
  · rw [pC_6 f gc (by decide), pC_6 e hc (by decide)]; exact c60
  · rw [pC_6 f gc (by decide), pC_6 e hc (by decide)]; exact c61
  · rw [pC_o f gc (by decide) (by decide) (by decide), pC_o e hc (by decide) (by decide) (by decide)]; exact c7 x hx
  · rw [pC_o f gc (by decide) (by decide) (by decide), pC_o e hc (by decide) (by decide) (by decide)]; exact c68
  · rw [pM_o k gm (by decide), pM_o j hm (by decide)]; exact m45
  · rw [pM_o k gm (by decide), pM_o j hm (by decide)]; exact m46
  · rw [pM_o k gm (by decide), pM_o j hm (by decide)]; exact m8 x hx
  · rw [pM_o k gm (by decide), pM_o j hm (by decide)]; exact m9 x hx
  · rw [pM_o k gm (by decide), pM_o j hm (by decide)]; exact m10 x hx
  · rw [pM_o k gm (by omega), pM_o j hm (by omega)]; exact ml x x1 x2
  · rw [pM_o k gm (by decide), pM_o j hm (by decide)]; exact m23
