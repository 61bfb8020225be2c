/-! SAFETY of the model's reader: the draft -/
theorem im_draft {h : PH} {c j : Nat} (v : Int32) (i : IM h) (hc : ((c = 118 ∨ c = 119) ∧ 400 ≤ j) ∨ ((114 ≤ c ∧ c ≤ 117) ∧ 16 ≤ j)) : IM (up h c j v) := by
  obtain ⟨i1, i2, i3⟩ := i
  have hs : sp c j = rF := by
    have h6 : c = 114 ∨ c = 115 ∨ c = 116 ∨ c = 117 ∨ c = 118 ∨ c = 119 := by omega
    rcases h6 with q | q | q | q | q | q <;> subst q <;> rfl
  have at1 : ∀ x l, (x = c → l ≠ j) → up h c j v x l = h x l := fun x l hx => by
    by_cases q : x = c
    · subst q; exact up_oj (hx rfl)
    · exact up_oc q
  have lmr : R 0 16 (h 113 0) := inv_rng i1 rfl
  refine ⟨inv_up i1 (by rw [hs]; exact r_full v), LawF_c i2 lmr.2 (at1 113 0 (fun q => by omega)) (fun l hl => ⟨at1 115 l (fun q => by omega), at1 116 l (fun q => by omega), at1 117 l (fun q => by omega)⟩) (fun k hk => ⟨at1 118 k (fun q => by omega), at1 119 k (fun q => by omega)⟩), ?_⟩
  have e : up h c j v 148 = h 148 := funext fun q => at1 148 q (fun w => by omega)
  unfold LawImg
  rw [e]
  exact i3
/-- one code is written behind the draft -/
def emO (h : PH) (c : Nat) (x v : Int32) : PH := up (up (up h 118 (800 + c) x) 119 (800 + c) v) 104 25 (nI (c + 1))
theorem emits_at (h : PH) (c : Nat) (hc : c < 400) (e : h 104 25 = nI c) (x v : Int32) : mm_emits x v h = some (emO h c x v) := by
  unfold mm_emits
  have e8 : 800 + nI c = nI (800 + c) := nI_add 800 c
  have ixc : ix (nI (800 + c)) = 800 + c := nI_clamp (by omega)
  have e1 : up h 118 (800 + c) x 104 25 = nI c := by rw [up_oc (by decide)]; exact e
  have e2 : up (up h 118 (800 + c) x) 119 (800 + c) v 104 25 = nI c := by rw [up_oc (by decide)]; exact e1
  rw [e, e8, ck_nI (by omega) (by omega), lt_e, ixc, e1, e8, ck_nI (by omega) (by omega), lt_e, ixc, lt_e, e2, nI_1]
  rfl
theorem im_emO {h : PH} (i : IM h) (c : Nat) (x v : Int32) : IM (emO h c x v) := im_put (im_draft v (im_draft x i (Or.inl ⟨Or.inl rfl, by omega⟩)) (Or.inl ⟨Or.inr rfl, by omega⟩)) (show sp 104 25 = (-2147483648, 2147483647) from rfl) (r_full _) (by decide)
theorem emO_c {h : PH} {c : Nat} {x v : Int32} : emO h c x v 104 25 = nI (c + 1) := up_same
theorem emO_104 {h : PH} {c : Nat} {x v : Int32} {j : Nat} (hj : j ≠ 25) : emO h c x v 104 j = h 104 j := by
  unfold emO
  rw [up_oj hj, up_oc (by decide), up_oc (by decide)]
theorem emO_op {h : PH} {c : Nat} {x v : Int32} : emO h c x v 118 (800 + c) = x ∧ emO h c x v 119 (800 + c) = v := by
  unfold emO
  constructor
  · rw [up_oc (by decide), up_oc (by decide), up_same]
  · rw [up_oc (by decide), up_same]
theorem emO_lo {h : PH} {c : Nat} {x v : Int32} (k : Nat) (hk : k < c) : emO h c x v 118 (800 + k) = h 118 (800 + k) ∧ emO h c x v 119 (800 + k) = h 119 (800 + k) := by
  unfold emO
  constructor
  · rw [up_oc (by decide), up_oc (by decide), up_oj (by omega)]
  · rw [up_oc (by decide), up_oj (by omega), up_oc (by decide)]
theorem emO_b {h : PH} {c : Nat} {x v : Int32} (b : Nat) (h1 : b ≠ 104) (h2 : b ≠ 118) (h3 : b ≠ 119) : emO h c x v b = h b := by
  unfold emO
  funext j
  rw [up_oc h1, up_oc h3, up_oc h2]
/-- the draft's code from f on brings the stack from nothing to d -/
def dOp (h : PH) : Nat → Int32 := fun k => h 118 (800 + k)
def dAr (h : PH) : Nat → Int32 := fun k => h 119 (800 + k)
theorem dep_app (op arg : Nat → Int32) (f : Nat) : ∀ (m n k d : Nat), dep op arg f (m + n) k d = bd (dep op arg f m k d) fun d' => dep op arg f n (k + m) d' := by
  intro m
  induction m with
  | zero => intro n k d; rw [Nat.zero_add, Nat.add_zero]; rfl
  | succ m ih =>
    intro n k d
    rw [show m + 1 + n = m + n + 1 by omega, dep, dep]
    cases stC op arg f k d with
    | none => rfl
    | some d1 =>
      rw [bd_e, bd_e, ih, show k + 1 + m = k + (m + 1) by omega]
theorem dep_one {op arg : Nat → Int32} {f m k d d1 d2 : Nat} (h : dep op arg f m k d = some d1) (hs : stC op arg f (k + m) d1 = some d2) : dep op arg f (m + 1) k d = some d2 := by
  rw [dep_app, h, bd_e, dep, hs]
  rfl
