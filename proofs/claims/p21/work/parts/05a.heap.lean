/-! FIELDS, ARRAYS, CALLS, ANSWERS over the pure heap -/
def shOk (t : Nat × Nat) : Bool := !(decide (t.1 < 20)) || ((clsL[t.1]?.map fun r => r.2.2) == some t.2)
theorem shL_ok : shL.all shOk = true := by decide +kernel
theorem sh_n {a ci n : Nat} {C : String} {T : u_T} {N : Nat} (ha : shL[a]? = some (ci, n)) (hc : clsL[ci]? = some (C, T, N)) (hlt : ci < 20) : n = N := by
  have h := List.all_eq_true.mp shL_ok _ (List.mem_of_getElem? ha)
  simp only [shOk, hc, hlt, decide_true, Bool.not_true, Bool.false_or, Option.map_some, beq_iff_eq, Option.some.injEq] at h
  exact h.symm
/-- what is known of each class -/
def clK (r : vw_C) : Prop := (∀ w ∈ u_ws r.1 r.2.1 r.2.2, w ∈ tb) ∧ (∃ ty : Nat → FieldType, ∀ k, k < r.2.2 → parseFieldDescriptor (r.2.1 k).2.2.1 = some (ty k)) ∧ (∀ a, a < r.2.2 → ∀ b, b < r.2.2 → a ≠ b → (r.2.1 a).2.1 ≠ (r.2.1 b).2.1)
theorem u_good {C : String} {T : u_T} {N : Nat} : ∀ w ∈ u_ws C T N, goodWord w = true := by
  intro w hw
  obtain ⟨k, -, rfl⟩ := List.mem_map.mp hw
  unfold u_lay
  split <;> rfl
theorem clK_of {C : String} {T : u_T} {N : Nat} {ty : Nat → FieldType} (h1 : ∀ w ∈ u_ws C T N, w ∈ lw_tbl) (h2 : ∀ k, k < N → parseFieldDescriptor (T k).2.2.1 = some (ty k)) (h3 : ∀ a, a < N → ∀ b, b < N → a ≠ b → (T a).2.1 ≠ (T b).2.1) : clK (C, T, N) :=
  ⟨fun w hw => tb_in (h1 w hw) (u_good w hw), ⟨ty, h2⟩, h3⟩
