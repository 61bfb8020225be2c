/-! THE CONSTRUCTORS: a world that grows; cell a is F a, for a < n. Printed by wip/gen/p64.py -/
abbrev CE : Type := Nat × Nat × List Value × (Nat → Int32) × (Nat → Option Nat)
abbrev CF : Type := Nat → CE
def sF (F : CF) (a : Nat) (c : CE) : CF := fun b => if b = a then c else F b
def rv (B : Nat) (v : Value) : Value := match v with
  | .ref a => .ref (B + a)
  | v => v
def ceE (B : Nat) (cA : Nat → ClassId) (c : CE) : va_E :=
  if c.1 < 20 then .inr (c.1, c.2.2.1.map (rv B))
  else if c.1 = 22 then .inl (cA 2, c.2.1, .inr (.inr (.inr (.inr (fun j => (c.2.2.2.2 j).map (B + ·))))))
  else .inl (cA (c.1 - 20), c.2.1, .inl c.2.2.2.1)
def wn (B : Nat) (cA : Nat → ClassId) (n : Nat) (F : CF) : va_W := (List.range n).map fun a => (B + a, ceE B cA (F a))
theorem wn_at {B : Nat} {cA : Nat → ClassId} {n a : Nat} {F : CF} (h : a < n) : (wn B cA n F)[a]? = some (B + a, ceE B cA (F a)) := by
  simp [wn, h]
theorem wn_inv {B : Nat} {cA : Nat → ClassId} {n a : Nat} {F : CF} {q : Nat × va_E} (hq : (wn B cA n F)[a]? = some q) : a < n ∧ q = (B + a, ceE B cA (F a)) := by
  have hl : a < n := by simpa [wn] using (List.getElem?_eq_some_iff.mp hq).1
  rw [wn_at hl] at hq
  exact ⟨hl, (Option.some.inj hq).symm⟩
theorem wn_D (B : Nat) (cA : Nat → ClassId) (n : Nat) (F : CF) : va_D (fun q => B ≤ q) (wn B cA n F) := by
  refine ⟨fun i j p q hi hj e => ?_, fun k q hk => ?_⟩
  · obtain ⟨-, rfl⟩ := wn_inv hi
    obtain ⟨-, rfl⟩ := wn_inv hj
    exact Nat.add_left_cancel e
  · obtain ⟨-, rfl⟩ := wn_inv hk
    exact Nat.le_add_right B k
theorem wn_set {B : Nat} {cA : Nat → ClassId} {n a : Nat} {F : CF} {c : CE} {e : va_E} (h : a < n) (he : ceE B cA c = e) : (wn B cA n F).set a (B + a, e) = wn B cA n (sF F a c) := by
  apply List.ext_getElem?
  intro i
  by_cases hi : i = a
  · subst hi
    rw [List.getElem?_set_self (by simpa [wn] using h), wn_at h]
    simp [sF, he]
  · rw [List.getElem?_set_ne (Ne.symm hi)]
    by_cases hn : i < n
    · rw [wn_at hn, wn_at hn]; simp [sF, hi]
    · simp [wn, hn]
theorem wn_push {B : Nat} {cA : Nat → ClassId} {n : Nat} {F : CF} {c : CE} {e : va_E} (he : ceE B cA c = e) : wn B cA n F ++ [(B + n, e)] = wn B cA (n + 1) (sF F n c) := by
  apply List.ext_getElem?
  intro i
  have hlen : (wn B cA n F).length = n := by simp [wn]
  by_cases hn : i < n
  · rw [List.getElem?_append_left (by rw [hlen]; exact hn), wn_at hn, wn_at (by omega)]
    simp [sF, Nat.ne_of_lt hn]
  · by_cases hi : i = n
    · subst hi
      rw [List.getElem?_append_right (by rw [hlen]; exact Nat.le_refl _), hlen, Nat.sub_self, wn_at (by omega)]
      simp [sF, he]
    · rw [List.getElem?_eq_none (by simp [hlen]; omega), List.getElem?_eq_none (by simp [wn]; omega)]
def rmc (d mc ms : Nat) : Room := { frames := d + 1, cells := mc, slots := ms, locals := 64 * (d + 1) }
def nsL2 : List (String × Nat × MethodName) := [("GingerRents", 9, ⟨"GingerRents$Borough", "<init>", "()V"⟩), ("GingerRents", 12, ⟨"GingerRents$Told", "<init>", "()V"⟩), ("GingerRents$Past", 19, ⟨"GingerRents$Borough", "<init>", "()V"⟩), ("GingerRents", 65, ⟨"GingerRents$Tape", "<init>", "()V"⟩), ("GingerRents", 81, ⟨"GingerRents$Street", "<init>", "()V"⟩), ("GingerRents", 88, ⟨"GingerRents$Kitchen", "<init>", "()V"⟩), ("GingerRents", 95, ⟨"GingerRents$Slab", "<init>", "()V"⟩)]
def NS2 (U : State) : Prop := (∀ q ∈ nsL2, va_Nw (.methodLinkNest q.1 q.2.1 q.2.2 "GingerRents") U) ∧ va_AO "GingerRents$Borough" U
theorem NS2.warm {s U : State} (hW : s.WarmedH U.vm) (h : NS2 s) : NS2 U := ⟨fun q hq => va_Nw.warmM hW (h.1 q hq), h.2.moved hW.alike⟩
