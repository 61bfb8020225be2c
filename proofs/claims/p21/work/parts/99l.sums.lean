/-! SAFETY of the model's reader: products and sums -/
theorem frc_tr {c c1 : Nat} {h g f : PH} (hc : c ≤ c1) (a : FRc c h g) (b : FRc c1 g f) : FRc c h f :=
  ⟨fun x h1 h2 h3 => by rw [b.1 x h1 h2 h3]; exact a.1 x h1 h2 h3, fun q hq => by
    obtain ⟨u1, u2⟩ := b.2.1 q (by omega)
    obtain ⟨w1, w2⟩ := a.2.1 q hq
    exact ⟨u1.trans w1, u2.trans w2⟩, fun j h1 h2 h3 h4 h5 h6 h7 => by rw [b.2.2 j h1 h2 h3 h4 h5 h6 h7]; exact a.2.2 j h1 h2 h3 h4 h5 h6 h7⟩
theorem frc_4 {c : Nat} {h g : PH} (a : FR4 h g) : FRc c h g :=
  ⟨fun x h1 _ _ => a.1 x h1, fun q _ => by unfold dOp dAr; rw [a.1 118 (by decide), a.1 119 (by decide)]; exact ⟨rfl, rfl⟩, fun j h1 h2 h3 h4 _ _ _ => a.2 j h1 h2 h3 h4⟩
theorem frc_emO {c : Nat} {h : PH} {x v : Int32} : FRc c h (emO h c x v) :=
  ⟨fun b h1 h2 h3 => emO_b b h1 h2 h3, fun q hq => emO_lo q hq, fun j _ _ _ _ h5 _ _ => emO_104 h5⟩
/-- code below c1 says the same on both heaps -/
theorem dep_lo {h g : PH} {c1 : Nat} (fr : FRc c1 h g) (f : Nat) : ∀ (m k d : Nat), k + m ≤ c1 → dep (dOp g) (dAr g) f m k d = dep (dOp h) (dAr h) f m k d := by
  intro m
  induction m with
  | zero => intro k d _; rfl
  | succ m ih =>
    intro k d hk
    obtain ⟨u1, u2⟩ := fr.2.1 k (by omega)
    obtain ⟨w1, w2⟩ := fr.2.1 (k - 1) (by omega)
    rw [dep, dep]
    have e : stC (dOp g) (dAr g) f k d = stC (dOp h) (dAr h) f k d := by
      unfold stC
      rw [u1, u2, w1, w2]
    rw [e]
    congr 1
    funext d'
    exact ih (k + 1) d' (by omega)
def Up1 (c c' : Nat) (h : PH) : Prop := ∀ f d, f ≤ c → dep (dOp h) (dAr h) f (c' - c) c d = some (d + 1)
def ExpQ (c k : Nat) (h : PH) (r : Int32 × PH) : Prop := (r.1 = -1 ∧ IM r.2) ∨ (r.1 = 0 ∧ ∃ c', c < c' ∧ RS c' k r.2 ∧ FRc c h r.2 ∧ Up1 c c' r.2)
theorem rs_emit {c k : Nat} {h : PH} (st : RS c (k + 1) h) (x v : Int32) : mm_emits x v h = some (emO h c x v) ∧ RS (c + 1) k (emO h c x v) := by
  obtain ⟨i, e, s1, s2, s3, s4⟩ := st
  have t4 := (rtp i).2
  have e12 : emO h c x v 104 12 = h 104 12 := emO_104 (by decide)
  have e11 : emO h c x v 104 11 = h 104 11 := emO_104 (by decide)
  have e13 : emO h c x v 104 13 = h 104 13 := emO_104 (by decide)
  have e14 : emO h c x v 104 14 = h 104 14 := emO_104 (by decide)
  refine ⟨emits_at h c (by omega) e x v, im_emO i c x v, emO_c, by rw [e12, e11]; exact s1, by rw [e13, e12]; exact s2, by rw [e14, e13, e12]; exact s3, ?_⟩
  rw [e13]
  omega
theorem up_unit {c k : Nat} {h : PH} {r : Int32 × PH} (q : RS (c + 1) k r.2) (o : dOp r.2 c = 0 ∨ (dOp r.2 c = 1 ∧ 0 ≤ dAr r.2 c ∧ dAr r.2 c ≤ 11)) (f d : Nat) : stC (dOp r.2) (dAr r.2) f c d = some (d + 1) := by
  unfold stC
  rcases o with w | ⟨w, w1⟩
  · rw [if_pos w]
  · rw [if_neg (by rw [w]; decide), if_pos w, if_pos w1]
