/-! THE TOWN on both sides: houses and their columns -/
def sf (f : Nat) : Nat := [9, 9, 3, 4, 5, 6, 0, 1].getD f 9
def mc (c : Nat) : Nat := if c = 4 then 108 else if c = 5 then 109 else 105
def mi (i c : Nat) : Nat := if c < 4 then 7 + 4 * i + c else if c = 4 then i else if c = 5 then i else if c = 6 then 55 + i else if c = 7 then 79 + i else if c = 8 then 67 + i else if c = 9 then 91 + i else 103 + i
theorem mi_inj' : ∀ x, x < 132 → ∀ y, y < 132 → mc (x % 11) = mc (y % 11) → mi (x / 11) (x % 11) = mi (y / 11) (y % 11) → x = y := by decide +kernel
theorem mi_inj : ∀ i, i < 12 → ∀ c, c < 11 → ∀ k, k < 12 → ∀ d, d < 11 → mc c = mc d → mi i c = mi k d → i = k ∧ c = d := by
  intro i hi c hc k hk d hd e1 e2
  have z := mi_inj' (11 * i + c) (by omega) (11 * k + d) (by omega)
  rw [show (11 * i + c) % 11 = c by omega, show (11 * k + d) % 11 = d by omega, show (11 * i + c) / 11 = i by omega, show (11 * k + d) / 11 = k by omega] at z
  have := z e1 e2
  omega
theorem mi_r : ∀ i, i < 12 → ∀ c, c < 11 → mi i c < 115 ∧ (mc c = 105 → 7 ≤ mi i c) ∧ (mc c = 105 ∨ mc c = 108 ∨ mc c = 109) := by decide +kernel
theorem sf_r : ∀ f, f < 8 → 2 ≤ f → sf f < 7 ∧ sf f ≠ 2 ∧ ∀ g, g < 8 → 2 ≤ g → sf f = sf g → f = g := by decide +kernel
/-- H houses, the same on both sides -/
def AA : Nat → Prop := fun _ => True
def TW (A : Nat → Prop) (H : Nat) (hc hm : PH) : Prop := H ≤ 12 ∧ hc 1 1 = nI H ∧ hm 104 6 = nI H ∧ (∀ f, 2 ≤ f → f < 8 → hc 1 f = hm 105 (sf f)) ∧ (∀ i c, i < H → c < 11 → (c = 10 → A i) → hc 2 (11 * i + c) = hm (mc c) (mi i c)) ∧ ∀ i c, i < H → c < 4 → R 0 99 (hc 2 (11 * i + c))
theorem tb_of {A : Nat → Prop} {H : Nat} {hc hm gc gm : PH} (t : TW A H hc hm) (c1 : gc 1 = hc 1) (c2 : gc 2 = hc 2) (m6 : gm 104 6 = hm 104 6) (m5 : gm 105 = hm 105) (m8 : gm 108 = hm 108) (m9 : gm 109 = hm 109) : TW A H gc gm := by
  obtain ⟨t1, t2, t3, t4, t5, t6⟩ := t
  unfold TW
  rw [c1, c2, m6, m5]
  refine ⟨t1, t2, t3, t4, fun i c hi hc' ha => ?_, t6⟩
  rw [t5 i c hi hc' ha]
  rcases (mi_r i (by omega) c hc').2.2 with e | e | e <;> rw [e]
  · rw [m5]
  · rw [m8]
  · rw [m9]
theorem rdB {A : Nat → Prop} {H : Nat} {hc hm : PH} (t : TW A H hc hm) {i c : Nat} (hi : i < H) (hcc : c < 11) : mB_read 1 (nI i) (nI c) hc = some (hc 2 (11 * i + c)) := by
  have h12 := t.1
  unfold mB_read
  rw [if_neg (nI_pos (by omega)), t.2.1, if_neg (nI_ge hi (by omega)), if_neg (nI_pos (by omega)), if_pos (show nI c < (11 : Int32) from nI_lt (b := 11) hcc (by decide)), show nI i * (11 : Int32) = nI (i * 11) from nI_mul i 11, nI_add, ck_nI (by omega) (by decide), show ix (nI (i * 11 + c)) = i * 11 + c from nI_clamp (by omega), Nat.mul_comm i 11]
theorem wrB {A : Nat → Prop} {H : Nat} {hc hm : PH} (t : TW A H hc hm) {i c : Nat} (hi : i < H) (hcc : c < 11) (v : Int32) : mB_write 1 (nI i) (nI c) v hc = some (up hc 2 (11 * i + c) v) := by
  have h12 := t.1
  unfold mB_write
  rw [if_neg (nI_pos (by omega)), t.2.1, if_neg (nI_ge hi (by omega)), if_neg (nI_pos (by omega)), if_neg (show ¬ (11 : Int32) ≤ nI c from nI_ge (b := 11) hcc (by decide)), show nI i * (11 : Int32) = nI (i * 11) from nI_mul i 11, nI_add, ck_nI (by omega) (by decide), lt_e, show ix (nI (i * 11 + c)) = i * 11 + c from nI_clamp (by omega), Nat.mul_comm i 11]
/-- both sides write the same -/
theorem tb_wr {A : Nat → Prop} {H : Nat} {hc hm : PH} (t : TW A H hc hm) {i c : Nat} (hi : i < H) (hcc : c < 11) (v : Int32) (hv : c < 4 → R 0 99 v) : TW A H (up hc 2 (11 * i + c) v) (up hm (mc c) (mi i c) v) := by
  obtain ⟨t1, t2, t3, t4, t5, t6⟩ := t
  obtain ⟨r1, r2, r3⟩ := mi_r i (by omega) c hcc
  have n104 : (104 : Nat) ≠ mc c := by omega
  refine ⟨t1, by rw [up_oc (by decide)]; exact t2, by rw [up_oc n104]; exact t3, fun f f1 f2 => ?_, fun k d hk hd ha => ?_, fun k d hk hd => ?_⟩
  · rw [up_oc (by decide), t4 f f1 f2]
    have s := (sf_r f f2 f1).1
    by_cases e : mc c = 105
    · rw [e, up_oj (by have := r2 e; omega)]
    · rw [up_oc (fun z => e z.symm)]
  · by_cases e : k = i ∧ d = c
    · rw [e.1, e.2, up_same, up_same]
    · rw [up_oj (by omega), t5 k d hk hd ha]
      by_cases e2 : mc d = mc c
      · rw [e2, up_oj (fun z => e ⟨(mi_inj k (by omega) d hd i (by omega) c hcc e2 z).1, (mi_inj k (by omega) d hd i (by omega) c hcc e2 z).2⟩)]
      · rw [up_oc e2]
  · by_cases e : k = i ∧ d = c
    · rw [e.1, e.2, up_same]
      exact hv (by omega)
    · rw [up_oj (by omega)]
      exact t6 k d hk hd
/-- a number of the borough -/
theorem tb_f {A : Nat → Prop} {H : Nat} {hc hm : PH} (t : TW A H hc hm) {f : Nat} (f1 : 2 ≤ f) (f2 : f < 8) (v : Int32) : TW A H (up hc 1 f v) (up hm 105 (sf f) v) := by
  obtain ⟨t1, t2, t3, t4, t5, t6⟩ := t
  have s := sf_r f f2 f1
  refine ⟨t1, by rw [up_oj (by omega)]; exact t2, by rw [up_oc (by decide)]; exact t3, fun g g1 g2 => ?_, fun k d hk hd ha => ?_, fun k d hk hd => by rw [up_oc (by decide)]; exact t6 k d hk hd⟩
  · by_cases e : g = f
    · rw [e, up_same, up_same]
    · rw [up_oj e, up_oj (fun z => e ((sf_r g g2 g1).2.2 f f2 f1 z)), t4 g g1 g2]
  · rw [up_oc (by decide), t5 k d hk hd ha]
    obtain ⟨r1, r2, r3⟩ := mi_r k (by omega) d hd
    by_cases e : mc d = 105
    · rw [e, up_oj (by have := r2 e; omega)]
    · rw [up_oc e]
theorem wlM {A : Nat → Prop} {H : Nat} {hc hm : PH} (t : TW A H hc hm) {i w : Nat} (hi : i < H) (hw : w < 4) : mm_wallOf (nI i) (nI w) hm = some (hc 2 (11 * i + w)) := by
  have h12 := t.1
  have e := t.2.2.2.2.1 i w hi (by omega) (fun z => by omega)
  unfold mm_wallOf
  rw [show (4 : Int32) * nI i = nI (4 * i) from nI_mul 4 i, show (7 : Int32) + nI (4 * i) = nI (7 + 4 * i) from nI_add 7 _, nI_add, ck_nI (by omega) (by decide), show ix (nI (7 + 4 * i + w)) = 7 + 4 * i + w from nI_clamp (by omega), e]
  unfold mc mi
  rw [if_neg (by omega), if_neg (by omega), if_pos hw]
theorem heM (v : Int32) (h : PH) (hv : R 0 99 v) : mm_held v 0 99 h = some v := by
  obtain ⟨k, k1, k2, ek⟩ := nat_of hv (by decide)
  unfold mm_held
  rw [ek, if_pos (show (0 : Int32) ≤ nI k from nI_le (a := 0) (by omega) (by omega)), if_pos (show nI k ≤ (99 : Int32) from nI_le (b := 99) (by omega) (by decide))]
theorem hwM {A : Nat → Prop} {H : Nat} {hc hm : PH} (t : TW A H hc hm) {i w : Nat} (hi : i < H) (hw : w < 4) (v : Int32) (hv : R 0 99 v) : mm_hasWall (nI i) (nI w) v hm = some (up hm (mc w) (mi i w) v) := by
  have h12 := t.1
  unfold mm_hasWall
  rw [heM v hm hv, bd_e, show (4 : Int32) * nI i = nI (4 * i) from nI_mul 4 i, show (7 : Int32) + nI (4 * i) = nI (7 + 4 * i) from nI_add 7 _, nI_add, ck_nI (by omega) (by decide), lt_e, show ix (nI (7 + 4 * i + w)) = 7 + 4 * i + w from nI_clamp (by omega)]
  have e1 : mc w = 105 := by unfold mc; rw [if_neg (by omega), if_neg (by omega)]
  have e2 : mi i w = 7 + 4 * i + w := by unfold mi; rw [if_pos hw]
  rw [e1, e2]
/-- the model's columns behind the walls -/
theorem colM {A : Nat → Prop} {H : Nat} {hc hm : PH} (t : TW A H hc hm) {i : Nat} (hi : i < H) : hm 108 i = hc 2 (11 * i + 4) ∧ hm 109 i = hc 2 (11 * i + 5) ∧ hm 105 (55 + i) = hc 2 (11 * i + 6) ∧ hm 105 (79 + i) = hc 2 (11 * i + 7) ∧ hm 105 (67 + i) = hc 2 (11 * i + 8) ∧ hm 105 (91 + i) = hc 2 (11 * i + 9) ∧ (A i → hm 105 (103 + i) = hc 2 (11 * i + 10)) := by
  have e := fun c h ha => t.2.2.2.2.1 i c hi h ha
  exact ⟨(e 4 (by decide) (fun z => by omega)).symm, (e 5 (by decide) (fun z => by omega)).symm, (e 6 (by decide) (fun z => by omega)).symm, (e 7 (by decide) (fun z => by omega)).symm, (e 8 (by decide) (fun z => by omega)).symm, (e 9 (by decide) (fun z => by omega)).symm, fun ha => (e 10 (by decide) (fun _ => ha)).symm⟩
/-- what a house's walls come to -/
def sm4 (hc : PH) (i : Nat) : Int32 := ((hc 2 (11 * i) + hc 2 (11 * i + 1)) + hc 2 (11 * i + 2)) + hc 2 (11 * i + 3)
theorem suB {A : Nat → Prop} {H : Nat} {hc hm : PH} (t : TW A H hc hm) {i : Nat} (hi : i < H) : mB_sumOf 1 (nI i) hc = some (sm4 hc i) := by
  have h12 := t.1
  unfold mB_sumOf
  rw [if_neg (nI_pos (by omega)), t.2.1, if_pos (nI_lt hi (by omega)), lt_e, show nI i * (11 : Int32) = nI (i * 11) from nI_mul i 11, Nat.mul_comm i 11, show nI (11 * i) + (1 : Int32) = nI (11 * i + 1) from nI_add _ 1, show nI (11 * i) + (2 : Int32) = nI (11 * i + 2) from nI_add _ 2, show nI (11 * i) + (3 : Int32) = nI (11 * i + 3) from nI_add _ 3, ck_nI (by omega) (by decide), ck_nI (by omega) (by decide), ck_nI (by omega) (by decide), ck_nI (by omega) (by decide), show ix (nI (11 * i)) = 11 * i from nI_clamp (by omega), show ix (nI (11 * i + 1)) = 11 * i + 1 from nI_clamp (by omega), show ix (nI (11 * i + 2)) = 11 * i + 2 from nI_clamp (by omega), show ix (nI (11 * i + 3)) = 11 * i + 3 from nI_clamp (by omega)]
  rfl
theorem suM {A : Nat → Prop} {H : Nat} {hc hm : PH} (t : TW A H hc hm) {i : Nat} (hi : i < H) : mm_sumOf (nI i) hm = some (sm4 hc i) := by
  unfold mm_sumOf
  rw [show mm_wallOf (nI i) 0 hm = _ from wlM t hi (w := 0) (by decide), bd_e, show mm_wallOf (nI i) 1 hm = _ from wlM t hi (w := 1) (by decide), bd_e, show mm_wallOf (nI i) 2 hm = _ from wlM t hi (w := 2) (by decide), bd_e, show mm_wallOf (nI i) 3 hm = _ from wlM t hi (w := 3) (by decide), bd_e]
  rfl
def upI (hc : PH) (i : Nat) : Int32 := if sm4 hc i ≤ 0 then 0 else 1
theorem isBB {A : Nat → Prop} {H : Nat} {hc hm : PH} (t : TW A H hc hm) {i : Nat} (hi : i < H) : mB_isUp 1 (nI i) hc = some (upI hc i) := by
  unfold mB_isUp upI
  rw [suB t hi, bd_e]
  split <;> rfl
theorem isM {A : Nat → Prop} {H : Nat} {hc hm : PH} (t : TW A H hc hm) {i : Nat} (hi : i < H) : mm_doesStand (nI i) hm = some (upI hc i) := by
  unfold mm_doesStand upI
  rw [suM t hi, bd_e]
  split <;> rfl
/-- the thickest wall -/
def tkF (h : PH) (i : Nat) : Nat → Nat → Nat → Nat
  | 0, b, _ => b
  | f + 1, b, w => tkF h i f (if h 2 (11 * i + w) ≤ h 2 (11 * i + b) then b else w) (w + 1)
def tkv (h : PH) (i : Nat) : Nat := tkF h i 3 0 1
theorem th_sim {A : Nat → Prop} {H : Nat} {hc hm : PH} (t : TW A H hc hm) {i : Nat} (hi : i < H) : ∀ (f n b w : Nat), f + w = 4 → f < n → b < 4 → mB_thickest_L4 1 (nI i) hc n (nI b) (nI w) = some (nI (tkF hc i f b w)) ∧ mm_thickest_L4 (nI i) hm n (nI b) (nI w) = some (nI (tkF hc i f b w)) ∧ tkF hc i f b w < 4 := by
  intro f
  induction f with
  | zero =>
    intro n b w h1 h2 h3
    cases n with
    | zero => omega
    | succ n =>
      have w4 : w = 4 := by omega
      subst w4
      rw [mB_thickest_L4, mm_thickest_L4, if_pos (by decide), if_pos (by decide), tkF]
      exact ⟨rfl, rfl, h3⟩
  | succ f ih =>
    intro n b w h1 h2 h3
    cases n with
    | zero => omega
    | succ n =>
      have hw : ¬ (4 : Int32) ≤ nI w := nI_ge (b := 4) (by omega) (by decide)
      rw [mB_thickest_L4, mm_thickest_L4, if_neg hw, if_neg hw, rdB t hi (show w < 11 by omega), bd_e, rdB t hi (show b < 11 by omega), bd_e, wlM t hi (show w < 4 by omega), bd_e, wlM t hi h3, bd_e, nI_1, tkF]
      by_cases d : hc 2 (11 * i + w) ≤ hc 2 (11 * i + b)
      · rw [if_pos d, if_pos d, if_pos d]
        exact ih n b (w + 1) (by omega) (by omega) h3
      · rw [if_neg d, if_neg d, if_neg d]
        exact ih n w (w + 1) (by omega) (by omega) (by omega)
theorem th_at {A : Nat → Prop} {H : Nat} {hc hm : PH} (t : TW A H hc hm) {i : Nat} (hi : i < H) : mB_thickest 1 (nI i) hc = some (nI (tkv hc i)) ∧ mm_thickest (nI i) hm = some (nI (tkv hc i)) ∧ tkv hc i < 4 :=
  th_sim t hi 3 FU 0 1 rfl (by unfold FU; omega) (by decide)
theorem tk_fr {h g : PH} {i : Nat} (e : ∀ w, w < 4 → g 2 (11 * i + w) = h 2 (11 * i + w)) : tkv g i = tkv h i := by
  have go : ∀ (f b w : Nat), f + w = 4 → b < 4 → tkF g i f b w = tkF h i f b w := by
    intro f
    induction f with
    | zero => intro b w _ _; rfl
    | succ f ih =>
      intro b w h1 h2
      rw [tkF, tkF, e w (by omega), e b h2]
      exact ih _ (w + 1) (by omega) (by split <;> omega)
  exact go 3 0 1 rfl (by decide)
/-- it is as thick as any -/
theorem tk_max {h : PH} {i : Nat} : ∀ w, w < 4 → h 2 (11 * i + w) ≤ h 2 (11 * i + tkv h i) := by
  have tr : ∀ a b c : Int32, a ≤ b → b ≤ c → a ≤ c := fun a b c x y => Int32.le_trans x y
  have rf : ∀ a : Int32, a ≤ a := fun a => Int32.le_refl a
  have go : ∀ (f b w : Nat), f + w = 4 → b < 4 → (∀ k, k < w → h 2 (11 * i + k) ≤ h 2 (11 * i + b)) → ∀ k, k < 4 → h 2 (11 * i + k) ≤ h 2 (11 * i + tkF h i f b w) := by
    intro f
    induction f with
    | zero =>
      intro b w h1 h2 h3 k hk
      exact h3 k (by omega)
    | succ f ih =>
      intro b w h1 h2 h3
      rw [tkF]
      by_cases d : h 2 (11 * i + w) ≤ h 2 (11 * i + b)
      · rw [if_pos d]
        refine ih b (w + 1) (by omega) h2 (fun k hk => ?_)
        by_cases e : k = w
        · rw [e]; exact d
        · exact h3 k (by omega)
      · rw [if_neg d]
        have d' : h 2 (11 * i + b) ≤ h 2 (11 * i + w) := Int32.le_of_lt (Int32.not_le.mp d)
        refine ih w (w + 1) (by omega) (by omega) (fun k hk => ?_)
        by_cases e : k = w
        · rw [e]; exact rf _
        · exact tr _ _ _ (h3 k (by omega)) d'
  exact go 3 0 1 rfl (by decide) (fun k hk => by rw [show k = 0 by omega]; exact rf _)
/-- who stands -/
theorem us_sim {A : Nat → Prop} {H : Nat} {hc hm : PH} (t : TW A H hc hm) : ∀ (n k : Nat) (s : Int32), H < n + k → k ≤ H → ∃ r, mB_upSet_L4 1 hc n s (nI k) = some r ∧ mm_standingSet_L4 hm n s (nI k) = some r := by
  intro n
  have h12 := t.1
  induction n with
  | zero => intro k s h1 h2; omega
  | succ n ih =>
    intro k s h1 h2
    rw [mB_upSet_L4, mm_standingSet_L4, t.2.1, t.2.2.1]
    by_cases c : k = H
    · rw [if_pos (nI_le (by omega) (by omega)), if_pos (nI_le (by omega) (by omega))]
      exact ⟨s, rfl, rfl⟩
    · have hk : k < H := by omega
      rw [if_neg (nI_ge hk (by omega)), if_neg (nI_ge hk (by omega)), isBB t hk, bd_e, isM t hk, bd_e, nI_1]
      by_cases d : upI hc k = 0
      · rw [if_pos d, if_pos d]
        exact ih (k + 1) s (by omega) (by omega)
      · rw [if_neg d, if_neg d, lt_e, lt_e]
        exact ih (k + 1) _ (by omega) (by omega)
theorem us_at {A : Nat → Prop} {H : Nat} {hc hm : PH} (t : TW A H hc hm) : ∃ r, mB_upSet 1 hc = some r ∧ mm_standingSet hm = some r := by
  obtain ⟨r, r1, r2⟩ := us_sim t FU 0 0 (by have := t.1; unfold FU; omega) (Nat.zero_le _)
  rw [nI_0] at r1 r2
  exact ⟨r, r1, r2⟩
/-- a wall gets thinner; thicker -/
theorem tn_B {A : Nat → Prop} {H : Nat} {hc hm : PH} (t : TW A H hc hm) {i w : Nat} (hi : i < H) (hw : w < 4) (n : Int32) (x : Int32) (ex : imin (hc 2 (11 * i + w)) n = x) : mB_thin 1 (nI i) (nI w) n hc = some (x, up hc 2 (11 * i + w) (hc 2 (11 * i + w) - x)) := by
  unfold mB_thin
  rw [rdB t hi (by omega), bd_e, lt_e, ex, wrB t hi (by omega), bd_e]
