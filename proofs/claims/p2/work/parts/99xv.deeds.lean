/-! WHAT HAPPENS in the town, on both sides: the book, lodgers, weddings, razing -/
theorem tb_2 {A : Nat → Prop} {H : Nat} {hc hm : PH} (t : TW A H hc hm) (v : Int32) : TW A H hc (up hm 105 2 v) := by
  obtain ⟨t1, t2, t3, t4, t5, t6⟩ := t
  refine ⟨t1, t2, by rw [up_oc (by decide)]; exact t3, fun f f1 f2 => ?_, fun i c hi hc' ha => ?_, t6⟩
  · rw [up_oj (sf_r f f2 f1).2.1]; exact t4 f f1 f2
  · obtain ⟨r1, r2, r3⟩ := mi_r i (by omega) c hc'
    by_cases e : mc c = 105
    · rw [e, up_oj (by have := r2 e; omega), ← e]; exact t5 i c hi hc' ha
    · rw [up_oc e]; exact t5 i c hi hc' ha
/-- the book -/
abbrev BKT := Nat × (Nat → Int32)
def BKr (B : BKT) (hc hm : PH) : Prop := ∃ n, n ≤ 150 ∧ hc 16 0 = 150 ∧ hc 16 1 = 4 ∧ hc 16 3 = nI n ∧ hm 105 2 = nI n ∧ (∀ j, j < 4 * n → hc 17 j = hm 110 j) ∧ B.1 ≤ n ∧ ∀ j, j < 4 * B.1 → hc 17 j = B.2 j
theorem bk_of {B : BKT} {hc hm gc gm : PH} (b : BKr B hc hm) (c6 : gc 16 = hc 16) (c7 : gc 17 = hc 17) (m2 : gm 105 2 = hm 105 2) (m10 : gm 110 = hm 110) : BKr B gc gm := by
  obtain ⟨n, n1, n2, n3, n4, n5, n6, n7⟩ := b
  exact ⟨n, n1, by rw [c6]; exact n2, by rw [c6]; exact n3, by rw [c6]; exact n4, by rw [m2]; exact n5, fun j hj => by rw [c7, m10]; exact n6 j hj, n7.1, fun j hj => by rw [c7]; exact n7.2 j hj⟩
theorem ad_16 {n : Nat} {h : PH} (c0 : h 16 0 = 150) (c1 : h 16 1 = 4) (c3 : h 16 3 = nI n) (hn : n < 150) (a b d e : Int32) : mR_add 16 a b d e 0 h = some (1, up (up (up (up (up h 17 (4 * n) a) 17 (4 * n + 1) b) 17 (4 * n + 2) d) 17 (4 * n + 3) e) 16 3 (nI (n + 1))) := by
  have k : ∀ j x, ∀ q : PH, up q 17 j x 16 1 = q 16 1 := fun j x q => up_oc (by decide)
  have k3 : ∀ j x, ∀ q : PH, up q 17 j x 16 3 = q 16 3 := fun j x q => up_oc (by decide)
  have xi : ∀ j, j < 5 → ix (nI (4 * n + j)) = 4 * n + j := fun j hj => nI_clamp (by omega)
  unfold mR_add
  rw [c3, c0, if_pos (show nI n < (150 : Int32) from nI_lt (b := 150) hn (by decide)), lt_e, c1, show nI n * (4 : Int32) = nI (n * 4) from nI_mul n 4, Nat.mul_comm n 4, show ln (16 + 1) = 600 from rfl, ck_nI (by omega) (by decide), lt_e, show ix (nI (4 * n)) = 4 * n from nI_clamp (by omega), jn1_e, k, c1, if_neg (by decide), nI_1, ck_nI (by omega) (by decide), lt_e, xi 1 (by decide)]
  dsimp only
  rw [jn1_e, k, k, c1, if_neg (by decide), show nI (4 * n) + (2 : Int32) = nI (4 * n + 2) from nI_add _ 2, ck_nI (by omega) (by decide), lt_e, xi 2 (by decide)]
  dsimp only
  rw [jn1_e, k, k, k, c1, if_neg (by decide), show nI (4 * n) + (3 : Int32) = nI (4 * n + 3) from nI_add _ 3, ck_nI (by omega) (by decide), lt_e, xi 3 (by decide)]
  dsimp only
  rw [jn1_e, k, k, k, k, c1, if_pos (by decide)]
  dsimp only
  rw [lt_e, k3, k3, k3, k3, c3, nI_1]
/-- frames: class and model, what a deed may change -/
def DC (h g : PH) : Prop := ∀ b, b ≠ 1 → b ≠ 2 → b ≠ 16 → b ≠ 17 → b ≠ 34 → b ≠ 35 → b ≠ 36 → g b = h b
def DM (h g : PH) : Prop := ∀ b, b ≠ 105 → b ≠ 110 → b ≠ 124 → b ≠ 125 → g b = h b
theorem dc_t {h g f : PH} (a : DC h g) (b : DC g f) : DC h f := fun x x1 x2 x3 x4 x5 x6 x7 => by rw [b x x1 x2 x3 x4 x5 x6 x7, a x x1 x2 x3 x4 x5 x6 x7]
theorem dm_t {h g f : PH} (a : DM h g) (b : DM g f) : DM h f := fun x x1 x2 x3 x4 => by rw [b x x1 x2 x3 x4, a x x1 x2 x3 x4]
theorem dc_r (h : PH) : DC h h := fun _ _ _ _ _ _ _ _ => rfl
theorem dm_r (h : PH) : DM h h := fun _ _ _ _ _ => rfl
/-- a line of the book -/
theorem nt_sim {B : BKT} {hc hm : PH} (q6 : hc 1 6 = hm 105 0) (b : BKr B hc hm) (real : hc 68 3 = 1) (th : hm 104 5 = 0) (p1 p2 p3 : Int32) : ∃ gc gm, mS_note 68 p1 p2 p3 hc = some gc ∧ mm_notes p1 p2 p3 hm = some gm ∧ BKr B gc gm ∧ (∀ x, x ≠ 16 → x ≠ 17 → gc x = hc x) ∧ (∀ x, x ≠ 105 → x ≠ 110 → gm x = hm x) ∧ ∀ j, j ≠ 2 → gm 105 j = hm 105 j := by
  obtain ⟨n, n1, n2, n3, n4, n5, n6, n7⟩ := b
  have c2 : ∀ (q : Option PH), ck 2 115 q = q := fun q => ck_nI (i := 2) (by decide) (by decide)
  have c0 : ∀ (q : Option PH), ck 0 115 q = q := fun q => ck_nI (i := 0) (by decide) (by decide)
  unfold mS_note mm_notes
  rw [real, if_neg no10, show sT 68 = 1 from rfl, th, if_pos rfl, c2, show ix (2 : Int32) = 2 from rfl, n5]
  by_cases c : n = 150
  · refine ⟨hc, hm, ?_, ?_, ⟨n, n1, n2, n3, n4, n5, n6, n7⟩, fun _ _ _ => rfl, fun _ _ _ => rfl, fun _ _ => rfl⟩
    · unfold mR_add
      rw [n4, n2, if_neg (by rw [c]; decide), bd2_e]
    · rw [if_pos (by rw [c]; rfl)]
  · have hn : n < 150 := by omega
    have xi : ∀ j, j < 5 → ix (nI (4 * n + j)) = 4 * n + j := fun j hj => nI_clamp (by omega)
    have k5 : ∀ j x, ∀ q : PH, up q 110 j x 105 2 = q 105 2 := fun j x q => up_oc (by decide)
    rw [ad_16 n2 n3 n4 hn, bd2_e, if_neg (show ¬ nI n = (150 : Int32) from fun z => c ((nI_eq (b := 150) (by omega) (by decide)).mp z)), c2, lt_e, show (4 : Int32) * nI n = nI (4 * n) from nI_mul 4 n, c0, ck_nI (by omega) (by decide), lt_e, show ix (nI (4 * n)) = 4 * n from nI_clamp (by omega), show nI (4 * n) + (1 : Int32) = nI (4 * n + 1) from nI_add _ 1, ck_nI (by omega) (by decide), lt_e, show nI (4 * n) + (2 : Int32) = nI (4 * n + 2) from nI_add _ 2, ck_nI (by omega) (by decide), lt_e, show nI (4 * n) + (3 : Int32) = nI (4 * n + 3) from nI_add _ 3, ck_nI (by omega) (by decide), lt_e, c2, c2, lt_e, xi 1 (by decide), xi 2 (by decide), xi 3 (by decide), k5, k5, k5, k5, n5, nI_1, show ix (0 : Int32) = 0 from rfl]
    refine ⟨_, _, rfl, rfl, ⟨n + 1, by omega, ?_, ?_, up_same, up_same, fun j hj => ?_, by have := n7.1; omega, fun j hj => ?_⟩, fun x x1 x2 => ?_, fun x x1 x2 => ?_, fun j hj => ?_⟩
    · rw [up_oj (by decide), up_oc (by decide), up_oc (by decide), up_oc (by decide), up_oc (by decide)]; exact n2
    · rw [up_oj (by decide), up_oc (by decide), up_oc (by decide), up_oc (by decide), up_oc (by decide)]; exact n3
    · rw [up_oc (show (17 : Nat) ≠ 16 by decide), up_oc (show (110 : Nat) ≠ 105 by decide)]
      by_cases j3 : j = 4 * n + 3
      · rw [j3, up_same, up_same]
      · rw [up_oj j3, up_oj j3]
        by_cases j2 : j = 4 * n + 2
        · rw [j2, up_same, up_same]
        · rw [up_oj j2, up_oj j2]
          by_cases j1 : j = 4 * n + 1
          · rw [j1, up_same, up_same]
          · rw [up_oj j1, up_oj j1]
            by_cases j0 : j = 4 * n
            · rw [j0, up_same, up_same]; exact q6
            · rw [up_oj j0, up_oj j0]
              exact n6 j (by omega)
    · have := n7.1
      rw [up_oc (by decide), up_oj (by omega), up_oj (by omega), up_oj (by omega), up_oj (by omega)]
      exact n7.2 j hj
    · rw [up_cell x1, up_cell x2, up_cell x2, up_cell x2, up_cell x2]
    · rw [up_cell x1, up_cell x2, up_cell x2, up_cell x2, up_cell x2]
    · rw [up_oj hj, up_oc (by decide), up_oc (by decide), up_oc (by decide), up_oc (by decide)]
/-- lodgers: none below nothing, not too many in all -/
def lsm (h : PH) : Nat → Int
  | 0 => 0
  | i + 1 => lsm h i + (h 2 (11 * i + 7)).toInt
def LD (H b : Nat) (h : PH) : Prop := (∀ i, i < H → 0 ≤ (h 2 (11 * i + 7)).toInt) ∧ lsm h H ≤ (b : Int) ∧ b < 1000000
theorem lsm_of {h g : PH} : ∀ n, (∀ i, i < n → g 2 (11 * i + 7) = h 2 (11 * i + 7)) → lsm g n = lsm h n := by
  intro n
  induction n with
  | zero => intro _; rfl
  | succ n ih => intro e; rw [lsm, lsm, ih (fun i hi => e i (by omega)), e n (by omega)]
theorem lsm_up {h : PH} {i : Nat} {v : Int32} : ∀ n, i < n → lsm (up h 2 (11 * i + 7) v) n = lsm h n - (h 2 (11 * i + 7)).toInt + v.toInt := by
  intro n
  induction n with
  | zero => intro e; omega
  | succ n ih =>
    intro e
    rw [lsm, lsm]
    by_cases c : i = n
    · subst c
      rw [up_same, lsm_of i (fun k hk => up_oj (by omega))]
      omega
    · rw [ih (by omega), up_oj (by omega)]
      omega
theorem lsm_ge {h : PH} : ∀ n, (∀ i, i < n → 0 ≤ (h 2 (11 * i + 7)).toInt) → 0 ≤ lsm h n ∧ ∀ i, i < n → (h 2 (11 * i + 7)).toInt ≤ lsm h n := by
  intro n
  induction n with
  | zero => intro _; exact ⟨Int.le_refl _, fun i hi => by omega⟩
  | succ n ih =>
    intro e
    obtain ⟨a, b⟩ := ih (fun i hi => e i (by omega))
    have c := e n (by omega)
    rw [lsm]
    refine ⟨by omega, fun i hi => ?_⟩
    by_cases d : i = n
    · rw [d]; omega
    · have := b i (by omega); omega
theorem ld_of {H b : Nat} {h g : PH} (l : LD H b h) (e : ∀ i, i < H → g 2 (11 * i + 7) = h 2 (11 * i + 7)) : LD H b g := ⟨fun i hi => by rw [e i hi]; exact l.1 i hi, by rw [lsm_of H e]; exact l.2.1, l.2.2⟩
/-- all of the town that a deed may meet -/
def RTT (A : Nat → Prop) (H b : Nat) (Ls : LNS) (B : BKT) (hc hm : PH) : Prop := TW A H hc hm ∧ LW Ls hc hm ∧ BKr B hc hm ∧ (∀ k, k < 12 → mO_nextTo 5 (nI k) hc = some (hm 123 k)) ∧ hc 68 3 = 1 ∧ hm 104 5 = 0 ∧ LD H b hc
theorem nx_fr {h g : PH} (e14 : g 14 = h 14) (e15 : g 15 = h 15) (p : Int32) : mO_nextTo 5 p g = mO_nextTo 5 p h := by
  have at14 : ∀ r c, mR_at 14 r c g = mR_at 14 r c h := fun r c => by
    unfold mR_at
    rw [e14, show g (14 + 1) = h (14 + 1) from e15]
  have go : ∀ (n : Nat) (v2 v3 : Int32), mO_nextTo_L4 5 p g n v2 v3 = mO_nextTo_L4 5 p h n v2 v3 := by
    intro n
    induction n with
    | zero => intro v2 v3; rfl
    | succ n ih =>
      intro v2 v3
      rw [mO_nextTo_L4, mO_nextTo_L4, show g (5 + 9) = h (5 + 9) from e14, show mR_at (5 + 9) v3 0 g = mR_at (5 + 9) v3 0 h from at14 v3 0, show mR_at (5 + 9) v3 1 g = mR_at (5 + 9) v3 1 h from at14 v3 1]
      simp only [ih]
  exact go FU 0 0
theorem rt_of {B : BKT} {A : Nat → Prop} {H b : Nat} {Ls : LNS} {hc hm gc gm : PH} (r : RTT A H b Ls B hc hm) (t : TW A H gc gm) (bk : BKr B gc gm) (ld : LD H b gc) (dc : DC hc gc) (dm : DM hm gm) : RTT A H b Ls B gc gm := by
  obtain ⟨r1, r2, r3, r4, r5, r6, r7⟩ := r
  refine ⟨t, ⟨r2.1, r2.2.1, r2.2.2.1, lwc_of r2.2.2.2.1 (fun b b1 b2 => dc b (by omega) (by omega) (by omega) (by omega) (by omega) (by omega) (by omega)), lwm_of r2.2.2.2.2 (fun b b1 b2 => dm b (by omega) (by omega) (by omega) (by omega))⟩, bk, fun k hk => ?_, ?_, ?_, ld⟩
  · rw [nx_fr (dc 14 (by decide) (by decide) (by decide) (by decide) (by decide) (by decide) (by decide)) (dc 15 (by decide) (by decide) (by decide) (by decide) (by decide) (by decide) (by decide)), dm 123 (by decide) (by decide) (by decide) (by decide)]
    exact r4 k hk
  · rw [dc 68 (by decide) (by decide) (by decide) (by decide) (by decide) (by decide) (by decide)]; exact r5
  · rw [dm 104 (by decide) (by decide) (by decide) (by decide)]; exact r6
theorem tb_m2 {A : Nat → Prop} {H : Nat} {hc hm gm : PH} (t : TW A H hc hm) (e : ∀ x, x ≠ 105 → x ≠ 110 → gm x = hm x) (e5 : ∀ j, j ≠ 2 → gm 105 j = hm 105 j) : TW A H hc gm := by
  obtain ⟨t1, t2, t3, t4, t5, t6⟩ := t
  refine ⟨t1, t2, by rw [e 104 (by decide) (by decide)]; exact t3, fun f f1 f2 => by rw [e5 _ (sf_r f f2 f1).2.1]; exact t4 f f1 f2, fun i c hi hc' ha => ?_, t6⟩
  obtain ⟨r1, r2, r3⟩ := mi_r i (by omega) c hc'
  rw [t5 i c hi hc' ha]
  rcases r3 with z | z | z
  · rw [z, e5 _ (by have := r2 z; omega)]
  · rw [z, e 108 (by decide) (by decide)]
  · rw [z, e 109 (by decide) (by decide)]
def qI (q : Option Nat) : Int32 := match q with
  | none => -1
  | some k => nI k
/-- lodgers go from house i to house q, or away -/
theorem mv_sim {B : BKT} {A : Nat → Prop} {H b : Nat} {Ls : LNS} {hc hm : PH} (r : RTT A H b Ls B hc hm) {i : Nat} (hi : i < H) (q : Option Nat) (hq : ∀ k, q = some k → k < H ∧ k ≠ i) : ∃ gc gm, mS_moveLodgers 68 (nI i) (qI q) hc = some gc ∧ mm_lodgersGo (nI i) (qI q) hm = some gm ∧ RTT A H b Ls B gc gm ∧ DC hc gc ∧ DM hm gm ∧ gc 1 = hc 1 ∧ (∀ j, j ≠ 7 → ∀ k, k < H → j < 11 → gc 2 (11 * k + j) = hc 2 (11 * k + j)) ∧ ∀ j, 91 ≤ j → gm 105 j = hm 105 j := by
  obtain ⟨t, lw, bk, nx, re, th, ld⟩ := r
  have rr : RTT A H b Ls B hc hm := ⟨t, lw, bk, nx, re, th, ld⟩
  have h12 := t.1
  have q6 : hc 1 6 = hm 105 0 := t.2.2.2.1 6 (by decide) (by decide)
  have i79 : (79 : Int32) + nI i = nI (79 + i) := nI_add 79 i
  have ix79 : ix (nI (79 + i)) = 79 + i := nI_clamp (by omega)
  have ck79 : ∀ (z : Option PH), ck (nI (79 + i)) 115 z = z := fun z => ck_nI (by omega) (by decide)
  have z0 : (0 : Int32).toInt = 0 := rfl
  obtain ⟨lg1, lg2⟩ := lsm_ge H ld.1
  -- the class's move
  have key : ∃ h7, (∀ K : PH → Option PH, (bd (mB_read 1 (nI i) 7 hc) fun r1 => bd (mB_write 1 (nI i) 7 0 hc) fun h2 => if qI q = (-1) then K h2 else bd (mB_read 1 (qI q) 7 h2) fun r6 => bd (mB_write 1 (qI q) 7 (r6 + r1) h2) fun h7 => K h7) = K h7) ∧ (∀ x, x ≠ 2 → h7 x = hc x) ∧ (∀ j, j ≠ 7 → ∀ k, k < H → j < 11 → h7 2 (11 * k + j) = hc 2 (11 * k + j)) ∧ LD H b h7 ∧ ∀ gx, TW A H hc gx → ∃ gm, (ck (nI (79 + i)) 115 <| lt (gx 105 (ix (nI (79 + i)))) fun x2 => ck (nI (79 + i)) 115 <| lt (up gx 105 (ix (nI (79 + i))) 0) fun h3 => if qI q = (-1) then some h3 else ck (79 + qI q) 115 <| ck (79 + qI q) 115 <| lt (up h3 105 (ix (79 + qI q)) ((h3 105 (ix (79 + qI q))) + x2)) fun h4 => some h4) = some gm ∧ TW A H h7 gm ∧ (∀ x, x ≠ 105 → gm x = gx x) ∧ gm 105 2 = gx 105 2 ∧ ∀ j, 91 ≤ j → gm 105 j = gx 105 j := by
    cases q with
    | none =>
      refine ⟨up hc 2 (11 * i + 7) 0, fun K => ?_, fun x hx => up_cell hx, fun j hj k hk hj2 => up_oj (by omega), ⟨fun k hk => ?_, ?_, ld.2.2⟩, fun gx tx => ⟨up gx 105 (79 + i) 0, ?_, tb_wr tx hi (c := 7) (by decide) 0 (fun z => by omega), fun x hx => up_cell hx, up_oj (by omega), fun j hj => up_oj (by omega)⟩⟩
      · rw [show mB_read 1 (nI i) 7 hc = _ from rdB t hi (c := 7) (by decide), bd_e, show mB_write 1 (nI i) 7 0 hc = _ from wrB t hi (c := 7) (by decide) 0, bd_e, if_pos (show qI none = -1 from rfl)]
      · by_cases c : k = i
        · rw [c, up_same]; decide
        · rw [up_oj (by omega)]; exact ld.1 k hk
      · rw [lsm_up H hi, z0]
        have := ld.1 i hi
        have := ld.2.1
        omega
      · rw [ck79, lt_e, ck79, lt_e, ix79, if_pos (show qI none = -1 from rfl)]
    | some k =>
      obtain ⟨k1, k2⟩ := hq k rfl
      have nk : ¬ qI (some k) = -1 := nI_nm1 (show k < 2 ^ 31 by omega)
      have k79 : (79 : Int32) + qI (some k) = nI (79 + k) := nI_add 79 k
      have ixk : ix (nI (79 + k)) = 79 + k := nI_clamp (by omega)
      have ckk : ∀ (z : Option PH), ck (nI (79 + k)) 115 z = z := fun z => ck_nI (by omega) (by decide)
      have t1 : TW A H (up hc 2 (11 * i + 7) 0) (up hm 105 (79 + i) 0) := tb_wr t hi (c := 7) (by decide) 0 (fun z => by omega)
      have hk7 : up hc 2 (11 * i + 7) 0 2 (11 * k + 7) = hc 2 (11 * k + 7) := up_oj (by omega)
      have sm : (hc 2 (11 * k + 7) + hc 2 (11 * i + 7)).toInt = (hc 2 (11 * k + 7)).toInt + (hc 2 (11 * i + 7)).toInt := by
        have a := lg2 k k1
        have b' := lg2 i hi
        have c := ld.2.1
        have d := ld.2.2
        exact i_add (a := 0) (b := 1000000) (c := 0) (d := 1000000) ⟨ld.1 k k1, by omega⟩ ⟨ld.1 i hi, by omega⟩ (by decide)
      refine ⟨up (up hc 2 (11 * i + 7) 0) 2 (11 * k + 7) (hc 2 (11 * k + 7) + hc 2 (11 * i + 7)), fun K => ?_, fun x hx => by rw [up_cell hx, up_cell hx], fun j hj k' hk' hj2 => by rw [up_oj (by omega), up_oj (by omega)], ⟨fun k' hk' => ?_, ?_, ld.2.2⟩, fun gx tx => ⟨up (up gx 105 (79 + i) 0) 105 (79 + k) (hc 2 (11 * k + 7) + hc 2 (11 * i + 7)), ?_, ?_, fun x hx => by rw [up_cell hx, up_cell hx], by rw [up_oj (by omega), up_oj (by omega)], fun j hj => by rw [up_oj (by omega), up_oj (by omega)]⟩⟩
      · rw [show mB_read 1 (nI i) 7 hc = _ from rdB t hi (c := 7) (by decide), bd_e, show mB_write 1 (nI i) 7 0 hc = _ from wrB t hi (c := 7) (by decide) 0, bd_e, if_neg nk, show mB_read 1 (qI (some k)) 7 (up hc 2 (11 * i + 7) 0) = _ from rdB t1 k1 (c := 7) (by decide), bd_e, hk7, show mB_write 1 (qI (some k)) 7 _ (up hc 2 (11 * i + 7) 0) = _ from wrB t1 k1 (c := 7) (by decide) _, bd_e]
      · by_cases c : k' = k
        · rw [c, up_same, sm]
          have := ld.1 k k1
          have := ld.1 i hi
          omega
        · rw [up_oj (by omega)]
          by_cases c2 : k' = i
          · rw [c2, up_same]; decide
          · rw [up_oj (by omega)]; exact ld.1 k' hk'
      · rw [lsm_up H k1, lsm_up H hi, hk7, sm, z0]
        have := ld.2.1
        omega
      · have e1 : gx 105 (79 + i) = hc 2 (11 * i + 7) := (colM tx hi).2.2.2.1
        have e2 : gx 105 (79 + k) = hc 2 (11 * k + 7) := (colM tx k1).2.2.2.1
        rw [ck79, lt_e, ck79, lt_e, ix79, if_neg nk, k79, ckk, ckk, lt_e, ixk, up_oj (by omega), e1, e2]
      · exact tb_wr (tb_wr tx hi (c := 7) (by decide) 0 (fun z => by omega)) k1 (c := 7) (by decide) _ (fun z => by omega)
  obtain ⟨h7, k1, k2, k3, k4, k5⟩ := key
  have bk7 : BKr B h7 hm := bk_of bk (k2 16 (by decide)) (k2 17 (by decide)) rfl rfl
  obtain ⟨gc, gx, a1, a2, a3, a4, a5, a6⟩ := nt_sim (hc := h7) (hm := hm) (by rw [k2 1 (by decide)]; exact q6) bk7 (by rw [k2 68 (by decide)]; exact re) th 4 (nI i) (qI q)
  obtain ⟨gm, m1, m2, m3, m4, m5⟩ := k5 gx (tb_m2 t a5 a6)
  have dc : DC hc gc := fun x x1 x2 x3 x4 _ _ _ => by rw [a4 x x3 x4, k2 x x2]
  have dm : DM hm gm := fun x x1 x2 _ _ => by rw [m3 x x1, a5 x x1 x2]
  have tg : TW A H gc gm := tb_of m2 (a4 1 (by decide) (by decide)) (a4 2 (by decide) (by decide)) rfl rfl rfl rfl
  refine ⟨gc, gm, ?_, ?_, rt_of rr tg (bk_of a3 rfl rfl m4 (m3 110 (by decide))) (ld_of k4 (fun j _ => by rw [a4 2 (by decide) (by decide)])) dc dm, dc, dm, by rw [a4 1 (by decide) (by decide), k2 1 (by decide)], fun j hj k hk hj2 => by rw [a4 2 (by decide) (by decide)]; exact k3 j hj k hk hj2, fun j hj => by rw [m5 j hj, a6 j (by omega)]⟩
  · unfold mS_moveLodgers
    rw [show sT 68 = 1 from rfl]
    simp only [jn1_e]
    rw [k1 (fun h4 => bd (mS_note 68 4 (nI i) (qI q) h4) fun h5 => some h5), a1, bd_e]
  · unfold mm_lodgersGo
    rw [a2, bd_e, i79]
    exact m1
/-- where they go: the first that is next and stands -/
def isP (hc : PH) (m : Int32) (k : Nat) : Prop := ((m >>> (nI k &&& 31)) &&& 1) = 1 ∧ ¬ upI hc k = 0
def fst (hc : PH) (m : Int32) (H : Nat) (q : Option Nat) : Prop := (q = none ∧ ∀ k, k < H → ¬ isP hc m k) ∨ ∃ k, q = some k ∧ k < H ∧ isP hc m k ∧ ∀ j, j < k → ¬ isP hc m j
theorem fst_u {hc : PH} {m : Int32} {H : Nat} {p q : Option Nat} (a : fst hc m H p) (b : fst hc m H q) : p = q := by
  rcases a with ⟨a1, a2⟩ | ⟨k, a1, a2, a3, a4⟩ <;> rcases b with ⟨b1, b2⟩ | ⟨j, b1, b2, b3, b4⟩
  · rw [a1, b1]
  · exact absurd b3 (a2 j b2)
  · exact absurd a3 (b2 k a2)
  · rw [a1, b1]
    rcases Nat.lt_trichotomy k j with g | g | g
    · exact absurd a3 (b4 k g)
    · rw [g]
    · exact absurd b3 (a4 j g)
theorem rf_c {A : Nat → Prop} {H : Nat} {hc hm : PH} (t : TW A H hc hm) (m : Int32) : ∀ (n k : Nat), H < n + k → k ≤ H → (∀ j, j < k → ¬ isP hc m j) → ∃ q, mS_refuge_L11 68 m hc n (nI k) = some (qI q) ∧ fst hc m H q := by
  intro n
  have h12 := t.1
  induction n with
  | zero => intro k h1 h2; omega
  | succ n ih =>
    intro k h1 h2 h3
    rw [mS_refuge_L11, show sT 68 = 1 from rfl, t.2.1]
    by_cases c : k = H
    · rw [if_pos (nI_le (by omega) (by omega))]
      exact ⟨none, rfl, Or.inl ⟨rfl, fun j hj => h3 j (by omega)⟩⟩
    · have hk : k < H := by omega
      have next : ¬ isP hc m k → ∃ q, mS_refuge_L11 68 m hc n (nI k + 1) = some (qI q) ∧ fst hc m H q := fun np => by
        rw [nI_1]
        exact ih (k + 1) (by omega) (by omega) (fun j hj => by
          by_cases e : j = k
          · rw [e]; exact np
          · exact h3 j (by omega))
      rw [if_neg (nI_ge hk (by omega))]
      by_cases b : ((m >>> (nI k &&& 31)) &&& 1) = 1
      · rw [if_pos b, isBB t hk, bd_e]
        by_cases u : upI hc k = 0
        · rw [if_pos u]
          exact next (fun z => z.2 u)
        · rw [if_neg u]
          exact ⟨some k, rfl, Or.inr ⟨k, rfl, hk, ⟨b, u⟩, h3⟩⟩
      · rw [if_neg b]
        exact next (fun z => b z.1)
theorem rf_m {A : Nat → Prop} {H : Nat} {hc hm : PH} (t : TW A H hc hm) {i : Nat} (hi : i < H) (k0 : Int32 → Option PH) : ∀ (k n : Nat) (acc : Option Nat), k ≤ H → k < n → (acc = none ∧ (∀ j, k ≤ j → j < H → ¬ isP hc (hm 123 i) j) ∨ ∃ q, acc = some q ∧ k ≤ q ∧ q < H ∧ isP hc (hm 123 i) q ∧ ∀ j, k ≤ j → j < q → ¬ isP hc (hm 123 i) j) → ∃ q, mm_areOut_L30 (nI i) hm k0 n (qI acc) (nI k - 1) = k0 (qI q) ∧ fst hc (hm 123 i) H q := by
  have h12 := t.1
  intro k
  induction k with
  | zero =>
    intro n acc h1 h2 h3
    cases n with
    | zero => omega
    | succ n =>
      rw [mm_areOut_L30, if_pos (show nI 0 - 1 < (0 : Int32) by decide)]
      refine ⟨acc, rfl, ?_⟩
      rcases h3 with ⟨a, b⟩ | ⟨q, a, b, c, d, e⟩
      · exact Or.inl ⟨a, fun j hj => b j (Nat.zero_le _) hj⟩
      · exact Or.inr ⟨q, a, c, d, fun j hj => e j (Nat.zero_le _) hj⟩
  | succ k ih =>
    intro n acc h1 h2 h3
    cases n with
    | zero => omega
    | succ n =>
      have hk : k < H := by omega
      rw [nI_pred, mm_areOut_L30, if_neg (nI_pos (by omega)), ck_nI (show i < 24 by omega) (by decide), show ix (nI i) = i from nI_clamp (by omega)]
      have sub1 : nI k + (-1) = nI k - 1 := by rw [Int32.sub_eq_add_neg]
      rw [sub1]
      unfold mm_has
      have skip : ¬ isP hc (hm 123 i) k → ∃ q, mm_areOut_L30 (nI i) hm k0 n (qI acc) (nI k - 1) = k0 (qI q) ∧ fst hc (hm 123 i) H q := fun np => by
        refine ih n acc (by omega) (by omega) ?_
        rcases h3 with ⟨a, b⟩ | ⟨q, a, b, c, d, e⟩
        · refine Or.inl ⟨a, fun j j1 j2 => ?_⟩
          by_cases z : j = k
          · rw [z]; exact np
          · exact b j (by omega) j2
        · refine Or.inr ⟨q, a, by omega, c, d, fun j j1 j2 => ?_⟩
          by_cases z : j = k
          · rw [z]; exact np
          · exact e j (by omega) j2
      by_cases b : ((hm 123 i >>> (nI k &&& 31)) &&& 1) = 1
      · rw [if_pos b, bd_e, if_neg no10, isM t hk, bd_e]
        by_cases u : upI hc k = 0
        · rw [if_pos u]
          exact skip (fun z => z.2 u)
        · rw [if_neg u]
          exact ih n (some k) (by omega) (by omega) (Or.inr ⟨k, rfl, Nat.le_refl _, hk, ⟨b, u⟩, fun j j1 j2 => by omega⟩)
      · rw [if_neg b, bd_e, if_pos rfl]
        exact skip (fun z => b z.1)
/-- who has no wall goes next door -/
theorem lv_sim {B : BKT} {A : Nat → Prop} {H b : Nat} {Ls : LNS} {hc hm : PH} (r : RTT A H b Ls B hc hm) {i : Nat} (hi : i < H) : ∃ gc gm, mS_leaveIfFallen 68 (nI i) hc = some gc ∧ mm_areOut (nI i) hm = some gm ∧ RTT A H b Ls B gc gm ∧ DC hc gc ∧ DM hm gm ∧ gc 1 = hc 1 ∧ (∀ j, j ≠ 7 → ∀ k, k < H → j < 11 → gc 2 (11 * k + j) = hc 2 (11 * k + j)) ∧ ∀ j, 91 ≤ j → gm 105 j = hm 105 j := by
  have t := r.1
  have h12 := t.1
  have ld := r.2.2.2.2.2.2
  have idle : ∃ gc gm, some hc = some gc ∧ some hm = some gm ∧ RTT A H b Ls B gc gm ∧ DC hc gc ∧ DM hm gm ∧ gc 1 = hc 1 ∧ (∀ j, j ≠ 7 → ∀ k, k < H → j < 11 → gc 2 (11 * k + j) = hc 2 (11 * k + j)) ∧ ∀ j, 91 ≤ j → gm 105 j = hm 105 j := ⟨hc, hm, rfl, rfl, r, dc_r hc, dm_r hm, rfl, fun _ _ _ _ _ => rfl, fun _ _ => rfl⟩
  unfold mS_leaveIfFallen mm_areOut
  rw [show sT 68 = 1 from rfl, isBB t hi, bd_e, isM t hi, bd_e]
  by_cases u : upI hc i = 0
  · rw [if_pos u, if_pos u, show mB_read 1 (nI i) 7 hc = _ from rdB t hi (c := 7) (by decide), bd_e, show (79 : Int32) + nI i = nI (79 + i) from nI_add 79 i, ck_nI (show 79 + i < 115 by omega) (by decide), show ix (nI (79 + i)) = 79 + i from nI_clamp (by omega), (colM t hi).2.2.2.1]
    have l0 := ld.1 i hi
    have z0 : (0 : Int32).toInt = 0 := rfl
    by_cases p : hc 2 (11 * i + 7) = 0
    · rw [if_neg (by rw [p]; decide), if_pos p]
      exact idle
    · have pos : (0 : Int32) < hc 2 (11 * i + 7) := by
        rw [Int32.lt_iff_toInt_lt, z0]
        have : (hc 2 (11 * i + 7)).toInt ≠ 0 := fun z => p (Int32.toInt_inj.mp (by rw [z, z0]))
        omega
      rw [if_pos pos, if_neg p, lt_e, t.2.2.1]
      unfold mS_refuge
      rw [r.2.2.2.1 i (by omega), bd_e]
      obtain ⟨q, q1, q2⟩ := rf_c t (hm 123 i) FU 0 (by unfold FU; omega) (Nat.zero_le _) (fun j hj => by omega)
      obtain ⟨q', p1, p2⟩ := rf_m t hi (fun (x5 : Int32) => bd (mm_lodgersGo (nI i) x5 hm) fun h6 => some h6) H FU none (Nat.le_refl _) (by unfold FU; omega) (Or.inl ⟨rfl, fun j j1 j2 => by omega⟩)
      have qe := fst_u p2 q2
      rw [nI_0] at q1
      rw [q1, bd_e, show mm_areOut_L30 (nI i) hm _ FU (-1) (nI H - 1) = _ from p1, qe]
      have hq : ∀ k, q = some k → k < H ∧ k ≠ i := fun k ek => by
        rcases q2 with ⟨a, _⟩ | ⟨k', a, b', c, _⟩
        · rw [a] at ek; cases ek
        · rw [a] at ek
          cases ek
          exact ⟨b', fun z => c.2 (by rw [z]; exact u)⟩
      obtain ⟨gc, gm, m1, m2, m3, m4, m5, m6, m7⟩ := mv_sim r hi q hq
      rw [m1, bd_e, m2, bd_e]
      exact ⟨gc, gm, rfl, rfl, m3, m4, m5, m6, m7⟩
  · rw [if_neg u, if_neg u]
    exact idle
