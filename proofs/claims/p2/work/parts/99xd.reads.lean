/-! TOKENS of the model -/
theorem tm_fr {B : Nat → Nat} {L : Nat} {h g : PH} (t : TM B L h) (f : FR4 h g) : TM B L g := ⟨t.1, by rw [f.2 11 (by decide) (by decide) (by decide) (by decide)]; exact t.2.1, fun j hj => by rw [f.1 111 (by decide)]; exact t.2.2.1 j hj, fun j hj => by rw [f.1 112 (by decide)]; exact t.2.2.2 j hj⟩
theorem fr4_r (h : PH) : FR4 h h := ⟨fun _ _ => rfl, fun _ _ _ _ _ => rfl⟩
theorem raw_in {B : Nat → Nat} {L : Nat} {h : PH} (t : TM B L h) {p : Nat} (hp : p < L) : mm_raw (nI p) h = some (nI (B p)) := by
  obtain ⟨t1, t2, t3, _⟩ := t
  unfold mm_raw
  rw [t2, if_neg (nI_ge hp (by omega)), ck_nI (by omega) (by decide), show ix (nI p) = p from nI_clamp (by omega), (t3 p hp).1]
theorem raw_out {B : Nat → Nat} {L : Nat} {h : PH} (t : TM B L h) {p : Nat} (hp : L ≤ p) (hp2 : p ≤ 400) : mm_raw (nI p) h = some (-1) := by
  obtain ⟨t1, t2, t3, _⟩ := t
  unfold mm_raw
  rw [t2, if_pos (nI_le hp (by omega))]
theorem isL_m (c : Nat) (hc : c < 256) (h : PH) : mm_isLetter (nI c) h = some (if bLt c = true then 1 else 0) := by
  unfold mm_isLetter
  simp only [isIn_eq, bd_e]
  revert hc
  revert c
  decide +kernel
theorem isL_e (h : PH) : mm_isLetter (-1) h = some 0 := by
  unfold mm_isLetter
  simp only [isIn_eq, bd_e]
  decide +kernel
theorem isD_m (c : Nat) (hc : c < 256) (h : PH) : mm_isDigit (nI c) h = some (if bDg c = true then 1 else 0) := by
  unfold mm_isDigit
  simp only [isIn_eq, bd_e]
  revert hc
  revert c
  decide +kernel
theorem isD_e (h : PH) : mm_isDigit (-1) h = some 0 := by
  unfold mm_isDigit
  simp only [isIn_eq, bd_e]
  decide +kernel
theorem isS_m (c : Nat) (hc : c < 256) (h : PH) : mm_isMarkSign (nI c) h = some (if bSg c = true then 1 else 0) := by
  unfold mm_isMarkSign
  revert hc
  revert c
  decide +kernel
theorem bk_m : ∀ c, c < 256 → (bBk c = true ↔ (nI c = 32 ∨ nI c = 10)) := by decide +kernel
theorem ml0 {B : Nat → Nat} {L : Nat} {h : PH} (t : TM B L h) : ∀ (n p : Nat) (hv : PH), L < n + p → p ≤ L → FR4 h hv → hv 104 12 = nI p → ∃ g, (∀ k0 : PH → Option PH, mm_reads_L0 k0 n hv = k0 g) ∧ FR4 h g ∧ g 104 12 = nI (rn bBk B L p) := by
  intro n
  have tL := t.1
  induction n with
  | zero => intro p hv h1 h2; omega
  | succ n ih =>
    intro p hv h1 h2 fr e
    have t' := tm_fr t fr
    by_cases hp : p < L
    · have hb := (t.2.2.1 p hp).2
      have ib := bk_m (B p) hb
      have step : ∀ k0 : PH → Option PH, mm_reads_L0 k0 (n + 1) hv = if bBk (B p) = true then mm_reads_L0 k0 n (up hv 104 12 (nI (p + 1))) else k0 hv := fun k0 => by
        rw [mm_reads_L0, e, raw_in t' hp, bd_e, jn0_e, bd_e, lt_e, nI_1]
        by_cases c : bBk (B p) = true
        · rw [if_pos c]
          rcases ib.mp c with z | z
          · rw [if_pos z]
          · by_cases y : nI (B p) = 32
            · rw [if_pos y]
            · rw [if_neg y, if_pos z]
        · rw [if_neg c, if_neg (fun z => c (ib.mpr (Or.inl z))), if_neg (fun z => c (ib.mpr (Or.inr z)))]
      by_cases c : bBk (B p) = true
      · obtain ⟨g, g1, g2, g3⟩ := ih (p + 1) (up hv 104 12 (nI (p + 1))) (by omega) (by omega) (fr4_up fr (Or.inl rfl) _) up_same
        exact ⟨g, fun k0 => by rw [step, if_pos c, g1], g2, by rw [g3, rn_go hp c]⟩
      · exact ⟨hv, fun k0 => by rw [step, if_neg c], fr, by rw [e, rn_st (fun z => c z.2)]⟩
    · refine ⟨hv, fun k0 => ?_, fr, by rw [e, rn_st (fun z => hp z.1)]⟩
      rw [mm_reads_L0, e, raw_out t' (by omega) (by omega), bd_e, jn0_e, bd_e, if_neg (by decide), if_neg (by decide)]
theorem ml95 {B : Nat → Nat} {L : Nat} {h : PH} (t : TM B L h) : ∀ (n p : Nat) (hv : PH), L < n + p → p ≤ L → FR4 h hv → hv 104 12 = nI p → ∃ g, (∀ k0 : PH → Option PH, mm_reads_L95 k0 n hv = k0 g) ∧ FR4 h g ∧ g 104 12 = nI (rn bLt B L p) ∧ ∀ j, j ≠ 12 → g 104 j = hv 104 j := by
  intro n
  have tL := t.1
  induction n with
  | zero => intro p hv h1 h2; omega
  | succ n ih =>
    intro p hv h1 h2 fr e
    have t' := tm_fr t fr
    by_cases hp : p < L
    · have hb := (t.2.2.1 p hp).2
      by_cases c : bLt (B p) = true
      · obtain ⟨g, g1, g2, g3, g4⟩ := ih (p + 1) (up hv 104 12 (nI (p + 1))) (by omega) (by omega) (fr4_up fr (Or.inl rfl) _) up_same
        refine ⟨g, fun k0 => ?_, g2, by rw [g3, rn_go hp c], fun j hj => by rw [g4 j hj, up_oj hj]⟩
        rw [mm_reads_L95, e, raw_in t' hp, bd_e, isL_m _ hb, bd_e, if_pos c, if_neg (by decide), lt_e, nI_1, g1]
      · refine ⟨hv, fun k0 => ?_, fr, by rw [e, rn_st (fun z => c z.2)], fun _ _ => rfl⟩
        rw [mm_reads_L95, e, raw_in t' hp, bd_e, isL_m _ hb, bd_e, if_neg c, if_pos rfl]
    · refine ⟨hv, fun k0 => ?_, fr, by rw [e, rn_st (fun z => hp z.1)], fun _ _ => rfl⟩
      rw [mm_reads_L95, e, raw_out t' (by omega) (by omega), bd_e, isL_e, bd_e, if_pos rfl]
theorem ml171 {B : Nat → Nat} {L : Nat} {h : PH} (t : TM B L h) (q : Nat) : ∀ (n p : Nat) (hv : PH), L < n + p → p ≤ L → q ≤ p → (∀ i, q + i < p → bDg (B (q + i)) = true) → FR4 h hv → hv 104 12 = nI p → (p - q < 5 → hv 104 15 = nI (nv B q (p - q))) → ∃ g, (∀ k0 : PH → Option PH, mm_reads_L171 k0 n hv = k0 g) ∧ FR4 h g ∧ g 104 12 = nI (rn bDg B L p) ∧ (∀ j, j ≠ 12 → j ≠ 15 → g 104 j = hv 104 j) ∧ (rn bDg B L p - q < 5 → g 104 15 = nI (nv B q (rn bDg B L p - q))) := by
  intro n
  have tL := t.1
  induction n with
  | zero => intro p hv h1 h2; omega
  | succ n ih =>
    intro p hv h1 h2 hqp hd fr e ev
    have t' := tm_fr t fr
    by_cases hp : p < L
    · have hb := (t.2.2.1 p hp).2
      by_cases c : bDg (B p) = true
      · have d1 := bDg_r c
        have hd' : ∀ i, q + i < p + 1 → bDg (B (q + i)) = true := fun i hi => by
          by_cases z : q + i = p
          · rw [z]; exact c
          · exact hd i (by omega)
        have key : ∃ x : Int32, (∀ k0 : PH → Option PH, mm_reads_L171 k0 (n + 1) hv = mm_reads_L171 k0 n (up (up hv 104 15 x) 104 12 (nI (p + 1)))) ∧ (p + 1 - q < 5 → x = nI (nv B q (p + 1 - q))) := by
          by_cases c2 : (10000 : Int32) ≤ hv 104 15
          · refine ⟨hv 104 15, fun k0 => ?_, fun z => ?_⟩
            · rw [mm_reads_L171, e, raw_in t' hp, bd_e, isD_m _ hb, bd_e, if_pos c, if_neg (by decide), jn1_e, if_pos c2]
              try dsimp only
              rw [lt_e, lt_e, up_oj (by decide), e, nI_1]
            · have lt := nv_lt B q (p - q) (fun i hi => hd i (by omega))
              have p4 : 10 ^ (p - q) ≤ 10 ^ 3 := Nat.pow_le_pow_right (by decide) (by omega)
              rw [ev (by omega)] at c2
              exact absurd c2 (nI_ge (b := 10000) (by omega) (by decide))
          · refine ⟨((10 * (hv 104 15)) + nI (B p)) - 48, fun k0 => ?_, fun z => ?_⟩
            · rw [mm_reads_L171, e, raw_in t' hp, bd_e, isD_m _ hb, bd_e, if_pos c, if_neg (by decide), jn1_e, if_neg c2, bd_e]
              try dsimp only
              rw [lt_e, lt_e, up_oj (by decide), e, nI_1]
            · rw [ev (by omega), show (10 : Int32) * nI (nv B q (p - q)) = nI (10 * nv B q (p - q)) from nI_mul 10 _, nI_add, show (48 : Int32) = nI 48 from rfl, nI_sub (by omega), show p + 1 - q = (p - q) + 1 by omega, nv, show q + (p - q) = p by omega]
        obtain ⟨x, x1, x2⟩ := key
        obtain ⟨g, g1, g2, g3, g4, g5⟩ := ih (p + 1) (up (up hv 104 15 x) 104 12 (nI (p + 1))) (by omega) (by omega) (by omega) hd' (fr4_up (fr4_up fr (Or.inr (Or.inr (Or.inr rfl))) _) (Or.inl rfl) _) up_same (fun z => by rw [up_oj (by decide), up_same]; exact x2 z)
        exact ⟨g, fun k0 => by rw [x1, g1], g2, by rw [g3, rn_go hp c], fun j j1 j2 => by rw [g4 j j1 j2, up_oj j1, up_oj j2], by rw [rn_go hp c]; exact g5⟩
      · refine ⟨hv, fun k0 => ?_, fr, by rw [e, rn_st (fun z => c z.2)], fun _ _ _ => rfl, by rw [rn_st (fun z => c z.2)]; exact ev⟩
        rw [mm_reads_L171, e, raw_in t' hp, bd_e, isD_m _ hb, bd_e, if_neg c, if_pos rfl]
    · refine ⟨hv, fun k0 => ?_, fr, by rw [e, rn_st (fun z => hp z.1)], fun _ _ _ => rfl, by rw [rn_st (fun z => hp z.1)]; exact ev⟩
      rw [mm_reads_L171, e, raw_out t' (by omega) (by omega), bd_e, isD_e, bd_e, if_pos rfl]
theorem fr4_t {h g f : PH} (a : FR4 h g) (b : FR4 g f) : FR4 h f := ⟨fun x hx => by rw [b.1 x hx, a.1 x hx], fun j j1 j2 j3 j4 => by rw [b.2 j j1 j2 j3 j4, a.2 j j1 j2 j3 j4]⟩
theorem rd_at {B : Nat → Nat} {L : Nat} {h : PH} (t : TM B L h) (p : Nat) (hp : p ≤ L) (e12 : h 104 12 = nI p) : ∃ g, mm_reads h = some g ∧ FR4 h g ∧ g 104 12 = nI (if rn bBk B L p < L then nx B L (rn bBk B L p) else L) ∧ g 104 13 = nI (rn bBk B L p) ∧ TkM (tk B L (rn bBk B L p)) (g 104 14) (g 104 15) := by
  have tL := t.1
  obtain ⟨_, r1, _, _⟩ := rn_le bBk B L _ p rfl
  have r1 := r1 hp
  unfold mm_reads
  obtain ⟨h5, m0, f5, e5⟩ := ml0 t FU p h (by unfold FU; omega) hp (fr4_r h) e12
  rw [m0]
  generalize rn bBk B L p = q at r1 e5 ⊢
  rw [lt_e, lt_e]
  have e13 : up (up h5 104 13 (h5 104 12)) 104 14 1 104 13 = nI q := by rw [up_oj (by decide), up_same]; exact e5
  have e7 : up (up h5 104 13 (h5 104 12)) 104 14 1 104 12 = nI q := by rw [up_oj (by decide), up_oj (by decide)]; exact e5
  have e14 : up (up h5 104 13 (h5 104 12)) 104 14 1 104 14 = 1 := up_same
  have f7 : FR4 h (up (up h5 104 13 (h5 104 12)) 104 14 1) := fr4_up (fr4_up f5 (Or.inr (Or.inl rfl)) _) (Or.inr (Or.inr (Or.inl rfl))) _
  generalize up (up h5 104 13 (h5 104 12)) 104 14 1 = h7 at e13 e7 e14 f7 ⊢
  have t7 := tm_fr t f7
  rw [e7]
  by_cases c : q < L
  · have hb := (t.2.2.1 q c).2
    have nxl := nx_le B L q c
    rw [raw_in t7 c, bd_e, if_neg (nI_nm1 (by omega)), lt_e, lt_e, nI_1, if_pos c]
    have k12 : up (up h7 104 12 (nI (q + 1))) 104 15 (nI (B q)) 104 12 = nI (q + 1) := by rw [up_oj (by decide), up_same]
    have k13 : up (up h7 104 12 (nI (q + 1))) 104 15 (nI (B q)) 104 13 = nI q := by rw [up_oj (by decide), up_oj (by decide)]; exact e13
    have k14 : up (up h7 104 12 (nI (q + 1))) 104 15 (nI (B q)) 104 14 = 1 := by rw [up_oj (by decide), up_oj (by decide)]; exact e14
    have k15 : up (up h7 104 12 (nI (q + 1))) 104 15 (nI (B q)) 104 15 = nI (B q) := up_same
    have f11 : FR4 h (up (up h7 104 12 (nI (q + 1))) 104 15 (nI (B q))) := fr4_up (fr4_up f7 (Or.inl rfl) _) (Or.inr (Or.inr (Or.inr rfl))) _
    generalize up (up h7 104 12 (nI (q + 1))) 104 15 (nI (B q)) = h11 at k12 k13 k14 k15 f11 ⊢
    have t11 := tm_fr t f11
    rw [isL_m _ hb, bd_e]
    by_cases cl : bLt (B q) = true
    · have nxe : nx B L q = rn bLt B L (q + 1) := by unfold nx; rw [if_pos cl]
      have tke : tk B L q = if wI (blk B q (nx B L q)) W27 0 = -1 then (1, 0) else (2, (wI (blk B q (nx B L q)) W27 0).toInt.toNat) := by
        unfold tk
        rw [if_pos c, if_pos cl]
      obtain ⟨h29, m1, f29, x12, xo⟩ := ml95 t11 FU (q + 1) h11 (by unfold FU; omega) (by omega) (fr4_r h11) k12
      rw [← nxe] at x12
      have hl : ∀ i, i < nx B L q - q → B (q + i) ≠ 32 := fun i hi => by
        by_cases z : i = 0
        · rw [z]; exact bLt_32 cl
        · exact bLt_32 ((rn_le bLt B L _ (q + 1) rfl).2.2.1 (q + i) (by omega) (by rw [← nxe]; omega))
      rw [if_pos cl, if_neg (by decide), m1, xo 13 (by decide), k13, x12, wa_at (tm_fr t11 f29) q (nx B L q) nxl.2 nxl.1 hl, bd_e, lt_e, up_same]
      have fr := fr4_t f11 f29
      by_cases w : wI (blk B q (nx B L q)) W27 0 = -1
      · rw [if_pos w] at tke
        rw [if_pos w]
        refine ⟨_, rfl, fr4_up fr (Or.inr (Or.inr (Or.inr rfl))) _, by rw [up_oj (by decide)]; exact x12, by rw [up_oj (by decide), xo 13 (by decide)]; exact k13, Or.inr (Or.inl ⟨by rw [tke], by rw [up_oj (by decide), xo 14 (by decide)]; exact k14⟩)⟩
      · rw [if_neg w] at tke
        rw [if_neg w, lt_e]
        obtain ⟨m, m1, m2⟩ : ∃ m, m < 27 ∧ wI (blk B q (nx B L q)) W27 0 = nI m := by
          rcases word_rel 0 (by decide) (blk B q (nx B L q)) with ⟨z, _⟩ | ⟨m, z1, z2, _⟩
          · exact absurd z w
          · exact ⟨m, z1, z2⟩
        rw [m2, nI_toInt (by omega), Int.toNat_natCast] at tke
        refine ⟨_, rfl, fr4_up (fr4_up fr (Or.inr (Or.inr (Or.inr rfl))) _) (Or.inr (Or.inr (Or.inl rfl))) _, by rw [up_oj (by decide), up_oj (by decide)]; exact x12, by rw [up_oj (by decide), up_oj (by decide), xo 13 (by decide)]; exact k13, Or.inr (Or.inr (Or.inl ⟨by rw [tke], by rw [tke]; exact m1, up_same, by rw [up_oj (by decide), up_same, m2, tke]⟩))⟩
    · rw [if_neg cl, if_pos rfl, isD_m _ hb, bd_e]
      by_cases cd : bDg (B q) = true
      · have nxe : nx B L q = rn bDg B L (q + 1) := by unfold nx; rw [if_neg cl, if_pos cd]
        have d1 := bDg_r cd
        have tke : tk B L q = if nx B L q - q < 5 then (3, nv B q (nx B L q - q)) else (1, 0) := by
          unfold tk
          rw [if_pos c, if_neg cl, if_pos cd]
        have dg : ∀ i, q + i < nx B L q → bDg (B (q + i)) = true := fun i hi => by
          by_cases z : i = 0
          · rw [z]; exact cd
          · exact (rn_le bDg B L _ (q + 1) rfl).2.2.1 (q + i) (by omega) (by rw [← nxe]; exact hi)
        have f16 : FR4 h (up h11 104 15 (nI (B q) - 48)) := fr4_up f11 (Or.inr (Or.inr (Or.inr rfl))) _
        obtain ⟨h24, m1, f24, x12, xo, xv⟩ := ml171 t q FU (q + 1) (up h11 104 15 (nI (B q) - 48)) (by unfold FU; omega) (by omega) (by omega) (fun i hi => by rw [show i = 0 by omega]; exact cd) f16 (by rw [up_oj (by decide)]; exact k12) (fun _ => by
          rw [up_same, show (48 : Int32) = nI 48 from rfl, nI_sub (by omega), show q + 1 - q = 0 + 1 by omega, nv, nv, Nat.add_zero, Nat.mul_zero, Nat.zero_add])
        rw [← nxe] at x12 xv
        have y13 : h24 104 13 = nI q := by rw [xo 13 (by decide) (by decide), up_oj (by decide)]; exact k13
        have y14 : h24 104 14 = 1 := by rw [xo 14 (by decide) (by decide), up_oj (by decide)]; exact k14
        rw [if_pos cd, if_neg (by decide), lt_e, m1, x12, y13, nI_sub (by omega)]
        by_cases c5 : nx B L q - q < 5
        · rw [if_pos c5] at tke
          have lt := nv_lt B q (nx B L q - q) (fun i hi => dg i (by omega))
          have p4 : 10 ^ (nx B L q - q) ≤ 10 ^ 4 := Nat.pow_le_pow_right (by decide) (by omega)
          rw [if_neg (show ¬ (5 : Int32) ≤ nI (nx B L q - q) from nI_ge (b := 5) (by omega) (by decide)), lt_e]
          refine ⟨_, rfl, fr4_up f24 (Or.inr (Or.inr (Or.inl rfl))) _, by rw [up_oj (by decide)]; exact x12, by rw [up_oj (by decide)]; exact y13, Or.inr (Or.inr (Or.inr (Or.inl ⟨by rw [tke], by rw [tke]; show nv B q (nx B L q - q) < 10000; omega, up_same, by rw [up_oj (by decide), xv c5, tke]⟩)))⟩
        · rw [if_neg c5] at tke
          rw [if_pos (show (5 : Int32) ≤ nI (nx B L q - q) from nI_le (a := 5) (by omega) (by omega))]
          exact ⟨_, rfl, f24, x12, y13, Or.inr (Or.inl ⟨by rw [tke], y14⟩)⟩
      · have nxe : nx B L q = q + 1 := by unfold nx; rw [if_neg cl, if_neg cd]
        have tke : tk B L q = if bSg (B q) = true then (4, B q) else (1, 0) := by
          unfold tk
          rw [if_pos c, if_neg cl, if_neg cd]
        rw [if_neg cd, if_pos rfl, isS_m _ hb, bd_e]
        by_cases cs : bSg (B q) = true
        · rw [if_pos cs] at tke
          rw [if_pos cs, if_neg (by decide), lt_e]
          refine ⟨_, rfl, fr4_up f11 (Or.inr (Or.inr (Or.inl rfl))) _, by rw [up_oj (by decide), nxe]; exact k12, by rw [up_oj (by decide)]; exact k13, Or.inr (Or.inr (Or.inr (Or.inr ⟨by rw [tke], by rw [tke]; exact hb, up_same, by rw [up_oj (by decide), k15, tke]⟩)))⟩
        · rw [if_neg cs] at tke
          rw [if_neg cs, if_pos rfl]
          exact ⟨_, rfl, f11, by rw [nxe]; exact k12, k13, Or.inr (Or.inl ⟨by rw [tke], k14⟩)⟩
  · have qL : q = L := by omega
    rw [raw_out t7 (by omega) (by omega), bd_e, if_pos rfl, lt_e, if_neg c]
    refine ⟨_, rfl, fr4_up f7 (Or.inr (Or.inr (Or.inl rfl))) _, by rw [up_oj (by decide), e7, qL], by rw [up_oj (by decide)]; exact e13, Or.inl ⟨?_, up_same⟩⟩
    unfold tk
    rw [if_neg c]
