section
/-! TEXTS: line after line. Printed by wip/gen/ptext.py -/
def lfn (s : Nat) (hv : PH) : Option (Int32 × PH) := if s = 0 then mD_lawLine hv else if s = 1 then mD_skyLine hv else if s = 2 then mD_officeLine hv else mD_nextLine hv
theorem s4 {s : Nat} (hs : s < 4) : s = 0 ∨ s = 1 ∨ s = 2 ∨ s = 3 := by omega
theorem r43_0 {s n r : Nat} (hr : r ≤ 16) {hv : PH} (e : hv 90 6 = 0) : mD_reads_L43 (nI s) (refC 1) (refC 3) (n + 1) (nI r) hv = some (1, hv) := by
  rw [mD_reads_L43, if_neg (show ¬ (16 : Int32) < nI r from nI_nlt (a := 16) hr (by decide)), if_pos e]
theorem r43_bad {s n r : Nat} (hs : s < 4) (hr : r ≤ 16) {hv : PH} (e0 : ¬ hv 90 6 = 0) (e : hv 90 6 = 1 → ∃ w, w < 1000 ∧ hv 90 7 = nI w ∧ (if s = 0 then 2 else 0) < w) : mD_reads_L43 (nI s) (refC 1) (refC 3) (n + 1) (nI r) hv = refC 1 hv := by
  rw [mD_reads_L43, if_neg (show ¬ (16 : Int32) < nI r from nI_nlt (a := 16) hr (by decide)), if_neg e0]
  by_cases c : hv 90 6 = 1
  · obtain ⟨w, w1, w2, w3⟩ := e c
    rw [if_pos c, jn1_e]
    rcases s4 hs with h | h | h | h
    · subst h
      rw [if_pos rfl] at w3
      rw [if_pos (show nI 0 = (0 : Int32) from rfl)]
      try dsimp only
      rw [w2, if_neg (show ¬ nI w ≤ (2 : Int32) from nI_ge (a := 2) w3 (by omega))]
    all_goals
      subst h
      rw [if_neg (by decide)] at w3
      rw [if_neg (by decide)]
      try dsimp only
      rw [w2, if_neg (show ¬ nI w ≤ (0 : Int32) from nI_ge (a := 0) w3 (by omega))]
  · rw [if_neg c]
theorem r43_go {s n r w : Nat} (hs : s < 4) (hr : r ≤ 16) {hv : PH} (e : hv 90 6 = 1) (ew : hv 90 7 = nI w) (hw : w ≤ (if s = 0 then 2 else 0)) : mD_reads_L43 (nI s) (refC 1) (refC 3) (n + 1) (nI r) hv = if r = 16 then refC 3 hv else bd2 (lfn s hv) fun x11 h12 => if x11 = 0 then some (0, h12) else mD_reads_L43 (nI s) (refC 1) (refC 3) n (nI (r + 1)) h12 := by
  have w2 : w ≤ 2 := by split at hw <;> omega
  have lim : (if nI s = (0 : Int32) then (if nI w ≤ (2 : Int32) then True else False) else (if nI w ≤ (0 : Int32) then True else False)) := by
    rcases s4 hs with h | h | h | h
    · subst h
      rw [if_pos (show nI 0 = (0 : Int32) from rfl), if_pos (show nI w ≤ (2 : Int32) from nI_le (b := 2) w2 (by decide))]
      trivial
    all_goals
      subst h
      rw [if_neg (by decide)] at hw
      rw [if_neg (by decide), if_pos (show nI w ≤ (0 : Int32) from nI_le (b := 0) hw (by decide))]
      trivial
  have c16 : nI r = (16 : Int32) ↔ r = 16 := nI_eq (b := 16) (by omega) (by decide)
  rw [mD_reads_L43, if_neg (show ¬ (16 : Int32) < nI r from nI_nlt (a := 16) hr (by decide)), e, if_neg no10, if_pos rfl, jn1_e, ew]
  have fin : ∀ x9 : Int32, nI w ≤ x9 → ∀ X Y : Option (Int32 × PH), (if nI w ≤ x9 then X else Y) = X := fun x9 h X Y => if_pos h
  have body : (if nI r = (16 : Int32) then refC 3 hv else jn2 (fun (x11 : Int32) (h12 : PH) => if x11 = 0 then some (0, h12) else mD_reads_L43 (nI s) (refC 1) (refC 3) n (nI r + 1) h12) fun j10 => if nI s = 0 then bd2 (mD_lawLine hv) fun r13 h14 => j10 r13 h14 else if nI s = 1 then bd2 (mD_skyLine hv) fun r15 h16 => j10 r15 h16 else if nI s = 2 then bd2 (mD_officeLine hv) fun r17 h18 => j10 r17 h18 else bd2 (mD_nextLine hv) fun r19 h20 => j10 r19 h20) = if r = 16 then refC 3 hv else bd2 (lfn s hv) fun x11 h12 => if x11 = 0 then some (0, h12) else mD_reads_L43 (nI s) (refC 1) (refC 3) n (nI (r + 1)) h12 := by
    by_cases c : r = 16
    · rw [if_pos (c16.mpr c), if_pos c]
    · rw [if_neg (fun z => c (c16.mp z)), if_neg c, jn2_e, nI_1]
      rcases s4 hs with h | h | h | h <;> subst h <;> rfl
  rcases s4 hs with h | h | h | h
  · subst h
    rw [if_pos (show nI 0 = (0 : Int32) from rfl)]
    try dsimp only
    rw [fin 2 (nI_le (b := 2) w2 (by decide))]
    exact body
  all_goals
    subst h
    rw [if_neg (by decide)] at hw
    rw [if_neg (show ¬ nI _ = (0 : Int32) by decide)]
    try dsimp only
    rw [fin 0 (nI_le (b := 0) hw (by decide))]
    exact body
def kEnd (x8 : Int32) (h9 : PH) : Option (Int32 × PH) := if (h9 104 14) = 0 then some (x8, h9) else bd2 (mm_errs 1 h9) fun r10 h11 => some (r10, h11)
/-- what a text leaves -/
def TXR (rc rm : Option (Int32 × PH)) : Prop := (∃ r gc gm, r ≤ 16 ∧ rc = some (1, gc) ∧ rm = some (nI r, gm) ∧ gc 91 3 = nI r ∧ gc 90 2 = 0 ∧ gc 90 3 = -1) ∨ ∃ gc gm, rc = some (0, gc) ∧ rm = some (-1, gm) ∧ FF gc gm
theorem txr_err {s : Nat} {B : Nat → Nat} {L N i w : Nat} {C : List (Nat × Nat)} {hc hm : PH} (j : JJ s B L N i w C hc hm) (p : Int32) : TXR (refC p hc) (bd2 (mm_errs p hm) fun r h => some (r, h)) := by
  obtain ⟨gc, gm, r1, r2, r3, r4, r5⟩ := j_ref j p
  unfold refC
  rw [r1, bd2_e, r2, bd2_e]
  exact Or.inr ⟨gc, gm, rfl, rfl, r3⟩
theorem m_k0 {B : Nat → Nat} {L i : Nat} {h : PH} (m : MU B L i h) : (h 104 14 = 0 ↔ (tt B L i).1 = 0) := by
  have k : TkM (tt B L i) (h 104 14) (h 104 15) := m.2.2.2
  rcases k with ⟨a, e⟩ | ⟨a, e⟩ | ⟨a, _, e, _⟩ | ⟨a, _, e, _⟩ | ⟨a, _, e, _⟩ <;> rw [a, e] <;> decide
theorem c_k0 {s : Nat} {B : Nat → Nat} {L N i : Nat} {h : PH} (c : CU s B L N i h) : (h 90 6 = 0 ↔ (tt B L i).1 = 0) := by
  rcases cu_tk c with ⟨a, e⟩ | ⟨a, e⟩ | ⟨a, _, ⟨_, _, _, e, _⟩ | ⟨e, _⟩⟩ | ⟨a, _, e, _⟩ | ⟨a, _, e, _⟩ <;> rw [a, e] <;> decide
/-- the first word of a line, in the text's own list -/
def m0 (s : Nat) : Nat := if s = 3 then 25 else 19
theorem wv_0 : ∀ s, s < 4 → s ≠ 0 → (wv s).getD 0 99 = m0 s ∧ 0 < (wv s).length := by decide
theorem c_line {s : Nat} {B : Nat → Nat} {L N i : Nat} {h : PH} (hs : s < 4) (s0 : s ≠ 0) (c : CU s B L N i h) (x : (tt B L i).1 = 2 ∧ (tt B L i).2 = m0 s) : h 90 6 = 1 ∧ h 90 7 = nI 0 := by
  obtain ⟨a, b⟩ := wv_0 s hs s0
  rcases c_wv c x.1 with ⟨w, y1, y2, y3, y4⟩ | ⟨_, y2⟩
  · have : w = 0 := wv_inj s hs w y1 0 b (by rw [y2, x.2, a])
    rw [← this]
    exact ⟨y3, y4⟩
  · exact absurd (by rw [a, x.2]) (y2 0 b)
theorem c_noline {s : Nat} {B : Nat → Nat} {L N i : Nat} {h : PH} (hs : s < 4) (s0 : s ≠ 0) (c : CU s B L N i h) (x : ¬ ((tt B L i).1 = 2 ∧ (tt B L i).2 = m0 s)) (e : h 90 6 = 1) : ∃ w, w < 1000 ∧ h 90 7 = nI w ∧ (if s = 0 then 2 else 0) < w := by
  obtain ⟨a, b⟩ := wv_0 s hs s0
  have l := (wk_l s hs).2
  have t2 : (tt B L i).1 = 2 := by
    apply Classical.byContradiction
    intro z
    exact c_nw c z e
  rcases c_wv c t2 with ⟨w, y1, y2, y3, y4⟩ | ⟨y1, _⟩
  · refine ⟨w, by omega, y4, ?_⟩
    rw [if_neg s0]
    apply Classical.byContradiction
    intro z
    have : w = 0 := by omega
    rw [this, a] at y2
    exact x ⟨t2, y2.symm⟩
  · rw [y1] at e; exact absurd e (by decide)
theorem lp_sky {B : Nat → Nat} {L N H : Nat} : ∀ (n nM r i : Nat) (hc hm : PH), 17 < n + r → 17 < nM + r → r ≤ 16 → JJ 1 B L N i 0 [] hc hm → CR r hc → HH H hc hm → TXR (mD_reads_L43 (nI 1) (refC 1) (refC 3) n (nI r) hc) (mm_readSky_L2 ka3 kEnd nM (nI r) hm) := by
  intro n
  induction n with
  | zero => intro nM r i hc hm h1 h2 h3; omega
  | succ n ih =>
    intro nM r i hc hm h1 h2 h3 j cr hh
    cases nM with
    | zero => omega
    | succ nM =>
    rw [mm_readSky_L2]
    by_cases x : (tt B L i).1 = 2 ∧ (tt B L i).2 = 19
    · obtain ⟨c1, c2⟩ := c_line (s := 1) (by decide) (by decide) j.1 x
      rw [r43_go (s := 1) (w := 0) (by decide) h3 c1 c2 (Nat.zero_le _), show mm_isWord 19 hm = some 1 from m_w1 (x := 19) j.2.1 x (by decide), bd_e, if_neg no10]
      by_cases c16 : r = 16
      · rw [if_pos c16, if_pos (show nI r = (16 : Int32) by rw [c16]; rfl)]
        exact txr_err j 3
      · rw [if_neg c16, if_neg (show ¬ nI r = (16 : Int32) from fun z => c16 ((nI_eq (b := 16) (by omega) (by decide)).mp z)), show (48 : Int32) + 3 * nI r = nI (48 + 3 * r) by rw [show (3 : Int32) * nI r = nI (3 * r) from nI_mul 3 r]; exact nI_add 48 _, show lfn 1 hc = _ from rfl]
        rcases sk_sim j cr (by omega) x with ⟨i2, gc, gm, a1, a2, a3, a4, a5, a6, a7⟩ | ⟨gc, gm, a1, a2, a3⟩
        · have hm6 : gm 104 6 = hm 104 6 := fkm_readSkyLine _ hm a3 104 6 (show kk 104 6 ∉ FKdm_readSkyLine _ from (by decide : 1006 ∉ FKdm_readSkyLine 0))
          rw [show lfn 1 hc = some (1, gc) from a2, bd2_e, if_neg no10, a3, bd2_e, if_neg (show ¬ (0 : Int32) = -1 by decide), lt_e, nI_1]
          exact ih nM (r + 1) i2 gc gm (by omega) (by omega) (by omega) a4 a5 (hh_t hh a7.2.1 hm6)
        · rw [show lfn 1 hc = some (0, gc) from a1, bd2_e, if_pos rfl, a2, bd2_e, if_pos rfl]
          exact Or.inr ⟨gc, gm, rfl, rfl, a3⟩
    · rw [show mm_isWord 19 hm = some 0 from m_w0 (x := 19) j.2.1 x (by decide), bd_e, if_pos rfl]
      unfold kEnd
      by_cases c0 : (tt B L i).1 = 0
      · rw [r43_0 h3 ((c_k0 j.1).mpr c0), if_pos ((m_k0 j.2.1).mpr c0)]
        exact Or.inl ⟨r, hc, hm, h3, rfl, rfl, cr.2.2, j.1.2.2.2.2.2.1, j.1.2.2.2.2.2.2⟩
      · rw [r43_bad (s := 1) (by decide) h3 (fun z => c0 ((c_k0 j.1).mp z)) (c_noline (by decide) (by decide) j.1 x), if_neg (fun z => c0 ((m_k0 j.2.1).mp z))]
        exact txr_err j 1
theorem lp_office {B : Nat → Nat} {L N H : Nat} : ∀ (n nM r i : Nat) (hc hm : PH), 17 < n + r → 17 < nM + r → r ≤ 16 → JJ 2 B L N i 0 [] hc hm → CR r hc → HH H hc hm → TXR (mD_reads_L43 (nI 2) (refC 1) (refC 3) n (nI r) hc) (mm_readOffice_L2 ka3 kEnd nM (nI r) hm) := by
  intro n
  induction n with
  | zero => intro nM r i hc hm h1 h2 h3; omega
  | succ n ih =>
    intro nM r i hc hm h1 h2 h3 j cr hh
    cases nM with
    | zero => omega
    | succ nM =>
    rw [mm_readOffice_L2]
    by_cases x : (tt B L i).1 = 2 ∧ (tt B L i).2 = 19
    · obtain ⟨c1, c2⟩ := c_line (s := 2) (by decide) (by decide) j.1 x
      rw [r43_go (s := 2) (w := 0) (by decide) h3 c1 c2 (Nat.zero_le _), show mm_isWord 19 hm = some 1 from m_w1 (x := 19) j.2.1 x (by decide), bd_e, if_neg no10]
      by_cases c16 : r = 16
      · rw [if_pos c16, if_pos (show nI r = (16 : Int32) by rw [c16]; rfl)]
        exact txr_err j 3
      · rw [if_neg c16, if_neg (show ¬ nI r = (16 : Int32) from fun z => c16 ((nI_eq (b := 16) (by omega) (by decide)).mp z)), show (80 : Int32) + 5 * nI r = nI (80 + 5 * r) by rw [show (5 : Int32) * nI r = nI (5 * r) from nI_mul 5 r]; exact nI_add 80 _, show lfn 2 hc = _ from rfl]
        rcases of_sim j cr (by omega) hh x with ⟨i2, gc, gm, a1, a2, a3, a4, a5, a6, a7⟩ | ⟨gc, gm, a1, a2, a3⟩
        · have hm6 : gm 104 6 = hm 104 6 := fkm_readDeed _ hm a3 104 6 (show kk 104 6 ∉ FKdm_readDeed _ from (by decide : 1006 ∉ FKdm_readDeed 0))
          rw [show lfn 2 hc = some (1, gc) from a2, bd2_e, if_neg no10, a3, bd2_e, if_neg (show ¬ (0 : Int32) = -1 by decide), lt_e, nI_1]
          exact ih nM (r + 1) i2 gc gm (by omega) (by omega) (by omega) a4 a5 (hh_t hh a7.2.1 hm6)
        · rw [show lfn 2 hc = some (0, gc) from a1, bd2_e, if_pos rfl, a2, bd2_e, if_pos rfl]
          exact Or.inr ⟨gc, gm, rfl, rfl, a3⟩
    · rw [show mm_isWord 19 hm = some 0 from m_w0 (x := 19) j.2.1 x (by decide), bd_e, if_pos rfl]
      unfold kEnd
      by_cases c0 : (tt B L i).1 = 0
      · rw [r43_0 h3 ((c_k0 j.1).mpr c0), if_pos ((m_k0 j.2.1).mpr c0)]
        exact Or.inl ⟨r, hc, hm, h3, rfl, rfl, cr.2.2, j.1.2.2.2.2.2.1, j.1.2.2.2.2.2.2⟩
      · rw [r43_bad (s := 2) (by decide) h3 (fun z => c0 ((c_k0 j.1).mp z)) (c_noline (by decide) (by decide) j.1 x), if_neg (fun z => c0 ((m_k0 j.2.1).mp z))]
        exact txr_err j 1
theorem lp_next {B : Nat → Nat} {L N H : Nat} : ∀ (n nM r i : Nat) (hc hm : PH), 17 < n + r → 17 < nM + r → r ≤ 16 → JJ 3 B L N i 0 [] hc hm → CR r hc → HH H hc hm → TXR (mD_reads_L43 (nI 3) (refC 1) (refC 3) n (nI r) hc) (mm_readNexts_L26 ka3 kEnd nM (nI r) hm) := by
  intro n
  induction n with
  | zero => intro nM r i hc hm h1 h2 h3; omega
  | succ n ih =>
    intro nM r i hc hm h1 h2 h3 j cr hh
    cases nM with
    | zero => omega
    | succ nM =>
    rw [mm_readNexts_L26]
    by_cases x : (tt B L i).1 = 2 ∧ (tt B L i).2 = 25
    · obtain ⟨c1, c2⟩ := c_line (s := 3) (by decide) (by decide) j.1 x
      rw [r43_go (s := 3) (w := 0) (by decide) h3 c1 c2 (Nat.zero_le _), show mm_isWord 25 hm = some 1 from m_w1 (x := 25) j.2.1 x (by decide), bd_e, if_neg no10]
      by_cases c16 : r = 16
      · rw [if_pos c16, if_pos (show nI r = (16 : Int32) by rw [c16]; rfl)]
        exact txr_err j 3
      · rw [if_neg c16, if_neg (show ¬ nI r = (16 : Int32) from fun z => c16 ((nI_eq (b := 16) (by omega) (by decide)).mp z)), show lfn 3 hc = _ from rfl]
        rcases nx_sim j cr (by omega) hh x with ⟨i2, gc, gm, a1, a2, a3, a4, a5, a6, a7⟩ | ⟨gc, gm, a1, a2, a3⟩
        · have hm6 : gm 104 6 = hm 104 6 := fkm_readNext hm a3 104 6 (show kk 104 6 ∉ FKdm_readNext from (by decide : 1006 ∉ FKdm_readNext))
          rw [show lfn 3 hc = some (1, gc) from a2, bd2_e, if_neg no10, a3, bd2_e, if_neg (show ¬ (0 : Int32) = -1 by decide), lt_e, nI_1]
          exact ih nM (r + 1) i2 gc gm (by omega) (by omega) (by omega) a4 a5 (hh_t hh a7.2.1 hm6)
        · rw [show lfn 3 hc = some (0, gc) from a1, bd2_e, if_pos rfl, a2, bd2_e, if_pos rfl]
          exact Or.inr ⟨gc, gm, rfl, rfl, a3⟩
    · rw [show mm_isWord 25 hm = some 0 from m_w0 (x := 25) j.2.1 x (by decide), bd_e, if_pos rfl]
      unfold kEnd
      by_cases c0 : (tt B L i).1 = 0
      · rw [r43_0 h3 ((c_k0 j.1).mpr c0), if_pos ((m_k0 j.2.1).mpr c0)]
        exact Or.inl ⟨r, hc, hm, h3, rfl, rfl, cr.2.2, j.1.2.2.2.2.2.1, j.1.2.2.2.2.2.2⟩
      · rw [r43_bad (s := 3) (by decide) h3 (fun z => c0 ((c_k0 j.1).mp z)) (c_noline (by decide) (by decide) j.1 x), if_neg (fun z => c0 ((m_k0 j.2.1).mp z))]
        exact txr_err j 1
theorem lp_law {B : Nat → Nat} {L N : Nat} : ∀ (n nM r i : Nat) (Ls : List (Nat × List (Nat × Nat) × List (Nat × Nat))) (hc hm : PH), 17 < n + r → 17 < nM + r → r ≤ 16 → JL 0 B L N i (cdo Ls) r hc hm → Ls.length = r → LCl Ls hc → LMl Ls hm → LQ Ls → TXR (mD_reads_L43 (nI 0) (refC 1) (refC 3) n (nI r) hc) (mm_readLaw_L2 ka3 kp1 kEnd nM (nI r) hm) := by
  intro n
  induction n with
  | zero => intro nM r i Ls hc hm h1 h2 h3; omega
  | succ n ih =>
    intro nM r i Ls hc hm h1 h2 h3 j hl lc lm lq
    cases nM with
    | zero => omega
    | succ nM =>
    by_cases x : ∃ w, w < 3 ∧ (tt B L i).1 = 2 ∧ (tt B L i).2 = w
    · obtain ⟨w, hw, x1, x2⟩ := x
      obtain ⟨c1, c2⟩ := c_lw j.1.1 ⟨x1, x2⟩ (by omega)
      rw [r43_go (s := 0) (w := w) (by decide) h3 c1 c2 (by show w ≤ 2; omega)]
      by_cases c16 : r = 16
      · obtain ⟨mw1, mw2⟩ := m_lw j.1.2.1 ⟨x1, x2⟩
        have ilw : mm_isLineWord hm = some 1 := by
          unfold mm_isLineWord
          rw [mw1, if_pos rfl, mw2, isIn_y (show (0 : Int32) ≤ nI w ∧ nI w ≤ (2 : Int32) from ⟨nI_le (a := 0) (by omega) (by omega), nI_le (b := 2) (by omega) (by decide)⟩), bd_e, if_neg no10]
        rw [if_pos c16, mm_readLaw_L2, ilw, bd_e, if_neg no10, if_pos (show nI r = (16 : Int32) by rw [c16]; rfl)]
        exact txr_err j.1 3
      · rw [if_neg c16, show lfn 0 hc = mD_lawLine hc from rfl]
        rcases ll_sim ka3 kEnd nM j hl lc lm lq (by omega) ⟨x1, x2⟩ hw with ⟨i2, Ls2, gc, gm, a1, a2, a3, a4, a5, a6, a7, a8, a9, a10⟩ | ⟨gc, gm, a1, a2, a3, a4, a5⟩
        · rw [a2, bd2_e, if_neg no10, a3]
          exact ih nM (r + 1) i2 Ls2 gc gm (by omega) (by omega) (by omega) a4 a5 a6 a7 a8
        · rw [a1, bd2_e, if_pos rfl, a2]
          exact Or.inr ⟨gc, gm, rfl, rfl, a3⟩
    · have ilw : mm_isLineWord hm = some 0 := by
        unfold mm_isLineWord
        have k : TkM (tt B L i) (hm 104 14) (hm 104 15) := j.1.2.1.2.2.2
        rcases k with ⟨_, e⟩ | ⟨_, e⟩ | ⟨a, a2, e, e2⟩ | ⟨_, _, e, _⟩ | ⟨_, _, e, _⟩
        · rw [e, if_neg (by decide)]
        · rw [e, if_neg (by decide)]
        · rw [if_pos e, e2, isIn_n (fun z => ?_), bd_e, if_pos rfl]
          have z2 : (tt B L i).2 ≤ 2 := (nI_leI (b := 2) (by omega) (by decide)).mp z.2
          exact x ⟨_, by omega, a, rfl⟩
        · rw [e, if_neg (by decide)]
        · rw [e, if_neg (by decide)]
      rw [mm_readLaw_L2, ilw, bd_e, if_pos rfl]
      unfold kEnd
      by_cases c0 : (tt B L i).1 = 0
      · rw [r43_0 h3 ((c_k0 j.1.1).mpr c0), if_pos ((m_k0 j.1.2.1).mpr c0)]
        exact Or.inl ⟨r, hc, hm, h3, rfl, rfl, j.2.1.2.2, j.1.1.2.2.2.2.2.1, j.1.1.2.2.2.2.2.2⟩
      · rw [r43_bad (s := 0) (by decide) h3 (fun z => c0 ((c_k0 j.1.1).mp z)) (fun e => ?_), if_neg (fun z => c0 ((m_k0 j.1.2.1).mp z))]
        · exact txr_err j.1 1
        · have t2 : (tt B L i).1 = 2 := by
            apply Classical.byContradiction
            intro z
            exact c_nw j.1.1 z e
          rcases c_wv j.1.1 t2 with ⟨w, y1, y2, y3, y4⟩ | ⟨y1, _⟩
          · rw [wv0l] at y1
            rw [wv0 w y1] at y2
            refine ⟨w, by omega, y4, ?_⟩
            rw [if_pos rfl]
            apply Classical.byContradiction
            intro z
            exact x ⟨w, by omega, t2, y2.symm⟩
          · rw [y1] at e; exact absurd e (by decide)
/-! a text, from the tape on -/
theorem r43_g (p : Int32) (n : Nat) (v : Int32) (h : PH) : mD_reads_L43 p (fun (h21 : PH) => bd2 (mD_refuse 1 h21) fun r22 h23 => some (nb r22, h23)) (fun (h24 : PH) => bd2 (mD_refuse 3 h24) fun r25 h26 => some (nb r25, h26)) n v h = mD_reads_L43 p (refC 1) (refC 3) n v h := rfl
theorem d_reads {s : Nat} (hs : s < 4) {B : Nat → Nat} {L : Nat} {h : PH} (t : TC B L h) (i : Inv h) (f2 : h 90 2 = 0) (f3 : h 90 3 = -1) (p2 : Int32) : ∃ N hc, mD_reads (nI s) p2 h = mD_reads_L43 (nI s) (refC 1) (refC 3) FU (nI 0) hc ∧ CU s B L N 0 hc ∧ CC [] hc ∧ CR 0 hc ∧ hc 90 8 = p2 := by
  obtain ⟨N, g, g1, g2, g3⟩ := sc_at s hs B L h t
  have wo : mD_wordsOf (nI s) h = some s := by
    rcases s4 hs with e | e | e | e <;> subst e <;> rfl
  have r93 := rows_n (a := 93) (m := 400) (w := 2) rfl (by decide) (by decide) i
  have r91 := rows_n (a := 91) (m := 16) (w := 5) rfl (by decide) (by decide) i
  have b90 : g 90 = h 90 := g3 90 (by decide) (by decide) (by decide) (by decide)
  have b91 : g 91 = h 91 := g3 91 (by decide) (by decide) (by decide) (by decide)
  have b93 : g 93 = h 93 := g3 93 (by decide) (by decide) (by decide) (by decide)
  have c6 : CTk s B L N (up (up (up (up g 90 8 p2) 91 3 0) 93 3 0) 90 5 (-1)) := ctk_b g2 (by rw [up_cell (by decide), up_cell (by decide), up_cell (by decide), up_cell (by decide)]) (by rw [up_cell (by decide), up_cell (by decide), up_cell (by decide), up_cell (by decide)]) (by rw [up_cell (by decide), up_cell (by decide), up_cell (by decide), up_cell (by decide)]) (by rw [up_cell (by decide), up_cell (by decide), up_cell (by decide), up_cell (by decide)]) (by rw [up_cell (by decide), up_cell (by decide), up_cell (by decide), up_cell (by decide)])
  obtain ⟨a1, a2⟩ := av_at c6 0 (Nat.zero_le _) (by rw [up_same]; decide) ⟨by rw [up_oj (by decide), up_oc (by decide), up_oc (by decide), up_oj (by decide), b90]; exact f2, by rw [up_oj (by decide), up_oc (by decide), up_oc (by decide), up_oj (by decide), b90]; exact f3⟩
  have v8 : up (up (up (up g 90 8 p2) 91 3 0) 93 3 0) 90 5 (-1) 90 8 = p2 := by rw [up_oj (by decide), up_oc (by decide), up_oc (by decide), up_same]
  have v93 : ∀ j, up (up (up (up g 90 8 p2) 91 3 0) 93 3 0) 90 5 (-1) 93 j = if j = 3 then 0 else h 93 j := fun j => by
    rw [up_oc (by decide), up_at, if_pos rfl, up_oc (by decide), up_oc (by decide), b93]
  have v91 : ∀ j, up (up (up (up g 90 8 p2) 91 3 0) 93 3 0) 90 5 (-1) 91 j = if j = 3 then 0 else h 91 j := fun j => by
    rw [up_oc (by decide), up_oc (by decide), up_at, if_pos rfl, up_oc (by decide), b91]
  refine ⟨N, avH (up (up (up (up g 90 8 p2) 91 3 0) 93 3 0) 90 5 (-1)) 0, ?_, a2, ⟨?_, ?_, ?_, fun j k v hj => by cases hj⟩, ⟨?_, ?_, ?_⟩, ?_⟩
  · unfold mD_reads
    rw [wo, bd_e, g1, bd_e, lt_e, lt_e, lt_e, lt_e, a1, bd_e, nI_0]
    exact r43_g _ FU _ _
  · rw [avH_b _ _ 93 (by decide), v93, if_neg (by decide)]; exact r93.1
  · rw [avH_b _ _ 93 (by decide), v93, if_neg (by decide)]; exact r93.2
  · rw [avH_b _ _ 93 (by decide), v93, if_pos rfl]; rfl
  · rw [avH_b _ _ 91 (by decide), v91, if_neg (by decide)]; exact r91.1
  · rw [avH_b _ _ 91 (by decide), v91, if_neg (by decide)]; exact r91.2
  · rw [avH_b _ _ 91 (by decide), v91, if_pos rfl]; rfl
  · rw [avH_o _ _ 8 (by decide) (by decide) (by decide)]; exact v8
theorem bd2_id (x : Option (Int32 × PH)) : (bd2 x fun r h => some (r, h)) = x := by
  cases x with
  | none => rfl
  | some p => rfl
theorem law_g (n : Nat) (h : PH) : mm_readLaw_L2 (fun (h19 : PH) => bd2 (mm_errs 3 h19) fun r20 h21 => some (r20, h21)) (fun (h22 : PH) => bd2 (mm_errs 1 h22) fun r23 h24 => some (r23, h24)) (fun (x25 : Int32) (h26 : PH) => if (h26 104 14) = 0 then some (x25, h26) else bd2 (mm_errs 1 h26) fun r27 h28 => some (r27, h28)) n 0 h = mm_readLaw_L2 ka3 kp1 kEnd n 0 h := rfl
theorem sky_g (n : Nat) (h : PH) : mm_readSky_L2 (fun (h5 : PH) => bd2 (mm_errs 3 h5) fun r6 h7 => some (r6, h7)) (fun (x8 : Int32) (h9 : PH) => if (h9 104 14) = 0 then some (x8, h9) else bd2 (mm_errs 1 h9) fun r10 h11 => some (r10, h11)) n 0 h = mm_readSky_L2 ka3 kEnd n 0 h := rfl
theorem off_g (n : Nat) (h : PH) : mm_readOffice_L2 (fun (h5 : PH) => bd2 (mm_errs 3 h5) fun r6 h7 => some (r6, h7)) (fun (x8 : Int32) (h9 : PH) => if (h9 104 14) = 0 then some (x8, h9) else bd2 (mm_errs 1 h9) fun r10 h11 => some (r10, h11)) n 0 h = mm_readOffice_L2 ka3 kEnd n 0 h := rfl
theorem nxt_g (n : Nat) (h : PH) : mm_readNexts_L26 (fun (h7 : PH) => bd2 (mm_errs 3 h7) fun r8 h9 => some (r8, h9)) (fun (x10 : Int32) (h11 : PH) => if (h11 104 14) = 0 then some (x10, h11) else bd2 (mm_errs 1 h11) fun r12 h13 => some (r12, h13)) n 0 h = mm_readNexts_L26 ka3 kEnd n 0 h := rfl
theorem nx_zero : ∀ (n k : Nat) (h : PH), 12 < n + k → k ≤ 12 → ∃ g, (∀ k0 : PH → Option (Int32 × PH), mm_readNexts_L2 k0 n (nI k) h = k0 g) ∧ ∀ b, b ≠ 123 → g b = h b := by
  intro n
  induction n with
  | zero => intro k h h1 h2; omega
  | succ n ih =>
    intro k h h1 h2
    by_cases c : k = 12
    · exact ⟨h, fun k0 => by rw [mm_readNexts_L2, if_pos (by rw [c]; decide)], fun _ _ => rfl⟩
    · obtain ⟨g, g1, g2⟩ := ih (k + 1) (up h 123 (12 + k) 0) (by omega) (by omega)
      refine ⟨g, fun k0 => ?_, fun b hb => by rw [g2 b hb, up_cell hb]⟩
      rw [mm_readNexts_L2, if_neg (show ¬ (12 : Int32) ≤ nI k from nI_ge (b := 12) (by omega) (by decide)), show (12 : Int32) + nI k = nI (12 + k) from nI_add 12 k, ck_nI (show 12 + k < 24 by omega) (by decide), lt_e, show ix (nI (12 + k)) = 12 + k from nI_clamp (by omega), nI_1, g1]
theorem tx_read {s : Nat} (hs : s < 4) {B : Nat → Nat} {L H : Nat} {hF hM : PH} (t : TC B L hF) (i : Inv hF) (f2 : hF 90 2 = 0) (f3 : hF 90 3 = -1) (tm : TM B L hM) (m12 : hM 104 12 = 0) (m25 : hM 104 25 = 0) (m26 : hM 104 26 = 0) (h12 : H ≤ 12) (m6 : hM 104 6 = nI H) : TXR (mD_reads (nI s) (nI H) hF) (mm_readsText (nI s) hM) := by
  obtain ⟨N, hc, d1, d2, d3, d4, d5⟩ := d_reads hs t i f2 f3 (nI H)
  have tm1 : TM B L (up hM 104 24 0) := ⟨tm.1, by rw [up_oj (by decide)]; exact tm.2.1, fun j hj => by rw [up_oc (by decide)]; exact tm.2.2.1 j hj, fun j hj => by rw [up_oc (by decide)]; exact tm.2.2.2 j hj⟩
  obtain ⟨hm, e1, e2, e3⟩ := mu_first tm1 (by rw [up_oj (by decide)]; exact m12)
  have q25 : hm 104 25 = 0 := by rw [e2.2 25 (by decide) (by decide) (by decide) (by decide), up_oj (by decide)]; exact m25
  have q26 : hm 104 26 = 0 := by rw [e2.2 26 (by decide) (by decide) (by decide) (by decide), up_oj (by decide)]; exact m26
  have q6 : hm 104 6 = nI H := by rw [e2.2 6 (by decide) (by decide) (by decide) (by decide), up_oj (by decide)]; exact m6
  have jj : JJ s B L N 0 0 [] hc hm := ⟨d2, e3, d3, ⟨q25, fun j k v hj => by cases hj⟩, Nat.le_refl _⟩
  have hh : HH H hc hm := ⟨h12, d5, q6⟩
  rw [d1]
  unfold mm_readsText
  rw [lt_e, e1, bd_e, bd2_id, bd2_id, bd2_id, bd2_id]
  rcases s4 hs with e | e | e | e
  · subst e
    rw [if_neg (by decide), if_neg (by decide), if_neg (by decide)]
    unfold mm_readLaw
    rw [law_g, ← nI_0]
    exact lp_law FU FU 0 0 [] hc hm (by unfold FU; omega) (by unfold FU; omega) (by decide) ⟨jj, d4, q26⟩ rfl (fun q w A W hq => by cases hq) (fun q w A W hq => by cases hq) (fun l hl => by cases hl)
  · subst e
    rw [if_pos (show nI 1 = (1 : Int32) from rfl)]
    unfold mm_readSky
    rw [sky_g, ← nI_0]
    exact lp_sky (H := H) FU FU 0 0 hc hm (by unfold FU; omega) (by unfold FU; omega) (by decide) jj d4 hh
  · subst e
    rw [if_neg (by decide), if_pos (show nI 2 = (2 : Int32) from rfl)]
    unfold mm_readOffice
    rw [off_g, ← nI_0]
    exact lp_office (H := H) FU FU 0 0 hc hm (by unfold FU; omega) (by unfold FU; omega) (by decide) jj d4 hh
  · subst e
    obtain ⟨g, g1, g2⟩ := nx_zero FU 0 hm (by unfold FU; omega) (by decide)
    rw [nI_0] at g1
    rw [if_neg (by decide), if_neg (by decide), if_pos (show nI 3 = (3 : Int32) from rfl)]
    unfold mm_readNexts
    rw [g1, nxt_g, ← nI_0]
    exact lp_next (H := H) FU FU 0 0 hc g (by unfold FU; omega) (by unfold FU; omega) (by decide) ⟨jj.1, mu_of jj.2.1 (g2 111 (by decide)) (g2 112 (by decide)) (fun q _ _ => by rw [g2 104 (by decide)]), jj.2.2.1, mc_of jj.2.2.2.1 (g2 118 (by decide)) (g2 119 (by decide)) (by rw [g2 104 (by decide)]), jj.2.2.2.2⟩ d4 (hh_t hh rfl (by rw [g2 104 (by decide)]))
/-! THE CALLS text and fault -/
def TPR (h : PH) : Prop := ∀ j : Nat, (j : Int) < (h 104 11).toInt → (h 86 j &&& 255) = h 111 j ∧ R 0 255 (h 111 j)
def RTX (h : PH) : Prop := TPR h ∧ h 90 2 = h 104 31 ∧ h 90 3 = h 104 32
theorem kt_91 (p : Int32) (h : PH) {x : Int32} {g : PH} (e : mX_keepText p h = some (x, g)) : x = h 91 3 ∧ g 90 = h 90 := by
  refine ⟨?_, fpX_keepText p h e 90 (show 90 ∉ FPdX_keepText p from (by decide : 90 ∉ FPdX_keepText 0))⟩
  have cp : ∀ (a b : Nat) (q g : PH), mR_copyFrom a b q = some g → 91 ∉ FPdR_copyFrom a b → g 91 = q 91 := fun a b q g e n => fpR_copyFrom a b q e 91 n
  unfold mX_keepText at e
  split at e
  · obtain ⟨h1, q1, e⟩ := bd_s e
    obtain ⟨h2, q2, e⟩ := bd_s e
    cases e
    rw [cp 8 93 h1 _ q2 (by decide), cp 6 91 h _ q1 (by decide)]
  · split at e
    · obtain ⟨h1, q1, e⟩ := bd_s e
      obtain ⟨h2, q2, e⟩ := bd_s e
      cases e
      rw [fpP_forget h1 q2 91 (by decide), cp 10 91 h _ q1 (by decide)]
    · split at e
      · obtain ⟨h1, q1, e⟩ := bd_s e
        obtain ⟨h2, q2, e⟩ := bd_s e
        cases e
        rw [fpP_forget h1 q2 91 (by decide), cp 12 91 h _ q1 (by decide)]
      · obtain ⟨h1, q1, e⟩ := bd_s e
        cases e
        rw [cp 14 91 h _ q1 (by decide)]
theorem ag_text (a1 : Int32) (h : PH) (i : IM h) (rl : RLA h) (rh : RLH h) (rx : RTX h) {rX rm : Int32} {h1 h2 : PH} (e1 : mX_text a1 h = some (rX, h1)) (e2 : mm_text a1 h1 = some (rm, h2)) (cs : CS h h1 h2) : rX = rm ∧ RTX h2 := by
  have x104 := cs.2.2.2.1
  have s104 := cs.2.2.2.2
  have t2 : h2 104 11 = 0 := mtext11 a1 h1 e2
  have tp : TPR h2 := fun j hj => by
    rw [t2] at hj
    simp only [show (0 : Int32).toInt = 0 from rfl] at hj
    omega
  have key : rX = rm ∧ h1 90 2 = h2 104 31 ∧ h1 90 3 = h2 104 32 := by
    unfold mX_text at e1
    unfold mm_text at e2
    rw [show mD_forgetFault h = some (up (up h 90 2 0) 90 3 (-1)) from rfl, bd_e] at e1
    rw [lt_e, lt_e, lt_e, lt_e, lt_e, lt_e] at e2
    have hF : ∀ b, b ≠ 90 → up (up h 90 2 0) 90 3 (-1) b = h b := fun b hb => by rw [up_cell hb, up_cell hb]
    have F2 : up (up h 90 2 0) 90 3 (-1) 90 2 = 0 := by rw [up_oj (by decide), up_same]
    have F3 : up (up h 90 2 0) 90 3 (-1) 90 3 = -1 := up_same
    have iF : Inv (up (up h 90 2 0) 90 3 (-1)) := inv_put (inv_put i.1 (show sp 90 2 = (-2147483648, 2147483647) from rfl) (r_full _)) (show sp 90 3 = (-2147483648, 2147483647) from rfl) (r_full _)
    generalize up (up h 90 2 0) 90 3 (-1) = hf at e1 hF F2 F3 iF
    have hM : ∀ b, b ≠ 104 → up (up (up (up (up (up h1 104 0 0) 104 31 0) 104 32 (-1)) 104 12 0) 104 25 0) 104 26 0 b = h1 b := fun b hb => by rw [up_cell hb, up_cell hb, up_cell hb, up_cell hb, up_cell hb, up_cell hb]
    have M31 : up (up (up (up (up (up h1 104 0 0) 104 31 0) 104 32 (-1)) 104 12 0) 104 25 0) 104 26 0 104 31 = 0 := by rw [up_oj (by decide), up_oj (by decide), up_oj (by decide), up_oj (by decide), up_same]
    have M32 : up (up (up (up (up (up h1 104 0 0) 104 31 0) 104 32 (-1)) 104 12 0) 104 25 0) 104 26 0 104 32 = -1 := by rw [up_oj (by decide), up_oj (by decide), up_oj (by decide), up_same]
    have M12 : up (up (up (up (up (up h1 104 0 0) 104 31 0) 104 32 (-1)) 104 12 0) 104 25 0) 104 26 0 104 12 = 0 := by rw [up_oj (by decide), up_oj (by decide), up_same]
    have M25 : up (up (up (up (up (up h1 104 0 0) 104 31 0) 104 32 (-1)) 104 12 0) 104 25 0) 104 26 0 104 25 = 0 := by rw [up_oj (by decide), up_same]
    have M26 : up (up (up (up (up (up h1 104 0 0) 104 31 0) 104 32 (-1)) 104 12 0) 104 25 0) 104 26 0 104 26 = 0 := up_same
    have M11 : up (up (up (up (up (up h1 104 0 0) 104 31 0) 104 32 (-1)) 104 12 0) 104 25 0) 104 26 0 104 11 = h 104 11 := by rw [up_oj (by decide), up_oj (by decide), up_oj (by decide), up_oj (by decide), up_oj (by decide), up_oj (by decide), x104 104 (by decide)]
    have M6 : up (up (up (up (up (up h1 104 0 0) 104 31 0) 104 32 (-1)) 104 12 0) 104 25 0) 104 26 0 104 6 = h 104 6 := by rw [up_oj (by decide), up_oj (by decide), up_oj (by decide), up_oj (by decide), up_oj (by decide), up_oj (by decide), x104 104 (by decide)]
    generalize up (up (up (up (up (up h1 104 0 0) 104 31 0) 104 32 (-1)) 104 12 0) 104 25 0) 104 26 0 = hm at e2 hM M31 M32 M12 M25 M26 M11 M6
    by_cases f : 0 ≤ a1 ∧ a1 ≤ 3
    · obtain ⟨s, s1, s2, es⟩ := nat_of (rng_of (x := 0) (y := 3) rfl rfl f) (by decide)
      obtain ⟨L, L1, L2, eL⟩ := nat_of (show R 0 400 (h 85 4) from inv_rng i.1 rfl) (by decide)
      obtain ⟨H, H1, H2, eH⟩ := nat_of (show R 0 12 (h 104 6) from inv_rng i.1 rfl) (by decide)
      have e11 : h 104 11 = nI L := by rw [← rl.2.2.2]; exact eL
      have bt : ∀ j, j < L → (h 86 j &&& 255) = nI ((h 111 j).toInt.toNat) ∧ h 111 j = nI ((h 111 j).toInt.toNat) ∧ (h 111 j).toInt.toNat < 256 := fun j hj => by
        obtain ⟨b1, b2⟩ := rx.1 j (by rw [e11, nI_toInt L2]; omega)
        obtain ⟨w, w1, w2, ew⟩ := nat_of b2 (by decide)
        rw [b1, ew, nI_toInt w2, Int.toNat_natCast]
        exact ⟨rfl, rfl, by omega⟩
      have tc : TC (fun j => (h 111 j).toInt.toNat) L hf := ⟨by omega, by rw [hF 85 (by decide)]; exact eL, fun j hj => by rw [hF 86 (by decide)]; exact ⟨(bt j hj).1, (bt j hj).2.2⟩⟩
      have tm : TM (fun j => (h 111 j).toInt.toNat) L hm := ⟨by omega, by rw [M11]; exact e11, fun j hj => by rw [hM 111 (by decide), x104 111 (by decide)]; exact ⟨(bt j hj).2.1, (bt j hj).2.2⟩, fun j hj => by rw [hM 112 (by decide), x104 112 (by decide)]; exact wd_ch i j hj⟩
      have e1H : hf 1 1 = nI H := by rw [hF 1 (by decide), rh.1]; exact eH
      have tx := tx_read (s := s) (H := H) (by omega) tc iF F2 F3 tm M12 M25 M26 (by omega) (by rw [M6]; exact eH)
      rw [within_y f, bd_e, jn2_e, if_neg no10, e1H, es] at e1
      rw [isIn_y f, bd_e, jn2_e, if_neg no10, es] at e2
      rcases tx with ⟨r, gc, gm, r1, r2, r3, r4, r5, r6⟩ | ⟨gc, gm, r2, r3, r4⟩
      · rw [r2, bd2_e, if_neg no10] at e1
        rw [r3, bd2_e, if_neg (nI_nm1 (by omega))] at e2
        change (lt (up gc 85 4 0) fun h6 => if (1 : Int32) = 0 then some (-1, h6) else bd2 (mX_keepText (nI s) h6) fun r7 h8 => some (r7, h8)) = some (rX, h1) at e1
        change (lt (up gm 104 11 0) fun h11 => if (nI r : Int32) = -1 then some (-1, h11) else if (nI s) = 0 then bd (mm_takesLaw (nI r) h11) fun h12 => some (nI r, h12) else bd (mm_takesOther (nI s) (nI r) h11) fun h13 => some (nI r, h13)) = some (rm, h2) at e2
        rw [lt_e, if_neg no10] at e1
        rw [lt_e, if_neg (nI_nm1 (by omega))] at e2
        obtain ⟨y, g, k1, k2⟩ := bd2_s e1
        cases k2
        obtain ⟨z1, z2⟩ := kt_91 _ _ k1
        rw [up_oc (by decide), r4] at z1
        have c90 : h1 90 = gc 90 := by rw [z2, up_cell (by decide)]
        have m31 : gm 104 31 = 0 ∧ gm 104 32 = -1 := by
          have a := fkm_readsText (nI s) hm r3 104 31 (show kk 104 31 ∉ FKdm_readsText _ from (by decide : 1031 ∉ FKdm_readsText 0))
          have b := fkm_readsText (nI s) hm r3 104 32 (show kk 104 32 ∉ FKdm_readsText _ from (by decide : 1032 ∉ FKdm_readsText 0))
          exact ⟨by rw [← M31]; exact a, by rw [← M32]; exact b⟩
        by_cases c0 : nI s = 0
        · rw [if_pos c0] at e2
          obtain ⟨g2, k3, k4⟩ := bd_s e2
          cases k4
          have a := fkm_takesLaw (nI r) _ k3 104 31 (show kk 104 31 ∉ FKdm_takesLaw _ from (by decide : 1031 ∉ FKdm_takesLaw 0))
          have b := fkm_takesLaw (nI r) _ k3 104 32 (show kk 104 32 ∉ FKdm_takesLaw _ from (by decide : 1032 ∉ FKdm_takesLaw 0))
          rw [up_oj (by decide)] at a b
          exact ⟨z1, by rw [c90, a, m31.1]; exact r5, by rw [c90, b, m31.2]; exact r6⟩
        · rw [if_neg c0] at e2
          obtain ⟨g2, k3, k4⟩ := bd_s e2
          cases k4
          have a := fkm_takesOther (nI s) (nI r) _ k3 104 31 (show kk 104 31 ∉ FKdm_takesOther _ _ from (by decide : 1031 ∉ FKdm_takesOther 0 0))
          have b := fkm_takesOther (nI s) (nI r) _ k3 104 32 (show kk 104 32 ∉ FKdm_takesOther _ _ from (by decide : 1032 ∉ FKdm_takesOther 0 0))
          rw [up_oj (by decide)] at a b
          exact ⟨z1, by rw [c90, a, m31.1]; exact r5, by rw [c90, b, m31.2]; exact r6⟩
      · rw [r2, bd2_e, if_pos rfl] at e1
        rw [r3, bd2_e, if_pos rfl] at e2
        change (lt (up gc 85 4 0) fun h6 => if (0 : Int32) = 0 then some (-1, h6) else bd2 (mX_keepText (nI s) h6) fun r7 h8 => some (r7, h8)) = some (rX, h1) at e1
        rw [lt_e, if_pos rfl] at e1
        rw [lt_e, lt_e] at e2
        change (lt (up _ 104 11 0) fun h11 => if (-1 : Int32) = -1 then some (-1, h11) else if (nI s) = 0 then bd (mm_takesLaw (-1) h11) fun h12 => some (-1, h12) else bd (mm_takesOther (nI s) (-1) h11) fun h13 => some (-1, h13)) = some (rm, h2) at e2
        rw [lt_e, if_pos rfl] at e2
        cases e1
        cases e2
        refine ⟨rfl, ?_, ?_⟩
        · rw [up_oc (by decide), up_oj (by decide), up_oj (by decide), up_same]; exact r4.1
        · rw [up_oc (by decide), up_oj (by decide), up_same, up_oj (by decide)]; exact r4.2
    · rw [within_n f, bd_e, jn2_e, if_pos rfl] at e1
      rw [isIn_n f, bd_e, jn2_e, if_pos rfl] at e2
      change (lt (up hf 85 4 0) fun h6 => if (0 : Int32) = 0 then some (-1, h6) else bd2 (mX_keepText a1 h6) fun r7 h8 => some (r7, h8)) = some (rX, h1) at e1
      change (lt (up hm 104 11 0) fun h11 => if (-1 : Int32) = -1 then some (-1, h11) else if a1 = 0 then bd (mm_takesLaw (-1) h11) fun h12 => some (-1, h12) else bd (mm_takesOther a1 (-1) h11) fun h13 => some (-1, h13)) = some (rm, h2) at e2
      rw [lt_e, if_pos rfl] at e1
      rw [lt_e, if_pos rfl] at e2
      cases e1
      cases e2
      refine ⟨rfl, ?_, ?_⟩
      · rw [up_oc (by decide), up_oj (by decide), M31]; exact F2
      · rw [up_oc (by decide), up_oj (by decide), M32]; exact F3
  exact ⟨key.1, tp, by rw [s104 90 (by decide)]; exact key.2.1, by rw [s104 90 (by decide)]; exact key.2.2⟩
theorem ag_fault (a1 : Int32) (h : PH) (rx : RTX h) {rX rm : Int32} {h2 : PH} (e1 : mX_fault a1 h = some rX) (e2 : mm_fault a1 h = some (rm, h2)) : rX = rm := by
  unfold mX_fault at e1
  unfold mm_fault at e2
  rw [lt_e] at e2
  by_cases c0 : a1 = 0
  · rw [if_pos c0] at e1
    rw [if_pos c0, up_oj (by decide)] at e2
    cases e1
    cases e2
    exact rx.2.1
  · rw [if_neg c0] at e1
    rw [if_neg c0] at e2
    by_cases c1 : a1 = 1
    · rw [if_pos c1] at e1
      rw [if_pos c1, up_oj (by decide)] at e2
      cases e1
      cases e2
      exact rx.2.2
    · rw [if_neg c1] at e1
      rw [if_neg c1] at e2
      cases e1
      cases e2
      rfl
end
section
/-! THE TAPE: the same bytes on both sides -/
theorem m255 : ∀ i, i < 32 → (255 : Int32).toBitVec.getLsbD i = decide (i < 8) := by decide
theorem low8 {x y : Int32} (h : ∀ i, i < 8 → x.toBitVec.getLsbD i = y.toBitVec.getLsbD i) : x &&& 255 = y &&& 255 := by
  apply Int32.toBitVec_inj.mp
  rw [Int32.toBitVec_and, Int32.toBitVec_and]
  apply BitVec.eq_of_getLsbD_eq
  intro i hi
  rw [BitVec.getLsbD_and, BitVec.getLsbD_and, m255 i hi]
  by_cases c : i < 8
  · rw [h i c]
  · rw [decide_eq_false c, Bool.and_false, Bool.and_false]
theorem i2b_b (x : Int32) (i : Nat) (hi : i < 8) : (i2b x).toBitVec.getLsbD i = x.toBitVec.getLsbD i := by
  unfold i2b
  rw [Int8.toBitVec_toInt32, Int32.toBitVec_toInt8, BitVec.getLsbD_signExtend, if_pos (by omega), BitVec.getLsbD_signExtend, if_pos (by omega)]
  have h32 : i < 32 := by omega
  simp [hi, h32]
theorem byte_eq (p v : Int32) (k : Nat) (hk : (v = 24 ∧ k = 24) ∨ (v = 16 ∧ k = 16) ∨ (v = 8 ∧ k = 8) ∨ (v = 0 ∧ k = 0)) : (i2b (i2b (ushr p v)) &&& 255) = ((p >>> (v &&& 31)) &&& 255) := by
  refine low8 (fun i hi => ?_)
  rw [i2b_b _ i hi, i2b_b _ i hi]
  have e1 : (ushr p v).toBitVec.getLsbD i = p.toBitVec.getLsbD (i + k) := by
    have : (ushr p v).toBitVec = p.toBitVec >>> k := by
      rcases hk with ⟨rfl, rfl⟩ | ⟨rfl, rfl⟩ | ⟨rfl, rfl⟩ | ⟨rfl, rfl⟩ <;> rfl
    rw [this, BitVec.getLsbD_ushiftRight, Nat.add_comm]
  have e2 : (p >>> (v &&& 31)).toBitVec.getLsbD i = p.toBitVec.getLsbD (i + k) := by
    have : (p >>> (v &&& 31)).toBitVec = p.toBitVec.sshiftRight k := by
      rcases hk with ⟨rfl, rfl⟩ | ⟨rfl, rfl⟩ | ⟨rfl, rfl⟩ | ⟨rfl, rfl⟩ <;> rfl
    rw [this, BitVec.getLsbD_sshiftRight, Nat.add_comm]
    have : i + k < 32 := by omega
    simp [this]
    omega
  rw [e1, e2]
def TPX (hc hm : PH) (l : Nat) : Prop := ∀ j, j < l → (hc 86 j &&& 255) = hm 111 j ∧ R 0 255 (hm 111 j)
theorem r255 (x : Int32) : R 0 255 (x &&& 255) := r_and (a := 255) ⟨by decide, by decide⟩ (by decide)
theorem tk4 (p : Int32) (hc hm : PH) (l : Nat) (ec : hc 85 4 = nI l) (em : hm 104 11 = nI l) (hl : l + 4 ≤ 400) (t : TPX hc hm l) : ∃ hc' hm', mA_take p hc = some hc' ∧ mm_types p hm = some hm' ∧ hc' 85 4 = nI (l + 4) ∧ hm' 104 11 = nI (l + 4) ∧ TPX hc' hm' (l + 4) := by
  unfold mA_take mm_types
  rw [show FU = 99995 + 1 + 1 + 1 + 1 + 1 from rfl]
  rw [tk_step (by decide) ec (by omega), tk_step (l := l + 1) (by decide) (by simp [up_at]) (by omega), tk_step (l := l + 1 + 1) (by decide) (by simp [up_at]) (by omega), tk_step (l := l + 1 + 1 + 1) (by decide) (by simp [up_at]) (by omega), mA_take_L3, if_pos (by decide)]
  rw [ty_step (by decide) em (by omega), ty_step (l := l + 1) (by decide) (by simp [up_at]) (by omega), ty_step (l := l + 1 + 1) (by decide) (by simp [up_at]) (by omega), ty_step (l := l + 1 + 1 + 1) (by decide) (by simp [up_at]) (by omega), mm_types_L3, if_pos (by decide)]
  refine ⟨_, _, rfl, rfl, by simp [up_at], by simp [up_at], fun j hj => ?_⟩
  have b0 := byte_eq p 24 24 (Or.inl ⟨rfl, rfl⟩)
  have b1 := byte_eq p 16 16 (Or.inr (Or.inl ⟨rfl, rfl⟩))
  have b2 := byte_eq p 8 8 (Or.inr (Or.inr (Or.inl ⟨rfl, rfl⟩)))
  have b3 := byte_eq p 0 0 (Or.inr (Or.inr (Or.inr ⟨rfl, rfl⟩)))
  have v1 : (24 : Int32) + (-8) = 16 := by decide
  have v2 : (16 : Int32) + (-8) = 8 := by decide
  have v3 : (8 : Int32) + (-8) = 0 := by decide
  rw [v1, v2, v3]
  have oc : ∀ (h : PH) (x : Nat) (v : Int32) (j : Nat), up h 85 x v 86 j = h 86 j := fun h x v j => up_oc (by decide)
  have om : ∀ (h : PH) (x : Nat) (v : Int32) (j : Nat), up h 104 x v 111 j = h 111 j := fun h x v j => up_oc (by decide)
  repeat rw [oc]
  repeat rw [om]
  by_cases c3 : j = l + 1 + 1 + 1
  · subst c3
    rw [up_same, up_same, b3]
    exact ⟨rfl, r255 _⟩
  · rw [up_oj c3, oc, up_oj c3, om]
    by_cases c2 : j = l + 1 + 1
    · subst c2
      rw [up_same, up_same, b2]
      exact ⟨rfl, r255 _⟩
    · rw [up_oj c2, oc, up_oj c2, om]
      by_cases c1 : j = l + 1
      · subst c1
        rw [up_same, up_same, b1]
        exact ⟨rfl, r255 _⟩
      · rw [up_oj c1, oc, up_oj c1, om]
        by_cases c0 : j = l
        · subst c0
          rw [up_same, up_same, b0]
          exact ⟨rfl, r255 _⟩
        · rw [up_oj c0, up_oj c0]
          exact t j (by omega)
theorem rt_feed (a b c d e : Int32) (h : PH) (i : IM h) (rl : RLA h) (r : TPR h) {rX rm : Int32} {h1 h2 : PH} (e1 : mX_feed a b c d e h = some (rX, h1)) (e2 : mm_feed a b c d e h1 = some (rm, h2)) (cs : CS h h1 h2) : TPR h2 := by
  obtain ⟨l, l1, l2, el⟩ := nat_of (show R 0 400 (h 85 4) from inv_rng i.1 rfl) (by decide)
  have em0 : h 104 11 = nI l := by rw [← rl.2.2.2]; exact el
  have em : up h1 104 0 0 104 11 = nI l := by rw [up_oj (by decide), cs.2.2.2.1 104 (by decide)]; exact em0
  have t0 : TPX h (up h1 104 0 0) l := fun j hj => by
    rw [up_oc (by decide), cs.2.2.2.1 111 (by decide)]
    exact r j (by rw [em0, nI_toInt l2]; omega)
  unfold mX_feed at e1
  unfold mm_feed at e2
  rw [lt_e, em] at e2
  rw [el, show nI l + 20 = nI (l + 20) from nI_add l 20] at e1
  by_cases cc : l + 20 ≤ 400
  · rw [if_pos (show nI (l + 20) ≤ (400 : Int32) from nI_le (b := 400) cc (by omega))] at e1
    rw [if_pos (show nI l ≤ (380 : Int32) from nI_le (b := 380) (by omega) (by omega))] at e2
    obtain ⟨c1, m1, p1, q1, x1, y1, t1⟩ := tk4 a h (up h1 104 0 0) l el em (by omega) t0
    obtain ⟨c2, m2, p2, q2, x2, y2, t2⟩ := tk4 b c1 m1 (l + 4) x1 y1 (by omega) t1
    obtain ⟨c3, m3, p3, q3, x3, y3, t3⟩ := tk4 c c2 m2 (l + 4 + 4) x2 y2 (by omega) t2
    obtain ⟨c4, m4, p4, q4, x4, y4, t4⟩ := tk4 d c3 m3 (l + 4 + 4 + 4) x3 y3 (by omega) t3
    obtain ⟨c5, m5, p5, q5, x5, y5, t5⟩ := tk4 e c4 m4 (l + 4 + 4 + 4 + 4) x4 y4 (by omega) t4
    rw [p1, bd_e, p2, bd_e, p3, bd_e, p4, bd_e, p5, bd_e] at e1
    rw [q1, bd_e, q2, bd_e, q3, bd_e, q4, bd_e, q5, bd_e] at e2
    cases e1
    cases e2
    intro j hj
    rw [y5, nI_toInt (by omega)] at hj
    rw [cs.2.2.2.2 86 (by decide)]
    exact t5 j (by omega)
  · rw [if_neg (show ¬ nI (l + 20) ≤ (400 : Int32) from nI_ge (a := 400) (by omega) (by omega))] at e1
    rw [if_neg (show ¬ nI l ≤ (380 : Int32) from nI_ge (a := 380) (by omega) (by omega))] at e2
    cases e1
    cases e2
    intro j hj
    rw [em, nI_toInt l2] at hj
    rw [up_oc (by decide)]
    exact t0 j (by omega)
/-! THE TAPE AND THE FAULT, kept by every call. Printed by wip/gen/prtx.py -/
theorem rtx_fr {h g : PH} (e86 : g 86 = h 86) (e90 : g 90 = h 90) (e111 : g 111 = h 111) (e11 : g 104 11 = h 104 11) (e31 : g 104 31 = h 104 31) (e32 : g 104 32 = h 104 32) (r : RTX h) : RTX g := by
  unfold RTX TPR at r ⊢
  rw [e86, e90, e111, e11, e31, e32]
  exact r
theorem rtx_cs {S T : List Nat} {h h1 h2 : PH} (f1 : Fr S h1 h) (f2 : Fk T h2 h1) (s1 : 86 ∉ S ∧ 90 ∉ S) (s2 : 1011 ∉ T ∧ 1031 ∉ T ∧ 1032 ∉ T ∧ 111 ∉ T) (s3 : ∀ b, b ∈ S → b < 104) (s4 : ∀ b, b ∈ T → 104 ≤ b) (r : RTX h) : RTX h2 := by
  have kn : ∀ b j, b ≠ 104 → kk b j = b := fun b j hb => by unfold kk; rw [if_neg hb]
  have a104 : h1 104 = h 104 := f1 104 (fun q => by have := s3 104 q; omega)
  have a111 : h1 111 = h 111 := f1 111 (fun q => by have := s3 111 q; omega)
  have lo : ∀ b, b < 104 → h2 b = h1 b := fun b hb => funext fun j => f2 b j (by rw [kn b j (by omega)]; intro q; have := s4 b q; omega)
  refine rtx_fr (by rw [lo 86 (by decide), f1 86 s1.1]) (by rw [lo 90 (by decide), f1 90 s1.2]) ?_ (by rw [← a104]; exact f2 104 11 s2.1) (by rw [← a104]; exact f2 104 31 s2.2.1) (by rw [← a104]; exact f2 104 32 s2.2.2.1) r
  rw [← a111]
  funext j
  exact f2 111 j (by rw [kn 111 j (by decide)]; exact s2.2.2.2)
theorem rtx_first : RTX hI := ⟨fun j hj => by
  have : (hI 104 11).toInt = 0 := rfl
  omega, rfl, rfl⟩
theorem rx_feed (a1 a2 a3 a4 a5 : Int32) (h : PH) (i : IM h) (rl : RLA h) (r : RTX h) {rX rm : Int32} {h1 h2 : PH} (e1 : mX_feed a1 a2 a3 a4 a5 h = some (rX, h1)) (e2 : mm_feed a1 a2 a3 a4 a5 h1 = some (rm, h2)) (cs : CS h h1 h2) : RTX h2 := by
  have a := fkm_feed a1 a2 a3 a4 a5 h1 e2 104 31 (show kk 104 31 ∉ FKdm_feed _ _ _ _ _ from (by decide : 1031 ∉ FKdm_feed 0 0 0 0 0))
  have b := fkm_feed a1 a2 a3 a4 a5 h1 e2 104 32 (show kk 104 32 ∉ FKdm_feed _ _ _ _ _ from (by decide : 1032 ∉ FKdm_feed 0 0 0 0 0))
  have c : h1 90 = h 90 := fpX_feed a1 a2 a3 a4 a5 h e1 90 (show 90 ∉ FPdX_feed _ _ _ _ _ from (by decide : 90 ∉ FPdX_feed 0 0 0 0 0))
  refine ⟨rt_feed a1 a2 a3 a4 a5 h i rl r.1 e1 e2 cs, ?_, ?_⟩
  · rw [cs.2.2.2.2 90 (by decide), c, show h2 104 31 = h1 104 31 from a, cs.2.2.2.1 104 (by decide)]; exact r.2.1
  · rw [cs.2.2.2.2 90 (by decide), c, show h2 104 32 = h1 104 32 from b, cs.2.2.2.1 104 (by decide)]; exact r.2.2
theorem rx_end (a1 : Int32) (h : PH) (i : IM h) (r : RTX h) {rX rm : Int32} {h1 h2 : PH} (e1 : mX_end a1 h = some (rX, h1)) (e2 : mm_end a1 h1 = some (rm, h2)) (cs : CS h h1 h2) : RTX h2 := by
  have a := fkm_end a1 h1 e2 104 31 (show kk 104 31 ∉ FKdm_end _ from (by decide : 1031 ∉ FKdm_end 0))
  have b := fkm_end a1 h1 e2 104 32 (show kk 104 32 ∉ FKdm_end _ from (by decide : 1032 ∉ FKdm_end 0))
  have c : h1 90 = h 90 := fpX_end a1 h e1 90 (show 90 ∉ FPdX_end _ from (by decide : 90 ∉ FPdX_end 0))
  have d : h1 86 = h 86 := fpX_end a1 h e1 86 (show 86 ∉ FPdX_end _ from (by decide : 86 ∉ FPdX_end 0))
  have f : h2 111 = h1 111 := funext fun j => fkm_end a1 h1 e2 111 j (show kk 111 j ∉ FKdm_end _ from (by decide : 111 ∉ FKdm_end 0))
  have le : (h2 104 11).toInt ≤ (h 104 11).toInt := by
    unfold mm_end at e2
    rw [lt_e, up_oj (by decide), cs.2.2.2.1 104 (by decide)] at e2
    by_cases q : 0 ≤ a1 ∧ a1 ≤ h 104 11
    · rw [isIn_y q, bd_e, if_neg (by decide), lt_e] at e2
      cases e2
      rw [up_same]
      exact (Int32.le_iff_toInt_le).mp q.2
    · rw [isIn_n q, bd_e, if_pos rfl] at e2
      cases e2
      rw [up_oj (by decide), cs.2.2.2.1 104 (by decide)]
      exact Int.le_refl _
  refine ⟨fun j hj => ?_, ?_, ?_⟩
  · rw [cs.2.2.2.2 86 (by decide), d, f, cs.2.2.2.1 111 (by decide)]
    exact r.1 j (by omega)
  · rw [cs.2.2.2.2 90 (by decide), c, show h2 104 31 = h1 104 31 from a, cs.2.2.2.1 104 (by decide)]; exact r.2.1
  · rw [cs.2.2.2.2 90 (by decide), c, show h2 104 32 = h1 104 32 from b, cs.2.2.2.1 104 (by decide)]; exact r.2.2
theorem rx_state (a1 : Int32) (h : PH) (r : RTX h) {rX rm : Int32} {h1 h2 : PH} (e1 : mX_state a1 h = some (rX, h1)) (e2 : mm_state a1 h1 = some (rm, h2)) : RTX h2 := rtx_cs (fpX_state a1 h e1) (fkm_state a1 h1 e2) (by decide : 86 ∉ FPdX_state 0 ∧ 90 ∉ FPdX_state 0) (by decide : 1011 ∉ FKdm_state 0 ∧ 1031 ∉ FKdm_state 0 ∧ 1032 ∉ FKdm_state 0 ∧ 111 ∉ FKdm_state 0) (by decide : ∀ b, b ∈ FPdX_state 0 → b < 104) (by decide : ∀ b, b ∈ FKdm_state 0 → 104 ≤ b) r
theorem rx_house (a1 a2 a3 : Int32) (h : PH) (r : RTX h) {rX rm : Int32} {h1 h2 : PH} (e1 : mX_house a1 a2 a3 h = some (rX, h1)) (e2 : mm_house a1 a2 a3 h1 = some (rm, h2)) : RTX h2 := rtx_cs (fpX_house a1 a2 a3 h e1) (fkm_house a1 a2 a3 h1 e2) (by decide : 86 ∉ FPdX_house 0 0 0 ∧ 90 ∉ FPdX_house 0 0 0) (by decide : 1011 ∉ FKdm_house 0 0 0 ∧ 1031 ∉ FKdm_house 0 0 0 ∧ 1032 ∉ FKdm_house 0 0 0 ∧ 111 ∉ FKdm_house 0 0 0) (by decide : ∀ b, b ∈ FPdX_house 0 0 0 → b < 104) (by decide : ∀ b, b ∈ FKdm_house 0 0 0 → 104 ≤ b) r
theorem rx_set (a1 a2 a3 : Int32) (h : PH) (r : RTX h) {rX rm : Int32} {h1 h2 : PH} (e1 : mX_set a1 a2 a3 h = some (rX, h1)) (e2 : mm_set a1 a2 a3 h1 = some (rm, h2)) : RTX h2 := rtx_cs (fpX_set a1 a2 a3 h e1) (fkm_set a1 a2 a3 h1 e2) (by decide : 86 ∉ FPdX_set 0 0 0 ∧ 90 ∉ FPdX_set 0 0 0) (by decide : 1011 ∉ FKdm_set 0 0 0 ∧ 1031 ∉ FKdm_set 0 0 0 ∧ 1032 ∉ FKdm_set 0 0 0 ∧ 111 ∉ FKdm_set 0 0 0) (by decide : ∀ b, b ∈ FPdX_set 0 0 0 → b < 104) (by decide : ∀ b, b ∈ FKdm_set 0 0 0 → 104 ≤ b) r
theorem rx_act (a1 a2 a3 : Int32) (h : PH) (r : RTX h) {rX rm : Int32} {h1 h2 : PH} (e1 : mX_act a1 a2 a3 h = some (rX, h1)) (e2 : mm_act a1 a2 a3 h1 = some (rm, h2)) : RTX h2 := rtx_cs (fpX_act a1 a2 a3 h e1) (fkm_act a1 a2 a3 h1 e2) (by decide : 86 ∉ FPdX_act 0 0 0 ∧ 90 ∉ FPdX_act 0 0 0) (by decide : 1011 ∉ FKdm_act 0 0 0 ∧ 1031 ∉ FKdm_act 0 0 0 ∧ 1032 ∉ FKdm_act 0 0 0 ∧ 111 ∉ FKdm_act 0 0 0) (by decide : ∀ b, b ∈ FPdX_act 0 0 0 → b < 104) (by decide : ∀ b, b ∈ FKdm_act 0 0 0 → 104 ≤ b) r
theorem rx_quarters (a1 : Int32) (h : PH) (r : RTX h) {rX rm : Int32} {h1 h2 : PH} (e1 : mX_quarters a1 h = some (rX, h1)) (e2 : mm_quarters a1 h1 = some (rm, h2)) : RTX h2 := rtx_cs (fpX_quarters a1 h e1) (fkm_quarters a1 h1 e2) (by decide : 86 ∉ FPdX_quarters 0 ∧ 90 ∉ FPdX_quarters 0) (by decide : 1011 ∉ FKdm_quarters 0 ∧ 1031 ∉ FKdm_quarters 0 ∧ 1032 ∉ FKdm_quarters 0 ∧ 111 ∉ FKdm_quarters 0) (by decide : ∀ b, b ∈ FPdX_quarters 0 → b < 104) (by decide : ∀ b, b ∈ FKdm_quarters 0 → 104 ≤ b) r
theorem rx_fault (a1 : Int32) (h : PH) (r : RTX h) {rm : Int32} {h2 : PH} (e2 : mm_fault a1 h = some (rm, h2)) : RTX h2 := rtx_cs (S := []) (fun _ _ => rfl) (fkm_fault a1 h e2) (by decide) (by decide : 1011 ∉ FKdm_fault 0 ∧ 1031 ∉ FKdm_fault 0 ∧ 1032 ∉ FKdm_fault 0 ∧ 111 ∉ FKdm_fault 0) (by decide) (by decide : ∀ b, b ∈ FKdm_fault 0 → 104 ≤ b) r
theorem rx_of (a1 a2 : Int32) (h : PH) (r : RTX h) {rX rm : Int32} {h1 h2 : PH} (e1 : mX_of a1 a2 h = some (rX, h1)) (e2 : mm_of a1 a2 h1 = some (rm, h2)) : RTX h2 := rtx_cs (fpX_of a1 a2 h e1) (fkm_of a1 a2 h1 e2) (by decide : 86 ∉ FPdX_of 0 0 ∧ 90 ∉ FPdX_of 0 0) (by decide : 1011 ∉ FKdm_of 0 0 ∧ 1031 ∉ FKdm_of 0 0 ∧ 1032 ∉ FKdm_of 0 0 ∧ 111 ∉ FKdm_of 0 0) (by decide : ∀ b, b ∈ FPdX_of 0 0 → b < 104) (by decide : ∀ b, b ∈ FKdm_of 0 0 → 104 ≤ b) r
theorem rx_book (a1 a2 : Int32) (h : PH) (r : RTX h) {rm : Int32} {h2 : PH} (e2 : mm_book a1 a2 h = some (rm, h2)) : RTX h2 := rtx_cs (S := []) (fun _ _ => rfl) (fkm_book a1 a2 h e2) (by decide) (by decide : 1011 ∉ FKdm_book 0 0 ∧ 1031 ∉ FKdm_book 0 0 ∧ 1032 ∉ FKdm_book 0 0 ∧ 111 ∉ FKdm_book 0 0) (by decide) (by decide : ∀ b, b ∈ FKdm_book 0 0 → 104 ≤ b) r
theorem rx_goes (a1 a2 : Int32) (h : PH) (r : RTX h) {rX rm : Int32} {h1 h2 : PH} (e1 : mX_goes a1 a2 h = some (rX, h1)) (e2 : mm_goes a1 a2 h1 = some (rm, h2)) : RTX h2 := rtx_cs (fpX_goes a1 a2 h e1) (fkm_goes a1 a2 h1 e2) (by decide : 86 ∉ FPdX_goes 0 0 ∧ 90 ∉ FPdX_goes 0 0) (by decide : 1011 ∉ FKdm_goes 0 0 ∧ 1031 ∉ FKdm_goes 0 0 ∧ 1032 ∉ FKdm_goes 0 0 ∧ 111 ∉ FKdm_goes 0 0) (by decide : ∀ b, b ∈ FPdX_goes 0 0 → b < 104) (by decide : ∀ b, b ∈ FKdm_goes 0 0 → 104 ≤ b) r
theorem rx_stands (a1 : Int32) (h : PH) (r : RTX h) {rX rm : Int32} {h1 h2 : PH} (e1 : mX_stands a1 h = some (rX, h1)) (e2 : mm_stands a1 h1 = some (rm, h2)) : RTX h2 := rtx_cs (fpX_stands a1 h e1) (fkm_stands a1 h1 e2) (by decide : 86 ∉ FPdX_stands 0 ∧ 90 ∉ FPdX_stands 0) (by decide : 1011 ∉ FKdm_stands 0 ∧ 1031 ∉ FKdm_stands 0 ∧ 1032 ∉ FKdm_stands 0 ∧ 111 ∉ FKdm_stands 0) (by decide : ∀ b, b ∈ FPdX_stands 0 → b < 104) (by decide : ∀ b, b ∈ FKdm_stands 0 → 104 ≤ b) r
theorem rx_hears (a1 a2 : Int32) (h : PH) (r : RTX h) {rX rm : Int32} {h1 h2 : PH} (e1 : mX_hears a1 a2 h = some (rX, h1)) (e2 : mm_hears a1 a2 h1 = some (rm, h2)) : RTX h2 := rtx_cs (fpX_hears a1 a2 h e1) (fkm_hears a1 a2 h1 e2) (by decide : 86 ∉ FPdX_hears 0 0 ∧ 90 ∉ FPdX_hears 0 0) (by decide : 1011 ∉ FKdm_hears 0 0 ∧ 1031 ∉ FKdm_hears 0 0 ∧ 1032 ∉ FKdm_hears 0 0 ∧ 111 ∉ FKdm_hears 0 0) (by decide : ∀ b, b ∈ FPdX_hears 0 0 → b < 104) (by decide : ∀ b, b ∈ FKdm_hears 0 0 → 104 ≤ b) r
theorem rx_heard (a1 a2 : Int32) (h : PH) (r : RTX h) {rX rm : Int32} {h1 h2 : PH} (e1 : mX_heard a1 a2 h = some (rX, h1)) (e2 : mm_heard a1 a2 h1 = some (rm, h2)) : RTX h2 := rtx_cs (fpX_heard a1 a2 h e1) (fkm_heard a1 a2 h1 e2) (by decide : 86 ∉ FPdX_heard 0 0 ∧ 90 ∉ FPdX_heard 0 0) (by decide : 1011 ∉ FKdm_heard 0 0 ∧ 1031 ∉ FKdm_heard 0 0 ∧ 1032 ∉ FKdm_heard 0 0 ∧ 111 ∉ FKdm_heard 0 0) (by decide : ∀ b, b ∈ FPdX_heard 0 0 → b < 104) (by decide : ∀ b, b ∈ FKdm_heard 0 0 → 104 ≤ b) r
theorem rx_ants (a1 a2 : Int32) (h : PH) (r : RTX h) {rX rm : Int32} {h1 h2 : PH} (e1 : mX_ants a1 a2 h = some (rX, h1)) (e2 : mm_ants a1 a2 h1 = some (rm, h2)) : RTX h2 := rtx_cs (fpX_ants a1 a2 h e1) (fkm_ants a1 a2 h1 e2) (by decide : 86 ∉ FPdX_ants 0 0 ∧ 90 ∉ FPdX_ants 0 0) (by decide : 1011 ∉ FKdm_ants 0 0 ∧ 1031 ∉ FKdm_ants 0 0 ∧ 1032 ∉ FKdm_ants 0 0 ∧ 111 ∉ FKdm_ants 0 0) (by decide : ∀ b, b ∈ FPdX_ants 0 0 → b < 104) (by decide : ∀ b, b ∈ FKdm_ants 0 0 → 104 ≤ b) r
theorem rx_piece (a1 : Int32) (h : PH) (r : RTX h) {rX rm : Int32} {h1 h2 : PH} (e1 : mX_piece a1 h = some (rX, h1)) (e2 : mm_piece a1 h1 = some (rm, h2)) : RTX h2 := rtx_cs (fpX_piece a1 h e1) (fkm_piece a1 h1 e2) (by decide : 86 ∉ FPdX_piece 0 ∧ 90 ∉ FPdX_piece 0) (by decide : 1011 ∉ FKdm_piece 0 ∧ 1031 ∉ FKdm_piece 0 ∧ 1032 ∉ FKdm_piece 0 ∧ 111 ∉ FKdm_piece 0) (by decide : ∀ b, b ∈ FPdX_piece 0 → b < 104) (by decide : ∀ b, b ∈ FKdm_piece 0 → 104 ≤ b) r
theorem rx_plate (a1 a2 : Int32) (h : PH) (r : RTX h) {rm : Int32} {h2 : PH} (e2 : mm_plate a1 a2 h = some (rm, h2)) : RTX h2 := rtx_cs (S := []) (fun _ _ => rfl) (fkm_plate a1 a2 h e2) (by decide) (by decide : 1011 ∉ FKdm_plate 0 0 ∧ 1031 ∉ FKdm_plate 0 0 ∧ 1032 ∉ FKdm_plate 0 0 ∧ 111 ∉ FKdm_plate 0 0) (by decide) (by decide : ∀ b, b ∈ FKdm_plate 0 0 → 104 ≤ b) r
theorem rx_dough (a1 : Int32) (h : PH) (r : RTX h) {rX rm : Int32} {h1 h2 : PH} (e1 : mX_dough a1 h = some (rX, h1)) (e2 : mm_dough a1 h1 = some (rm, h2)) : RTX h2 := rtx_cs (fpX_dough a1 h e1) (fkm_dough a1 h1 e2) (by decide : 86 ∉ FPdX_dough 0 ∧ 90 ∉ FPdX_dough 0) (by decide : 1011 ∉ FKdm_dough 0 ∧ 1031 ∉ FKdm_dough 0 ∧ 1032 ∉ FKdm_dough 0 ∧ 111 ∉ FKdm_dough 0) (by decide : ∀ b, b ∈ FPdX_dough 0 → b < 104) (by decide : ∀ b, b ∈ FKdm_dough 0 → 104 ≤ b) r
theorem rx_pans (a1 a2 : Int32) (h : PH) (r : RTX h) {rX rm : Int32} {h1 h2 : PH} (e1 : mX_pans a1 a2 h = some (rX, h1)) (e2 : mm_pans a1 a2 h1 = some (rm, h2)) : RTX h2 := rtx_cs (fpX_pans a1 a2 h e1) (fkm_pans a1 a2 h1 e2) (by decide : 86 ∉ FPdX_pans 0 0 ∧ 90 ∉ FPdX_pans 0 0) (by decide : 1011 ∉ FKdm_pans 0 0 ∧ 1031 ∉ FKdm_pans 0 0 ∧ 1032 ∉ FKdm_pans 0 0 ∧ 111 ∉ FKdm_pans 0 0) (by decide : ∀ b, b ∈ FPdX_pans 0 0 → b < 104) (by decide : ∀ b, b ∈ FKdm_pans 0 0 → 104 ≤ b) r
theorem rx_mortgage (a1 a2 a3 a4 : Int32) (h : PH) (r : RTX h) {rm : Int32} {h2 : PH} (e2 : mm_mortgage a1 a2 a3 a4 h = some (rm, h2)) : RTX h2 := rtx_cs (S := []) (fun _ _ => rfl) (fkm_mortgage a1 a2 a3 a4 h e2) (by decide) (by decide : 1011 ∉ FKdm_mortgage 0 0 0 0 ∧ 1031 ∉ FKdm_mortgage 0 0 0 0 ∧ 1032 ∉ FKdm_mortgage 0 0 0 0 ∧ 111 ∉ FKdm_mortgage 0 0 0 0) (by decide) (by decide : ∀ b, b ∈ FKdm_mortgage 0 0 0 0 → 104 ≤ b) r
theorem rx_mark (a1 : Int32) (h : PH) (r : RTX h) {rX rm : Int32} {h1 h2 : PH} (e1 : mX_mark a1 h = some (rX, h1)) (e2 : mm_mark a1 h1 = some (rm, h2)) : RTX h2 := rtx_cs (fpX_mark a1 h e1) (fkm_mark a1 h1 e2) (by decide : 86 ∉ FPdX_mark 0 ∧ 90 ∉ FPdX_mark 0) (by decide : 1011 ∉ FKdm_mark 0 ∧ 1031 ∉ FKdm_mark 0 ∧ 1032 ∉ FKdm_mark 0 ∧ 111 ∉ FKdm_mark 0) (by decide : ∀ b, b ∈ FPdX_mark 0 → b < 104) (by decide : ∀ b, b ∈ FKdm_mark 0 → 104 ≤ b) r
theorem rx_measures (a1 : Int32) (h : PH) (r : RTX h) {rm : Int32} {h2 : PH} (e2 : mm_measures a1 h = some (rm, h2)) : RTX h2 := rtx_cs (S := []) (fun _ _ => rfl) (fkm_measures a1 h e2) (by decide) (by decide : 1011 ∉ FKdm_measures 0 ∧ 1031 ∉ FKdm_measures 0 ∧ 1032 ∉ FKdm_measures 0 ∧ 111 ∉ FKdm_measures 0) (by decide) (by decide : ∀ b, b ∈ FKdm_measures 0 → 104 ≤ b) r
theorem rx_bite (a1 a2 : Int32) (h : PH) (r : RTX h) {rX rm : Int32} {h1 h2 : PH} (e1 : mX_bite a1 a2 h = some (rX, h1)) (e2 : mm_bite a1 a2 h1 = some (rm, h2)) : RTX h2 := rtx_cs (fpX_bite a1 a2 h e1) (fkm_bite a1 a2 h1 e2) (by decide : 86 ∉ FPdX_bite 0 0 ∧ 90 ∉ FPdX_bite 0 0) (by decide : 1011 ∉ FKdm_bite 0 0 ∧ 1031 ∉ FKdm_bite 0 0 ∧ 1032 ∉ FKdm_bite 0 0 ∧ 111 ∉ FKdm_bite 0 0) (by decide : ∀ b, b ∈ FPdX_bite 0 0 → b < 104) (by decide : ∀ b, b ∈ FKdm_bite 0 0 → 104 ≤ b) r
theorem rx_whose (a1 a2 : Int32) (h : PH) (r : RTX h) {rm : Int32} {h2 : PH} (e2 : mm_whose a1 a2 h = some (rm, h2)) : RTX h2 := rtx_cs (S := []) (fun _ _ => rfl) (fkm_whose a1 a2 h e2) (by decide) (by decide : 1011 ∉ FKdm_whose 0 0 ∧ 1031 ∉ FKdm_whose 0 0 ∧ 1032 ∉ FKdm_whose 0 0 ∧ 111 ∉ FKdm_whose 0 0) (by decide) (by decide : ∀ b, b ∈ FKdm_whose 0 0 → 104 ≤ b) r
theorem rx_crumb (a1 : Int32) (h : PH) (r : RTX h) {rX rm : Int32} {h1 h2 : PH} (e1 : mX_crumb a1 h = some (rX, h1)) (e2 : mm_crumb a1 h1 = some (rm, h2)) : RTX h2 := rtx_cs (fpX_crumb a1 h e1) (fkm_crumb a1 h1 e2) (by decide : 86 ∉ FPdX_crumb 0 ∧ 90 ∉ FPdX_crumb 0) (by decide : 1011 ∉ FKdm_crumb 0 ∧ 1031 ∉ FKdm_crumb 0 ∧ 1032 ∉ FKdm_crumb 0 ∧ 111 ∉ FKdm_crumb 0) (by decide : ∀ b, b ∈ FPdX_crumb 0 → b < 104) (by decide : ∀ b, b ∈ FKdm_crumb 0 → 104 ≤ b) r
theorem rx_crumbs (a1 : Int32) (h : PH) (r : RTX h) {rX rm : Int32} {h1 h2 : PH} (e1 : mX_crumbs a1 h = some (rX, h1)) (e2 : mm_crumbs a1 h1 = some (rm, h2)) : RTX h2 := rtx_cs (fpX_crumbs a1 h e1) (fkm_crumbs a1 h1 e2) (by decide : 86 ∉ FPdX_crumbs 0 ∧ 90 ∉ FPdX_crumbs 0) (by decide : 1011 ∉ FKdm_crumbs 0 ∧ 1031 ∉ FKdm_crumbs 0 ∧ 1032 ∉ FKdm_crumbs 0 ∧ 111 ∉ FKdm_crumbs 0) (by decide : ∀ b, b ∈ FPdX_crumbs 0 → b < 104) (by decide : ∀ b, b ∈ FKdm_crumbs 0 → 104 ≤ b) r
theorem rx_loaf (a1 a2 : Int32) (h : PH) (r : RTX h) {rX rm : Int32} {h1 h2 : PH} (e1 : mX_loaf a1 a2 h = some (rX, h1)) (e2 : mm_loaf a1 a2 h1 = some (rm, h2)) : RTX h2 := rtx_cs (fpX_loaf a1 a2 h e1) (fkm_loaf a1 a2 h1 e2) (by decide : 86 ∉ FPdX_loaf 0 0 ∧ 90 ∉ FPdX_loaf 0 0) (by decide : 1011 ∉ FKdm_loaf 0 0 ∧ 1031 ∉ FKdm_loaf 0 0 ∧ 1032 ∉ FKdm_loaf 0 0 ∧ 111 ∉ FKdm_loaf 0 0) (by decide : ∀ b, b ∈ FPdX_loaf 0 0 → b < 104) (by decide : ∀ b, b ∈ FKdm_loaf 0 0 → 104 ≤ b) r
theorem rx_ovens (a1 : Int32) (h : PH) (r : RTX h) {rm : Int32} {h2 : PH} (e2 : mm_ovens a1 h = some (rm, h2)) : RTX h2 := rtx_cs (S := []) (fun _ _ => rfl) (fkm_ovens a1 h e2) (by decide) (by decide : 1011 ∉ FKdm_ovens 0 ∧ 1031 ∉ FKdm_ovens 0 ∧ 1032 ∉ FKdm_ovens 0 ∧ 111 ∉ FKdm_ovens 0) (by decide) (by decide : ∀ b, b ∈ FKdm_ovens 0 → 104 ≤ b) r
theorem rx_alone (a1 : Int32) (h : PH) (r : RTX h) {rX rm : Int32} {h1 h2 : PH} (e1 : mX_alone a1 h = some (rX, h1)) (e2 : mm_alone a1 h1 = some (rm, h2)) : RTX h2 := rtx_cs (fpX_alone a1 h e1) (fkm_alone a1 h1 e2) (by decide : 86 ∉ FPdX_alone 0 ∧ 90 ∉ FPdX_alone 0) (by decide : 1011 ∉ FKdm_alone 0 ∧ 1031 ∉ FKdm_alone 0 ∧ 1032 ∉ FKdm_alone 0 ∧ 111 ∉ FKdm_alone 0) (by decide : ∀ b, b ∈ FPdX_alone 0 → b < 104) (by decide : ∀ b, b ∈ FKdm_alone 0 → 104 ≤ b) r
theorem rx_heir (a1 a2 : Int32) (h : PH) (r : RTX h) {rX rm : Int32} {h1 h2 : PH} (e1 : mX_heir a1 a2 h = some (rX, h1)) (e2 : mm_heir a1 a2 h1 = some (rm, h2)) : RTX h2 := rtx_cs (fpX_heir a1 a2 h e1) (fkm_heir a1 a2 h1 e2) (by decide : 86 ∉ FPdX_heir 0 0 ∧ 90 ∉ FPdX_heir 0 0) (by decide : 1011 ∉ FKdm_heir 0 0 ∧ 1031 ∉ FKdm_heir 0 0 ∧ 1032 ∉ FKdm_heir 0 0 ∧ 111 ∉ FKdm_heir 0 0) (by decide : ∀ b, b ∈ FPdX_heir 0 0 → b < 104) (by decide : ∀ b, b ∈ FKdm_heir 0 0 → 104 ≤ b) r
theorem rx_line (a1 a2 : Int32) (h : PH) (r : RTX h) {rm : Int32} {h2 : PH} (e2 : mm_line a1 a2 h = some (rm, h2)) : RTX h2 := rtx_cs (S := []) (fun _ _ => rfl) (fkm_line a1 a2 h e2) (by decide) (by decide : 1011 ∉ FKdm_line 0 0 ∧ 1031 ∉ FKdm_line 0 0 ∧ 1032 ∉ FKdm_line 0 0 ∧ 111 ∉ FKdm_line 0 0) (by decide) (by decide : ∀ b, b ∈ FKdm_line 0 0 → 104 ≤ b) r
theorem rx_window (a1 : Int32) (h : PH) (r : RTX h) {rm : Int32} {h2 : PH} (e2 : mm_window a1 h = some (rm, h2)) : RTX h2 := rtx_cs (S := []) (fun _ _ => rfl) (fkm_window a1 h e2) (by decide) (by decide : 1011 ∉ FKdm_window 0 ∧ 1031 ∉ FKdm_window 0 ∧ 1032 ∉ FKdm_window 0 ∧ 111 ∉ FKdm_window 0) (by decide) (by decide : ∀ b, b ∈ FKdm_window 0 → 104 ≤ b) r
theorem rx_member (a1 a2 : Int32) (h : PH) (r : RTX h) {rX rm : Int32} {h1 h2 : PH} (e1 : mX_member a1 a2 h = some (rX, h1)) (e2 : mm_member a1 a2 h1 = some (rm, h2)) : RTX h2 := rtx_cs (fpX_member a1 a2 h e1) (fkm_member a1 a2 h1 e2) (by decide : 86 ∉ FPdX_member 0 0 ∧ 90 ∉ FPdX_member 0 0) (by decide : 1011 ∉ FKdm_member 0 0 ∧ 1031 ∉ FKdm_member 0 0 ∧ 1032 ∉ FKdm_member 0 0 ∧ 111 ∉ FKdm_member 0 0) (by decide : ∀ b, b ∈ FPdX_member 0 0 → b < 104) (by decide : ∀ b, b ∈ FKdm_member 0 0 → 104 ≤ b) r
theorem rx_council (a1 : Int32) (h : PH) (r : RTX h) {rm : Int32} {h2 : PH} (e2 : mm_council a1 h = some (rm, h2)) : RTX h2 := rtx_cs (S := []) (fun _ _ => rfl) (fkm_council a1 h e2) (by decide) (by decide : 1011 ∉ FKdm_council 0 ∧ 1031 ∉ FKdm_council 0 ∧ 1032 ∉ FKdm_council 0 ∧ 111 ∉ FKdm_council 0) (by decide) (by decide : ∀ b, b ∈ FKdm_council 0 → 104 ≤ b) r
theorem rx_game (a1 a2 : Int32) (h : PH) (r : RTX h) {rX rm : Int32} {h1 h2 : PH} (e1 : mX_game a1 a2 h = some (rX, h1)) (e2 : mm_game a1 a2 h1 = some (rm, h2)) : RTX h2 := rtx_cs (fpX_game a1 a2 h e1) (fkm_game a1 a2 h1 e2) (by decide : 86 ∉ FPdX_game 0 0 ∧ 90 ∉ FPdX_game 0 0) (by decide : 1011 ∉ FKdm_game 0 0 ∧ 1031 ∉ FKdm_game 0 0 ∧ 1032 ∉ FKdm_game 0 0 ∧ 111 ∉ FKdm_game 0 0) (by decide : ∀ b, b ∈ FPdX_game 0 0 → b < 104) (by decide : ∀ b, b ∈ FKdm_game 0 0 → 104 ≤ b) r
theorem rx_undo (h : PH) (r : RTX h) {rX rm : Int32} {h1 h2 : PH} (e1 : mX_undo h = some (rX, h1)) (e2 : mm_undo h1 = some (rm, h2)) : RTX h2 := rtx_cs (fpX_undo h e1) (fkm_undo h1 e2) (by decide : 86 ∉ FPdX_undo ∧ 90 ∉ FPdX_undo) (by decide : 1011 ∉ FKdm_undo ∧ 1031 ∉ FKdm_undo ∧ 1032 ∉ FKdm_undo ∧ 111 ∉ FKdm_undo) (by decide : ∀ b, b ∈ FPdX_undo → b < 104) (by decide : ∀ b, b ∈ FKdm_undo → 104 ≤ b) r
theorem rx_image (a1 : Int32) (h : PH) (r : RTX h) {rX rm : Int32} {h1 h2 : PH} (e1 : mX_image (if a1 = 0 then 0 else 1) h = some (rX, h1)) (e2 : mm_image (if a1 = 0 then 0 else 1) h1 = some (rm, h2)) : RTX h2 := rtx_cs (fpX_image (if a1 = 0 then 0 else 1) h e1) (fkm_image (if a1 = 0 then 0 else 1) h1 e2) (by decide : 86 ∉ FPdX_image 0 ∧ 90 ∉ FPdX_image 0) (by decide : 1011 ∉ FKdm_image 0 ∧ 1031 ∉ FKdm_image 0 ∧ 1032 ∉ FKdm_image 0 ∧ 111 ∉ FKdm_image 0) (by decide : ∀ b, b ∈ FPdX_image 0 → b < 104) (by decide : ∀ b, b ∈ FKdm_image 0 → 104 ≤ b) r
theorem rx_look (a1 : Int32) (h : PH) (r : RTX h) {rm : Int32} {h2 : PH} (e2 : mm_look a1 h = some (rm, h2)) : RTX h2 := rtx_cs (S := []) (fun _ _ => rfl) (fkm_look a1 h e2) (by decide) (by decide : 1011 ∉ FKdm_look 0 ∧ 1031 ∉ FKdm_look 0 ∧ 1032 ∉ FKdm_look 0 ∧ 111 ∉ FKdm_look 0) (by decide) (by decide : ∀ b, b ∈ FKdm_look 0 → 104 ≤ b) r
end
section
/-! THE TOWN on both sides: houses and their columns -/
def sf (f : Nat) : Nat := [9, 9, 3, 4, 5, 6, 0, 1].getD f 9
def mc (c : Nat) : Nat := if c = 4 then 108 else if c = 5 then 109 else 105
def mi (i c : Nat) : Nat := if c < 4 then 7 + 4 * i + c else if c = 4 then i else if c = 5 then i else if c = 6 then 55 + i else if c = 7 then 79 + i else if c = 8 then 67 + i else if c = 9 then 91 + i else 103 + i
theorem mi_inj' : ∀ x, x < 132 → ∀ y, y < 132 → mc (x % 11) = mc (y % 11) → mi (x / 11) (x % 11) = mi (y / 11) (y % 11) → x = y := by decide +kernel
theorem mi_inj : ∀ i, i < 12 → ∀ c, c < 11 → ∀ k, k < 12 → ∀ d, d < 11 → mc c = mc d → mi i c = mi k d → i = k ∧ c = d := by
  intro i hi c hc k hk d hd e1 e2
  have z := mi_inj' (11 * i + c) (by omega) (11 * k + d) (by omega)
  rw [show (11 * i + c) % 11 = c by omega, show (11 * k + d) % 11 = d by omega, show (11 * i + c) / 11 = i by omega, show (11 * k + d) / 11 = k by omega] at z
  have := z e1 e2
  omega
theorem mi_r : ∀ i, i < 12 → ∀ c, c < 11 → mi i c < 115 ∧ (mc c = 105 → 7 ≤ mi i c) ∧ (mc c = 105 ∨ mc c = 108 ∨ mc c = 109) := by decide +kernel
theorem sf_r : ∀ f, f < 8 → 2 ≤ f → sf f < 7 ∧ sf f ≠ 2 ∧ ∀ g, g < 8 → 2 ≤ g → sf f = sf g → f = g := by decide +kernel
/-- H houses, the same on both sides -/
def AA : Nat → Prop := fun _ => True
def TW (A : Nat → Prop) (H : Nat) (hc hm : PH) : Prop := H ≤ 12 ∧ hc 1 1 = nI H ∧ hm 104 6 = nI H ∧ (∀ f, 2 ≤ f → f < 8 → hc 1 f = hm 105 (sf f)) ∧ (∀ i c, i < H → c < 11 → (c = 10 → A i) → hc 2 (11 * i + c) = hm (mc c) (mi i c)) ∧ ∀ i c, i < H → c < 4 → R 0 99 (hc 2 (11 * i + c))
theorem tb_of {A : Nat → Prop} {H : Nat} {hc hm gc gm : PH} (t : TW A H hc hm) (c1 : gc 1 = hc 1) (c2 : gc 2 = hc 2) (m6 : gm 104 6 = hm 104 6) (m5 : gm 105 = hm 105) (m8 : gm 108 = hm 108) (m9 : gm 109 = hm 109) : TW A H gc gm := by
  obtain ⟨t1, t2, t3, t4, t5, t6⟩ := t
  unfold TW
  rw [c1, c2, m6, m5]
  refine ⟨t1, t2, t3, t4, fun i c hi hc' ha => ?_, t6⟩
  rw [t5 i c hi hc' ha]
  rcases (mi_r i (by omega) c hc').2.2 with e | e | e <;> rw [e]
  · rw [m5]
  · rw [m8]
  · rw [m9]
theorem rdB {A : Nat → Prop} {H : Nat} {hc hm : PH} (t : TW A H hc hm) {i c : Nat} (hi : i < H) (hcc : c < 11) : mB_read 1 (nI i) (nI c) hc = some (hc 2 (11 * i + c)) := by
  have h12 := t.1
  unfold mB_read
  rw [if_neg (nI_pos (by omega)), t.2.1, if_neg (nI_ge hi (by omega)), if_neg (nI_pos (by omega)), if_pos (show nI c < (11 : Int32) from nI_lt (b := 11) hcc (by decide)), show nI i * (11 : Int32) = nI (i * 11) from nI_mul i 11, nI_add, ck_nI (by omega) (by decide), show ix (nI (i * 11 + c)) = i * 11 + c from nI_clamp (by omega), Nat.mul_comm i 11]
theorem wrB {A : Nat → Prop} {H : Nat} {hc hm : PH} (t : TW A H hc hm) {i c : Nat} (hi : i < H) (hcc : c < 11) (v : Int32) : mB_write 1 (nI i) (nI c) v hc = some (up hc 2 (11 * i + c) v) := by
  have h12 := t.1
  unfold mB_write
  rw [if_neg (nI_pos (by omega)), t.2.1, if_neg (nI_ge hi (by omega)), if_neg (nI_pos (by omega)), if_neg (show ¬ (11 : Int32) ≤ nI c from nI_ge (b := 11) hcc (by decide)), show nI i * (11 : Int32) = nI (i * 11) from nI_mul i 11, nI_add, ck_nI (by omega) (by decide), lt_e, show ix (nI (i * 11 + c)) = i * 11 + c from nI_clamp (by omega), Nat.mul_comm i 11]
/-- both sides write the same -/
theorem tb_wr {A : Nat → Prop} {H : Nat} {hc hm : PH} (t : TW A H hc hm) {i c : Nat} (hi : i < H) (hcc : c < 11) (v : Int32) (hv : c < 4 → R 0 99 v) : TW A H (up hc 2 (11 * i + c) v) (up hm (mc c) (mi i c) v) := by
  obtain ⟨t1, t2, t3, t4, t5, t6⟩ := t
  obtain ⟨r1, r2, r3⟩ := mi_r i (by omega) c hcc
  have n104 : (104 : Nat) ≠ mc c := by omega
  refine ⟨t1, by rw [up_oc (by decide)]; exact t2, by rw [up_oc n104]; exact t3, fun f f1 f2 => ?_, fun k d hk hd ha => ?_, fun k d hk hd => ?_⟩
  · rw [up_oc (by decide), t4 f f1 f2]
    have s := (sf_r f f2 f1).1
    by_cases e : mc c = 105
    · rw [e, up_oj (by have := r2 e; omega)]
    · rw [up_oc (fun z => e z.symm)]
  · by_cases e : k = i ∧ d = c
    · rw [e.1, e.2, up_same, up_same]
    · rw [up_oj (by omega), t5 k d hk hd ha]
      by_cases e2 : mc d = mc c
      · rw [e2, up_oj (fun z => e ⟨(mi_inj k (by omega) d hd i (by omega) c hcc e2 z).1, (mi_inj k (by omega) d hd i (by omega) c hcc e2 z).2⟩)]
      · rw [up_oc e2]
  · by_cases e : k = i ∧ d = c
    · rw [e.1, e.2, up_same]
      exact hv (by omega)
    · rw [up_oj (by omega)]
      exact t6 k d hk hd
/-- a number of the borough -/
theorem tb_f {A : Nat → Prop} {H : Nat} {hc hm : PH} (t : TW A H hc hm) {f : Nat} (f1 : 2 ≤ f) (f2 : f < 8) (v : Int32) : TW A H (up hc 1 f v) (up hm 105 (sf f) v) := by
  obtain ⟨t1, t2, t3, t4, t5, t6⟩ := t
  have s := sf_r f f2 f1
  refine ⟨t1, by rw [up_oj (by omega)]; exact t2, by rw [up_oc (by decide)]; exact t3, fun g g1 g2 => ?_, fun k d hk hd ha => ?_, fun k d hk hd => by rw [up_oc (by decide)]; exact t6 k d hk hd⟩
  · by_cases e : g = f
    · rw [e, up_same, up_same]
    · rw [up_oj e, up_oj (fun z => e ((sf_r g g2 g1).2.2 f f2 f1 z)), t4 g g1 g2]
  · rw [up_oc (by decide), t5 k d hk hd ha]
    obtain ⟨r1, r2, r3⟩ := mi_r k (by omega) d hd
    by_cases e : mc d = 105
    · rw [e, up_oj (by have := r2 e; omega)]
    · rw [up_oc e]
theorem wlM {A : Nat → Prop} {H : Nat} {hc hm : PH} (t : TW A H hc hm) {i w : Nat} (hi : i < H) (hw : w < 4) : mm_wallOf (nI i) (nI w) hm = some (hc 2 (11 * i + w)) := by
  have h12 := t.1
  have e := t.2.2.2.2.1 i w hi (by omega) (fun z => by omega)
  unfold mm_wallOf
  rw [show (4 : Int32) * nI i = nI (4 * i) from nI_mul 4 i, show (7 : Int32) + nI (4 * i) = nI (7 + 4 * i) from nI_add 7 _, nI_add, ck_nI (by omega) (by decide), show ix (nI (7 + 4 * i + w)) = 7 + 4 * i + w from nI_clamp (by omega), e]
  unfold mc mi
  rw [if_neg (by omega), if_neg (by omega), if_pos hw]
theorem heM (v : Int32) (h : PH) (hv : R 0 99 v) : mm_held v 0 99 h = some v := by
  obtain ⟨k, k1, k2, ek⟩ := nat_of hv (by decide)
  unfold mm_held
  rw [ek, if_pos (show (0 : Int32) ≤ nI k from nI_le (a := 0) (by omega) (by omega)), if_pos (show nI k ≤ (99 : Int32) from nI_le (b := 99) (by omega) (by decide))]
theorem hwM {A : Nat → Prop} {H : Nat} {hc hm : PH} (t : TW A H hc hm) {i w : Nat} (hi : i < H) (hw : w < 4) (v : Int32) (hv : R 0 99 v) : mm_hasWall (nI i) (nI w) v hm = some (up hm (mc w) (mi i w) v) := by
  have h12 := t.1
  unfold mm_hasWall
  rw [heM v hm hv, bd_e, show (4 : Int32) * nI i = nI (4 * i) from nI_mul 4 i, show (7 : Int32) + nI (4 * i) = nI (7 + 4 * i) from nI_add 7 _, nI_add, ck_nI (by omega) (by decide), lt_e, show ix (nI (7 + 4 * i + w)) = 7 + 4 * i + w from nI_clamp (by omega)]
  have e1 : mc w = 105 := by unfold mc; rw [if_neg (by omega), if_neg (by omega)]
  have e2 : mi i w = 7 + 4 * i + w := by unfold mi; rw [if_pos hw]
  rw [e1, e2]
/-- the model's columns behind the walls -/
theorem colM {A : Nat → Prop} {H : Nat} {hc hm : PH} (t : TW A H hc hm) {i : Nat} (hi : i < H) : hm 108 i = hc 2 (11 * i + 4) ∧ hm 109 i = hc 2 (11 * i + 5) ∧ hm 105 (55 + i) = hc 2 (11 * i + 6) ∧ hm 105 (79 + i) = hc 2 (11 * i + 7) ∧ hm 105 (67 + i) = hc 2 (11 * i + 8) ∧ hm 105 (91 + i) = hc 2 (11 * i + 9) ∧ (A i → hm 105 (103 + i) = hc 2 (11 * i + 10)) := by
  have e := fun c h ha => t.2.2.2.2.1 i c hi h ha
  exact ⟨(e 4 (by decide) (fun z => by omega)).symm, (e 5 (by decide) (fun z => by omega)).symm, (e 6 (by decide) (fun z => by omega)).symm, (e 7 (by decide) (fun z => by omega)).symm, (e 8 (by decide) (fun z => by omega)).symm, (e 9 (by decide) (fun z => by omega)).symm, fun ha => (e 10 (by decide) (fun _ => ha)).symm⟩
/-- what a house's walls come to -/
def sm4 (hc : PH) (i : Nat) : Int32 := ((hc 2 (11 * i) + hc 2 (11 * i + 1)) + hc 2 (11 * i + 2)) + hc 2 (11 * i + 3)
theorem suB {A : Nat → Prop} {H : Nat} {hc hm : PH} (t : TW A H hc hm) {i : Nat} (hi : i < H) : mB_sumOf 1 (nI i) hc = some (sm4 hc i) := by
  have h12 := t.1
  unfold mB_sumOf
  rw [if_neg (nI_pos (by omega)), t.2.1, if_pos (nI_lt hi (by omega)), lt_e, show nI i * (11 : Int32) = nI (i * 11) from nI_mul i 11, Nat.mul_comm i 11, show nI (11 * i) + (1 : Int32) = nI (11 * i + 1) from nI_add _ 1, show nI (11 * i) + (2 : Int32) = nI (11 * i + 2) from nI_add _ 2, show nI (11 * i) + (3 : Int32) = nI (11 * i + 3) from nI_add _ 3, ck_nI (by omega) (by decide), ck_nI (by omega) (by decide), ck_nI (by omega) (by decide), ck_nI (by omega) (by decide), show ix (nI (11 * i)) = 11 * i from nI_clamp (by omega), show ix (nI (11 * i + 1)) = 11 * i + 1 from nI_clamp (by omega), show ix (nI (11 * i + 2)) = 11 * i + 2 from nI_clamp (by omega), show ix (nI (11 * i + 3)) = 11 * i + 3 from nI_clamp (by omega)]
  rfl
theorem suM {A : Nat → Prop} {H : Nat} {hc hm : PH} (t : TW A H hc hm) {i : Nat} (hi : i < H) : mm_sumOf (nI i) hm = some (sm4 hc i) := by
  unfold mm_sumOf
  rw [show mm_wallOf (nI i) 0 hm = _ from wlM t hi (w := 0) (by decide), bd_e, show mm_wallOf (nI i) 1 hm = _ from wlM t hi (w := 1) (by decide), bd_e, show mm_wallOf (nI i) 2 hm = _ from wlM t hi (w := 2) (by decide), bd_e, show mm_wallOf (nI i) 3 hm = _ from wlM t hi (w := 3) (by decide), bd_e]
  rfl
def upI (hc : PH) (i : Nat) : Int32 := if sm4 hc i ≤ 0 then 0 else 1
theorem isBB {A : Nat → Prop} {H : Nat} {hc hm : PH} (t : TW A H hc hm) {i : Nat} (hi : i < H) : mB_isUp 1 (nI i) hc = some (upI hc i) := by
  unfold mB_isUp upI
  rw [suB t hi, bd_e]
  split <;> rfl
theorem isM {A : Nat → Prop} {H : Nat} {hc hm : PH} (t : TW A H hc hm) {i : Nat} (hi : i < H) : mm_doesStand (nI i) hm = some (upI hc i) := by
  unfold mm_doesStand upI
  rw [suM t hi, bd_e]
  split <;> rfl
/-- the thickest wall -/
def tkF (h : PH) (i : Nat) : Nat → Nat → Nat → Nat
  | 0, b, _ => b
  | f + 1, b, w => tkF h i f (if h 2 (11 * i + w) ≤ h 2 (11 * i + b) then b else w) (w + 1)
def tkv (h : PH) (i : Nat) : Nat := tkF h i 3 0 1
theorem th_sim {A : Nat → Prop} {H : Nat} {hc hm : PH} (t : TW A H hc hm) {i : Nat} (hi : i < H) : ∀ (f n b w : Nat), f + w = 4 → f < n → b < 4 → mB_thickest_L4 1 (nI i) hc n (nI b) (nI w) = some (nI (tkF hc i f b w)) ∧ mm_thickest_L4 (nI i) hm n (nI b) (nI w) = some (nI (tkF hc i f b w)) ∧ tkF hc i f b w < 4 := by
  intro f
  induction f with
  | zero =>
    intro n b w h1 h2 h3
    cases n with
    | zero => omega
    | succ n =>
      have w4 : w = 4 := by omega
      subst w4
      rw [mB_thickest_L4, mm_thickest_L4, if_pos (by decide), if_pos (by decide), tkF]
      exact ⟨rfl, rfl, h3⟩
  | succ f ih =>
    intro n b w h1 h2 h3
    cases n with
    | zero => omega
    | succ n =>
      have hw : ¬ (4 : Int32) ≤ nI w := nI_ge (b := 4) (by omega) (by decide)
      rw [mB_thickest_L4, mm_thickest_L4, if_neg hw, if_neg hw, rdB t hi (show w < 11 by omega), bd_e, rdB t hi (show b < 11 by omega), bd_e, wlM t hi (show w < 4 by omega), bd_e, wlM t hi h3, bd_e, nI_1, tkF]
      by_cases d : hc 2 (11 * i + w) ≤ hc 2 (11 * i + b)
      · rw [if_pos d, if_pos d, if_pos d]
        exact ih n b (w + 1) (by omega) (by omega) h3
      · rw [if_neg d, if_neg d, if_neg d]
        exact ih n w (w + 1) (by omega) (by omega) (by omega)
theorem th_at {A : Nat → Prop} {H : Nat} {hc hm : PH} (t : TW A H hc hm) {i : Nat} (hi : i < H) : mB_thickest 1 (nI i) hc = some (nI (tkv hc i)) ∧ mm_thickest (nI i) hm = some (nI (tkv hc i)) ∧ tkv hc i < 4 :=
  th_sim t hi 3 FU 0 1 rfl (by unfold FU; omega) (by decide)
theorem tk_fr {h g : PH} {i : Nat} (e : ∀ w, w < 4 → g 2 (11 * i + w) = h 2 (11 * i + w)) : tkv g i = tkv h i := by
  have go : ∀ (f b w : Nat), f + w = 4 → b < 4 → tkF g i f b w = tkF h i f b w := by
    intro f
    induction f with
    | zero => intro b w _ _; rfl
    | succ f ih =>
      intro b w h1 h2
      rw [tkF, tkF, e w (by omega), e b h2]
      exact ih _ (w + 1) (by omega) (by split <;> omega)
  exact go 3 0 1 rfl (by decide)
/-- it is as thick as any -/
theorem tk_max {h : PH} {i : Nat} : ∀ w, w < 4 → h 2 (11 * i + w) ≤ h 2 (11 * i + tkv h i) := by
  have tr : ∀ a b c : Int32, a ≤ b → b ≤ c → a ≤ c := fun a b c x y => Int32.le_trans x y
  have rf : ∀ a : Int32, a ≤ a := fun a => Int32.le_refl a
  have go : ∀ (f b w : Nat), f + w = 4 → b < 4 → (∀ k, k < w → h 2 (11 * i + k) ≤ h 2 (11 * i + b)) → ∀ k, k < 4 → h 2 (11 * i + k) ≤ h 2 (11 * i + tkF h i f b w) := by
    intro f
    induction f with
    | zero =>
      intro b w h1 h2 h3 k hk
      exact h3 k (by omega)
    | succ f ih =>
      intro b w h1 h2 h3
      rw [tkF]
      by_cases d : h 2 (11 * i + w) ≤ h 2 (11 * i + b)
      · rw [if_pos d]
        refine ih b (w + 1) (by omega) h2 (fun k hk => ?_)
        by_cases e : k = w
        · rw [e]; exact d
        · exact h3 k (by omega)
      · rw [if_neg d]
        have d' : h 2 (11 * i + b) ≤ h 2 (11 * i + w) := Int32.le_of_lt (Int32.not_le.mp d)
        refine ih w (w + 1) (by omega) (by omega) (fun k hk => ?_)
        by_cases e : k = w
        · rw [e]; exact rf _
        · exact tr _ _ _ (h3 k (by omega)) d'
  exact go 3 0 1 rfl (by decide) (fun k hk => by rw [show k = 0 by omega]; exact rf _)
/-- who stands -/
theorem us_sim {A : Nat → Prop} {H : Nat} {hc hm : PH} (t : TW A H hc hm) : ∀ (n k : Nat) (s : Int32), H < n + k → k ≤ H → ∃ r, mB_upSet_L4 1 hc n s (nI k) = some r ∧ mm_standingSet_L4 hm n s (nI k) = some r := by
  intro n
  have h12 := t.1
  induction n with
  | zero => intro k s h1 h2; omega
  | succ n ih =>
    intro k s h1 h2
    rw [mB_upSet_L4, mm_standingSet_L4, t.2.1, t.2.2.1]
    by_cases c : k = H
    · rw [if_pos (nI_le (by omega) (by omega)), if_pos (nI_le (by omega) (by omega))]
      exact ⟨s, rfl, rfl⟩
    · have hk : k < H := by omega
      rw [if_neg (nI_ge hk (by omega)), if_neg (nI_ge hk (by omega)), isBB t hk, bd_e, isM t hk, bd_e, nI_1]
      by_cases d : upI hc k = 0
      · rw [if_pos d, if_pos d]
        exact ih (k + 1) s (by omega) (by omega)
      · rw [if_neg d, if_neg d, lt_e, lt_e]
        exact ih (k + 1) _ (by omega) (by omega)
theorem us_at {A : Nat → Prop} {H : Nat} {hc hm : PH} (t : TW A H hc hm) : ∃ r, mB_upSet 1 hc = some r ∧ mm_standingSet hm = some r := by
  obtain ⟨r, r1, r2⟩ := us_sim t FU 0 0 (by have := t.1; unfold FU; omega) (Nat.zero_le _)
  rw [nI_0] at r1 r2
  exact ⟨r, r1, r2⟩
/-- a wall gets thinner; thicker -/
theorem tn_B {A : Nat → Prop} {H : Nat} {hc hm : PH} (t : TW A H hc hm) {i w : Nat} (hi : i < H) (hw : w < 4) (n : Int32) (x : Int32) (ex : imin (hc 2 (11 * i + w)) n = x) : mB_thin 1 (nI i) (nI w) n hc = some (x, up hc 2 (11 * i + w) (hc 2 (11 * i + w) - x)) := by
  unfold mB_thin
  rw [rdB t hi (by omega), bd_e, lt_e, ex, wrB t hi (by omega), bd_e]
end
