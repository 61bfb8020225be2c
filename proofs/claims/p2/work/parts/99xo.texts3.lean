/-! TEXTS: line after line. Printed by wip/gen/ptext.py -/
def lfn (s : Nat) (hv : PH) : Option (Int32 × PH) := if s = 0 then mD_lawLine hv else if s = 1 then mD_skyLine hv else if s = 2 then mD_officeLine hv else mD_nextLine hv
theorem s4 {s : Nat} (hs : s < 4) : s = 0 ∨ s = 1 ∨ s = 2 ∨ s = 3 := by omega
theorem r43_0 {s n r : Nat} (hr : r ≤ 16) {hv : PH} (e : hv 90 6 = 0) : mD_reads_L43 (nI s) (refC 1) (refC 3) (n + 1) (nI r) hv = some (1, hv) := by
  rw [mD_reads_L43, if_neg (show ¬ (16 : Int32) < nI r from nI_nlt (a := 16) hr (by decide)), if_pos e]
theorem r43_bad {s n r : Nat} (hs : s < 4) (hr : r ≤ 16) {hv : PH} (e0 : ¬ hv 90 6 = 0) (e : hv 90 6 = 1 → ∃ w, w < 1000 ∧ hv 90 7 = nI w ∧ (if s = 0 then 2 else 0) < w) : mD_reads_L43 (nI s) (refC 1) (refC 3) (n + 1) (nI r) hv = refC 1 hv := by
  rw [mD_reads_L43, if_neg (show ¬ (16 : Int32) < nI r from nI_nlt (a := 16) hr (by decide)), if_neg e0]
  by_cases c : hv 90 6 = 1
  · obtain ⟨w, w1, w2, w3⟩ := e c
    rw [if_pos c, jn1_e]
    rcases s4 hs with h | h | h | h
    · subst h
      rw [if_pos rfl] at w3
      rw [if_pos (show nI 0 = (0 : Int32) from rfl)]
      try dsimp only
      rw [w2, if_neg (show ¬ nI w ≤ (2 : Int32) from nI_ge (a := 2) w3 (by omega))]
    all_goals
      subst h
      rw [if_neg (by decide)] at w3
      rw [if_neg (by decide)]
      try dsimp only
      rw [w2, if_neg (show ¬ nI w ≤ (0 : Int32) from nI_ge (a := 0) w3 (by omega))]
  · rw [if_neg c]
theorem r43_go {s n r w : Nat} (hs : s < 4) (hr : r ≤ 16) {hv : PH} (e : hv 90 6 = 1) (ew : hv 90 7 = nI w) (hw : w ≤ (if s = 0 then 2 else 0)) : mD_reads_L43 (nI s) (refC 1) (refC 3) (n + 1) (nI r) hv = if r = 16 then refC 3 hv else bd2 (lfn s hv) fun x11 h12 => if x11 = 0 then some (0, h12) else mD_reads_L43 (nI s) (refC 1) (refC 3) n (nI (r + 1)) h12 := by
  have w2 : w ≤ 2 := by split at hw <;> omega
  have lim : (if nI s = (0 : Int32) then (if nI w ≤ (2 : Int32) then True else False) else (if nI w ≤ (0 : Int32) then True else False)) := by
    rcases s4 hs with h | h | h | h
    · subst h
      rw [if_pos (show nI 0 = (0 : Int32) from rfl), if_pos (show nI w ≤ (2 : Int32) from nI_le (b := 2) w2 (by decide))]
      trivial
    all_goals
      subst h
      rw [if_neg (by decide)] at hw
      rw [if_neg (by decide), if_pos (show nI w ≤ (0 : Int32) from nI_le (b := 0) hw (by decide))]
      trivial
  have c16 : nI r = (16 : Int32) ↔ r = 16 := nI_eq (b := 16) (by omega) (by decide)
  rw [mD_reads_L43, if_neg (show ¬ (16 : Int32) < nI r from nI_nlt (a := 16) hr (by decide)), e, if_neg no10, if_pos rfl, jn1_e, ew]
  have fin : ∀ x9 : Int32, nI w ≤ x9 → ∀ X Y : Option (Int32 × PH), (if nI w ≤ x9 then X else Y) = X := fun x9 h X Y => if_pos h
  have body : (if nI r = (16 : Int32) then refC 3 hv else jn2 (fun (x11 : Int32) (h12 : PH) => if x11 = 0 then some (0, h12) else mD_reads_L43 (nI s) (refC 1) (refC 3) n (nI r + 1) h12) fun j10 => if nI s = 0 then bd2 (mD_lawLine hv) fun r13 h14 => j10 r13 h14 else if nI s = 1 then bd2 (mD_skyLine hv) fun r15 h16 => j10 r15 h16 else if nI s = 2 then bd2 (mD_officeLine hv) fun r17 h18 => j10 r17 h18 else bd2 (mD_nextLine hv) fun r19 h20 => j10 r19 h20) = if r = 16 then refC 3 hv else bd2 (lfn s hv) fun x11 h12 => if x11 = 0 then some (0, h12) else mD_reads_L43 (nI s) (refC 1) (refC 3) n (nI (r + 1)) h12 := by
    by_cases c : r = 16
    · rw [if_pos (c16.mpr c), if_pos c]
    · rw [if_neg (fun z => c (c16.mp z)), if_neg c, jn2_e, nI_1]
      rcases s4 hs with h | h | h | h <;> subst h <;> rfl
  rcases s4 hs with h | h | h | h
  · subst h
    rw [if_pos (show nI 0 = (0 : Int32) from rfl)]
    try dsimp only
    rw [fin 2 (nI_le (b := 2) w2 (by decide))]
    exact body
  all_goals
    subst h
    rw [if_neg (by decide)] at hw
    rw [if_neg (show ¬ nI _ = (0 : Int32) by decide)]
    try dsimp only
    rw [fin 0 (nI_le (b := 0) hw (by decide))]
    exact body
def kEnd (x8 : Int32) (h9 : PH) : Option (Int32 × PH) := if (h9 104 14) = 0 then some (x8, h9) else bd2 (mm_errs 1 h9) fun r10 h11 => some (r10, h11)
/-- what a text leaves -/
def TXR (rc rm : Option (Int32 × PH)) : Prop := (∃ r gc gm, r ≤ 16 ∧ rc = some (1, gc) ∧ rm = some (nI r, gm) ∧ gc 91 3 = nI r ∧ gc 90 2 = 0 ∧ gc 90 3 = -1) ∨ ∃ gc gm, rc = some (0, gc) ∧ rm = some (-1, gm) ∧ FF gc gm
theorem txr_err {s : Nat} {B : Nat → Nat} {L N i w : Nat} {C : List (Nat × Nat)} {hc hm : PH} (j : JJ s B L N i w C hc hm) (p : Int32) : TXR (refC p hc) (bd2 (mm_errs p hm) fun r h => some (r, h)) := by
  obtain ⟨gc, gm, r1, r2, r3, r4, r5⟩ := j_ref j p
  unfold refC
  rw [r1, bd2_e, r2, bd2_e]
  exact Or.inr ⟨gc, gm, rfl, rfl, r3⟩
theorem m_k0 {B : Nat → Nat} {L i : Nat} {h : PH} (m : MU B L i h) : (h 104 14 = 0 ↔ (tt B L i).1 = 0) := by
  have k : TkM (tt B L i) (h 104 14) (h 104 15) := m.2.2.2
  rcases k with ⟨a, e⟩ | ⟨a, e⟩ | ⟨a, _, e, _⟩ | ⟨a, _, e, _⟩ | ⟨a, _, e, _⟩ <;> rw [a, e] <;> decide
theorem c_k0 {s : Nat} {B : Nat → Nat} {L N i : Nat} {h : PH} (c : CU s B L N i h) : (h 90 6 = 0 ↔ (tt B L i).1 = 0) := by
  rcases cu_tk c with ⟨a, e⟩ | ⟨a, e⟩ | ⟨a, _, ⟨_, _, _, e, _⟩ | ⟨e, _⟩⟩ | ⟨a, _, e, _⟩ | ⟨a, _, e, _⟩ <;> rw [a, e] <;> decide
/-- the first word of a line, in the text's own list -/
def m0 (s : Nat) : Nat := if s = 3 then 25 else 19
theorem wv_0 : ∀ s, s < 4 → s ≠ 0 → (wv s).getD 0 99 = m0 s ∧ 0 < (wv s).length := by decide
theorem c_line {s : Nat} {B : Nat → Nat} {L N i : Nat} {h : PH} (hs : s < 4) (s0 : s ≠ 0) (c : CU s B L N i h) (x : (tt B L i).1 = 2 ∧ (tt B L i).2 = m0 s) : h 90 6 = 1 ∧ h 90 7 = nI 0 := by
  obtain ⟨a, b⟩ := wv_0 s hs s0
  rcases c_wv c x.1 with ⟨w, y1, y2, y3, y4⟩ | ⟨_, y2⟩
  · have : w = 0 := wv_inj s hs w y1 0 b (by rw [y2, x.2, a])
    rw [← this]
    exact ⟨y3, y4⟩
  · exact absurd (by rw [a, x.2]) (y2 0 b)
theorem c_noline {s : Nat} {B : Nat → Nat} {L N i : Nat} {h : PH} (hs : s < 4) (s0 : s ≠ 0) (c : CU s B L N i h) (x : ¬ ((tt B L i).1 = 2 ∧ (tt B L i).2 = m0 s)) (e : h 90 6 = 1) : ∃ w, w < 1000 ∧ h 90 7 = nI w ∧ (if s = 0 then 2 else 0) < w := by
  obtain ⟨a, b⟩ := wv_0 s hs s0
  have l := (wk_l s hs).2
  have t2 : (tt B L i).1 = 2 := by
    apply Classical.byContradiction
    intro z
    exact c_nw c z e
  rcases c_wv c t2 with ⟨w, y1, y2, y3, y4⟩ | ⟨y1, _⟩
  · refine ⟨w, by omega, y4, ?_⟩
    rw [if_neg s0]
    apply Classical.byContradiction
    intro z
    have : w = 0 := by omega
    rw [this, a] at y2
    exact x ⟨t2, y2.symm⟩
  · rw [y1] at e; exact absurd e (by decide)
theorem lp_sky {B : Nat → Nat} {L N H : Nat} : ∀ (n nM r i : Nat) (hc hm : PH), 17 < n + r → 17 < nM + r → r ≤ 16 → JJ 1 B L N i 0 [] hc hm → CR r hc → HH H hc hm → TXR (mD_reads_L43 (nI 1) (refC 1) (refC 3) n (nI r) hc) (mm_readSky_L2 ka3 kEnd nM (nI r) hm) := by
  intro n
  induction n with
  | zero => intro nM r i hc hm h1 h2 h3; omega
  | succ n ih =>
    intro nM r i hc hm h1 h2 h3 j cr hh
    cases nM with
    | zero => omega
    | succ nM =>
    rw [mm_readSky_L2]
    by_cases x : (tt B L i).1 = 2 ∧ (tt B L i).2 = 19
    · obtain ⟨c1, c2⟩ := c_line (s := 1) (by decide) (by decide) j.1 x
      rw [r43_go (s := 1) (w := 0) (by decide) h3 c1 c2 (Nat.zero_le _), show mm_isWord 19 hm = some 1 from m_w1 (x := 19) j.2.1 x (by decide), bd_e, if_neg no10]
      by_cases c16 : r = 16
      · rw [if_pos c16, if_pos (show nI r = (16 : Int32) by rw [c16]; rfl)]
        exact txr_err j 3
      · rw [if_neg c16, if_neg (show ¬ nI r = (16 : Int32) from fun z => c16 ((nI_eq (b := 16) (by omega) (by decide)).mp z)), show (48 : Int32) + 3 * nI r = nI (48 + 3 * r) by rw [show (3 : Int32) * nI r = nI (3 * r) from nI_mul 3 r]; exact nI_add 48 _, show lfn 1 hc = _ from rfl]
        rcases sk_sim j cr (by omega) x with ⟨i2, gc, gm, a1, a2, a3, a4, a5, a6, a7⟩ | ⟨gc, gm, a1, a2, a3⟩
        · have hm6 : gm 104 6 = hm 104 6 := fkm_readSkyLine _ hm a3 104 6 (show kk 104 6 ∉ FKdm_readSkyLine _ from (by decide : 1006 ∉ FKdm_readSkyLine 0))
          rw [show lfn 1 hc = some (1, gc) from a2, bd2_e, if_neg no10, a3, bd2_e, if_neg (show ¬ (0 : Int32) = -1 by decide), lt_e, nI_1]
          exact ih nM (r + 1) i2 gc gm (by omega) (by omega) (by omega) a4 a5 (hh_t hh a7.2.1 hm6)
        · rw [show lfn 1 hc = some (0, gc) from a1, bd2_e, if_pos rfl, a2, bd2_e, if_pos rfl]
          exact Or.inr ⟨gc, gm, rfl, rfl, a3⟩
    · rw [show mm_isWord 19 hm = some 0 from m_w0 (x := 19) j.2.1 x (by decide), bd_e, if_pos rfl]
      unfold kEnd
      by_cases c0 : (tt B L i).1 = 0
      · rw [r43_0 h3 ((c_k0 j.1).mpr c0), if_pos ((m_k0 j.2.1).mpr c0)]
        exact Or.inl ⟨r, hc, hm, h3, rfl, rfl, cr.2.2, j.1.2.2.2.2.2.1, j.1.2.2.2.2.2.2⟩
      · rw [r43_bad (s := 1) (by decide) h3 (fun z => c0 ((c_k0 j.1).mp z)) (c_noline (by decide) (by decide) j.1 x), if_neg (fun z => c0 ((m_k0 j.2.1).mp z))]
        exact txr_err j 1
theorem lp_office {B : Nat → Nat} {L N H : Nat} : ∀ (n nM r i : Nat) (hc hm : PH), 17 < n + r → 17 < nM + r → r ≤ 16 → JJ 2 B L N i 0 [] hc hm → CR r hc → HH H hc hm → TXR (mD_reads_L43 (nI 2) (refC 1) (refC 3) n (nI r) hc) (mm_readOffice_L2 ka3 kEnd nM (nI r) hm) := by
  intro n
  induction n with
  | zero => intro nM r i hc hm h1 h2 h3; omega
  | succ n ih =>
    intro nM r i hc hm h1 h2 h3 j cr hh
    cases nM with
    | zero => omega
    | succ nM =>
    rw [mm_readOffice_L2]
    by_cases x : (tt B L i).1 = 2 ∧ (tt B L i).2 = 19
    · obtain ⟨c1, c2⟩ := c_line (s := 2) (by decide) (by decide) j.1 x
      rw [r43_go (s := 2) (w := 0) (by decide) h3 c1 c2 (Nat.zero_le _), show mm_isWord 19 hm = some 1 from m_w1 (x := 19) j.2.1 x (by decide), bd_e, if_neg no10]
      by_cases c16 : r = 16
      · rw [if_pos c16, if_pos (show nI r = (16 : Int32) by rw [c16]; rfl)]
        exact txr_err j 3
      · rw [if_neg c16, if_neg (show ¬ nI r = (16 : Int32) from fun z => c16 ((nI_eq (b := 16) (by omega) (by decide)).mp z)), show (80 : Int32) + 5 * nI r = nI (80 + 5 * r) by rw [show (5 : Int32) * nI r = nI (5 * r) from nI_mul 5 r]; exact nI_add 80 _, show lfn 2 hc = _ from rfl]
        rcases of_sim j cr (by omega) hh x with ⟨i2, gc, gm, a1, a2, a3, a4, a5, a6, a7⟩ | ⟨gc, gm, a1, a2, a3⟩
        · have hm6 : gm 104 6 = hm 104 6 := fkm_readDeed _ hm a3 104 6 (show kk 104 6 ∉ FKdm_readDeed _ from (by decide : 1006 ∉ FKdm_readDeed 0))
          rw [show lfn 2 hc = some (1, gc) from a2, bd2_e, if_neg no10, a3, bd2_e, if_neg (show ¬ (0 : Int32) = -1 by decide), lt_e, nI_1]
          exact ih nM (r + 1) i2 gc gm (by omega) (by omega) (by omega) a4 a5 (hh_t hh a7.2.1 hm6)
        · rw [show lfn 2 hc = some (0, gc) from a1, bd2_e, if_pos rfl, a2, bd2_e, if_pos rfl]
          exact Or.inr ⟨gc, gm, rfl, rfl, a3⟩
    · rw [show mm_isWord 19 hm = some 0 from m_w0 (x := 19) j.2.1 x (by decide), bd_e, if_pos rfl]
      unfold kEnd
      by_cases c0 : (tt B L i).1 = 0
      · rw [r43_0 h3 ((c_k0 j.1).mpr c0), if_pos ((m_k0 j.2.1).mpr c0)]
        exact Or.inl ⟨r, hc, hm, h3, rfl, rfl, cr.2.2, j.1.2.2.2.2.2.1, j.1.2.2.2.2.2.2⟩
      · rw [r43_bad (s := 2) (by decide) h3 (fun z => c0 ((c_k0 j.1).mp z)) (c_noline (by decide) (by decide) j.1 x), if_neg (fun z => c0 ((m_k0 j.2.1).mp z))]
        exact txr_err j 1
theorem lp_next {B : Nat → Nat} {L N H : Nat} : ∀ (n nM r i : Nat) (hc hm : PH), 17 < n + r → 17 < nM + r → r ≤ 16 → JJ 3 B L N i 0 [] hc hm → CR r hc → HH H hc hm → TXR (mD_reads_L43 (nI 3) (refC 1) (refC 3) n (nI r) hc) (mm_readNexts_L26 ka3 kEnd nM (nI r) hm) := by
  intro n
  induction n with
  | zero => intro nM r i hc hm h1 h2 h3; omega
  | succ n ih =>
    intro nM r i hc hm h1 h2 h3 j cr hh
    cases nM with
    | zero => omega
    | succ nM =>
    rw [mm_readNexts_L26]
    by_cases x : (tt B L i).1 = 2 ∧ (tt B L i).2 = 25
    · obtain ⟨c1, c2⟩ := c_line (s := 3) (by decide) (by decide) j.1 x
      rw [r43_go (s := 3) (w := 0) (by decide) h3 c1 c2 (Nat.zero_le _), show mm_isWord 25 hm = some 1 from m_w1 (x := 25) j.2.1 x (by decide), bd_e, if_neg no10]
      by_cases c16 : r = 16
      · rw [if_pos c16, if_pos (show nI r = (16 : Int32) by rw [c16]; rfl)]
        exact txr_err j 3
      · rw [if_neg c16, if_neg (show ¬ nI r = (16 : Int32) from fun z => c16 ((nI_eq (b := 16) (by omega) (by decide)).mp z)), show lfn 3 hc = _ from rfl]
        rcases nx_sim j cr (by omega) hh x with ⟨i2, gc, gm, a1, a2, a3, a4, a5, a6, a7⟩ | ⟨gc, gm, a1, a2, a3⟩
        · have hm6 : gm 104 6 = hm 104 6 := fkm_readNext hm a3 104 6 (show kk 104 6 ∉ FKdm_readNext from (by decide : 1006 ∉ FKdm_readNext))
          rw [show lfn 3 hc = some (1, gc) from a2, bd2_e, if_neg no10, a3, bd2_e, if_neg (show ¬ (0 : Int32) = -1 by decide), lt_e, nI_1]
          exact ih nM (r + 1) i2 gc gm (by omega) (by omega) (by omega) a4 a5 (hh_t hh a7.2.1 hm6)
        · rw [show lfn 3 hc = some (0, gc) from a1, bd2_e, if_pos rfl, a2, bd2_e, if_pos rfl]
          exact Or.inr ⟨gc, gm, rfl, rfl, a3⟩
    · rw [show mm_isWord 25 hm = some 0 from m_w0 (x := 25) j.2.1 x (by decide), bd_e, if_pos rfl]
      unfold kEnd
      by_cases c0 : (tt B L i).1 = 0
      · rw [r43_0 h3 ((c_k0 j.1).mpr c0), if_pos ((m_k0 j.2.1).mpr c0)]
        exact Or.inl ⟨r, hc, hm, h3, rfl, rfl, cr.2.2, j.1.2.2.2.2.2.1, j.1.2.2.2.2.2.2⟩
      · rw [r43_bad (s := 3) (by decide) h3 (fun z => c0 ((c_k0 j.1).mp z)) (c_noline (by decide) (by decide) j.1 x), if_neg (fun z => c0 ((m_k0 j.2.1).mp z))]
        exact txr_err j 1
theorem lp_law {B : Nat → Nat} {L N : Nat} : ∀ (n nM r i : Nat) (Ls : List (Nat × List (Nat × Nat) × List (Nat × Nat))) (hc hm : PH), 17 < n + r → 17 < nM + r → r ≤ 16 → JL 0 B L N i (cdo Ls) r hc hm → Ls.length = r → LCl Ls hc → LMl Ls hm → LQ Ls → TXR (mD_reads_L43 (nI 0) (refC 1) (refC 3) n (nI r) hc) (mm_readLaw_L2 ka3 kp1 kEnd nM (nI r) hm) := by
  intro n
  induction n with
  | zero => intro nM r i Ls hc hm h1 h2 h3; omega
  | succ n ih =>
    intro nM r i Ls hc hm h1 h2 h3 j hl lc lm lq
    cases nM with
    | zero => omega
    | succ nM =>
    by_cases x : ∃ w, w < 3 ∧ (tt B L i).1 = 2 ∧ (tt B L i).2 = w
    · obtain ⟨w, hw, x1, x2⟩ := x
      obtain ⟨c1, c2⟩ := c_lw j.1.1 ⟨x1, x2⟩ (by omega)
      rw [r43_go (s := 0) (w := w) (by decide) h3 c1 c2 (by show w ≤ 2; omega)]
      by_cases c16 : r = 16
      · obtain ⟨mw1, mw2⟩ := m_lw j.1.2.1 ⟨x1, x2⟩
        have ilw : mm_isLineWord hm = some 1 := by
          unfold mm_isLineWord
          rw [mw1, if_pos rfl, mw2, isIn_y (show (0 : Int32) ≤ nI w ∧ nI w ≤ (2 : Int32) from ⟨nI_le (a := 0) (by omega) (by omega), nI_le (b := 2) (by omega) (by decide)⟩), bd_e, if_neg no10]
        rw [if_pos c16, mm_readLaw_L2, ilw, bd_e, if_neg no10, if_pos (show nI r = (16 : Int32) by rw [c16]; rfl)]
        exact txr_err j.1 3
      · rw [if_neg c16, show lfn 0 hc = mD_lawLine hc from rfl]
        rcases ll_sim ka3 kEnd nM j hl lc lm lq (by omega) ⟨x1, x2⟩ hw with ⟨i2, Ls2, gc, gm, a1, a2, a3, a4, a5, a6, a7, a8, a9, a10⟩ | ⟨gc, gm, a1, a2, a3, a4, a5⟩
        · rw [a2, bd2_e, if_neg no10, a3]
          exact ih nM (r + 1) i2 Ls2 gc gm (by omega) (by omega) (by omega) a4 a5 a6 a7 a8
        · rw [a1, bd2_e, if_pos rfl, a2]
          exact Or.inr ⟨gc, gm, rfl, rfl, a3⟩
    · have ilw : mm_isLineWord hm = some 0 := by
        unfold mm_isLineWord
        have k : TkM (tt B L i) (hm 104 14) (hm 104 15) := j.1.2.1.2.2.2
        rcases k with ⟨_, e⟩ | ⟨_, e⟩ | ⟨a, a2, e, e2⟩ | ⟨_, _, e, _⟩ | ⟨_, _, e, _⟩
        · rw [e, if_neg (by decide)]
        · rw [e, if_neg (by decide)]
        · rw [if_pos e, e2, isIn_n (fun z => ?_), bd_e, if_pos rfl]
          have z2 : (tt B L i).2 ≤ 2 := (nI_leI (b := 2) (by omega) (by decide)).mp z.2
          exact x ⟨_, by omega, a, rfl⟩
        · rw [e, if_neg (by decide)]
        · rw [e, if_neg (by decide)]
      rw [mm_readLaw_L2, ilw, bd_e, if_pos rfl]
      unfold kEnd
      by_cases c0 : (tt B L i).1 = 0
      · rw [r43_0 h3 ((c_k0 j.1.1).mpr c0), if_pos ((m_k0 j.1.2.1).mpr c0)]
        exact Or.inl ⟨r, hc, hm, h3, rfl, rfl, j.2.1.2.2, j.1.1.2.2.2.2.2.1, j.1.1.2.2.2.2.2.2⟩
      · rw [r43_bad (s := 0) (by decide) h3 (fun z => c0 ((c_k0 j.1.1).mp z)) (fun e => ?_), if_neg (fun z => c0 ((m_k0 j.1.2.1).mp z))]
        · exact txr_err j.1 1
        · have t2 : (tt B L i).1 = 2 := by
            apply Classical.byContradiction
            intro z
            exact c_nw j.1.1 z e
          rcases c_wv j.1.1 t2 with ⟨w, y1, y2, y3, y4⟩ | ⟨y1, _⟩
          · rw [wv0l] at y1
            rw [wv0 w y1] at y2
            refine ⟨w, by omega, y4, ?_⟩
            rw [if_pos rfl]
            apply Classical.byContradiction
            intro z
            exact x ⟨w, by omega, t2, y2.symm⟩
          · rw [y1] at e; exact absurd e (by decide)
/-! a text, from the tape on -/
theorem r43_g (p : Int32) (n : Nat) (v : Int32) (h : PH) : mD_reads_L43 p (fun (h21 : PH) => bd2 (mD_refuse 1 h21) fun r22 h23 => some (nb r22, h23)) (fun (h24 : PH) => bd2 (mD_refuse 3 h24) fun r25 h26 => some (nb r25, h26)) n v h = mD_reads_L43 p (refC 1) (refC 3) n v h := rfl
theorem d_reads {s : Nat} (hs : s < 4) {B : Nat → Nat} {L : Nat} {h : PH} (t : TC B L h) (i : Inv h) (f2 : h 90 2 = 0) (f3 : h 90 3 = -1) (p2 : Int32) : ∃ N hc, mD_reads (nI s) p2 h = mD_reads_L43 (nI s) (refC 1) (refC 3) FU (nI 0) hc ∧ CU s B L N 0 hc ∧ CC [] hc ∧ CR 0 hc ∧ hc 90 8 = p2 := by
  obtain ⟨N, g, g1, g2, g3⟩ := sc_at s hs B L h t
  have wo : mD_wordsOf (nI s) h = some s := by
    rcases s4 hs with e | e | e | e <;> subst e <;> rfl
  have r93 := rows_n (a := 93) (m := 400) (w := 2) rfl (by decide) (by decide) i
  have r91 := rows_n (a := 91) (m := 16) (w := 5) rfl (by decide) (by decide) i
  have b90 : g 90 = h 90 := g3 90 (by decide) (by decide) (by decide) (by decide)
  have b91 : g 91 = h 91 := g3 91 (by decide) (by decide) (by decide) (by decide)
  have b93 : g 93 = h 93 := g3 93 (by decide) (by decide) (by decide) (by decide)
  have c6 : CTk s B L N (up (up (up (up g 90 8 p2) 91 3 0) 93 3 0) 90 5 (-1)) := ctk_b g2 (by rw [up_cell (by decide), up_cell (by decide), up_cell (by decide), up_cell (by decide)]) (by rw [up_cell (by decide), up_cell (by decide), up_cell (by decide), up_cell (by decide)]) (by rw [up_cell (by decide), up_cell (by decide), up_cell (by decide), up_cell (by decide)]) (by rw [up_cell (by decide), up_cell (by decide), up_cell (by decide), up_cell (by decide)]) (by rw [up_cell (by decide), up_cell (by decide), up_cell (by decide), up_cell (by decide)])
  obtain ⟨a1, a2⟩ := av_at c6 0 (Nat.zero_le _) (by rw [up_same]; decide) ⟨by rw [up_oj (by decide), up_oc (by decide), up_oc (by decide), up_oj (by decide), b90]; exact f2, by rw [up_oj (by decide), up_oc (by decide), up_oc (by decide), up_oj (by decide), b90]; exact f3⟩
  have v8 : up (up (up (up g 90 8 p2) 91 3 0) 93 3 0) 90 5 (-1) 90 8 = p2 := by rw [up_oj (by decide), up_oc (by decide), up_oc (by decide), up_same]
  have v93 : ∀ j, up (up (up (up g 90 8 p2) 91 3 0) 93 3 0) 90 5 (-1) 93 j = if j = 3 then 0 else h 93 j := fun j => by
    rw [up_oc (by decide), up_at, if_pos rfl, up_oc (by decide), up_oc (by decide), b93]
  have v91 : ∀ j, up (up (up (up g 90 8 p2) 91 3 0) 93 3 0) 90 5 (-1) 91 j = if j = 3 then 0 else h 91 j := fun j => by
    rw [up_oc (by decide), up_oc (by decide), up_at, if_pos rfl, up_oc (by decide), b91]
  refine ⟨N, avH (up (up (up (up g 90 8 p2) 91 3 0) 93 3 0) 90 5 (-1)) 0, ?_, a2, ⟨?_, ?_, ?_, fun j k v hj => by cases hj⟩, ⟨?_, ?_, ?_⟩, ?_⟩
  · unfold mD_reads
    rw [wo, bd_e, g1, bd_e, lt_e, lt_e, lt_e, lt_e, a1, bd_e, nI_0]
    exact r43_g _ FU _ _
  · rw [avH_b _ _ 93 (by decide), v93, if_neg (by decide)]; exact r93.1
  · rw [avH_b _ _ 93 (by decide), v93, if_neg (by decide)]; exact r93.2
  · rw [avH_b _ _ 93 (by decide), v93, if_pos rfl]; rfl
  · rw [avH_b _ _ 91 (by decide), v91, if_neg (by decide)]; exact r91.1
  · rw [avH_b _ _ 91 (by decide), v91, if_neg (by decide)]; exact r91.2
  · rw [avH_b _ _ 91 (by decide), v91, if_pos rfl]; rfl
  · rw [avH_o _ _ 8 (by decide) (by decide) (by decide)]; exact v8
theorem bd2_id (x : Option (Int32 × PH)) : (bd2 x fun r h => some (r, h)) = x := by
  cases x with
  | none => rfl
  | some p => rfl
theorem law_g (n : Nat) (h : PH) : mm_readLaw_L2 (fun (h19 : PH) => bd2 (mm_errs 3 h19) fun r20 h21 => some (r20, h21)) (fun (h22 : PH) => bd2 (mm_errs 1 h22) fun r23 h24 => some (r23, h24)) (fun (x25 : Int32) (h26 : PH) => if (h26 104 14) = 0 then some (x25, h26) else bd2 (mm_errs 1 h26) fun r27 h28 => some (r27, h28)) n 0 h = mm_readLaw_L2 ka3 kp1 kEnd n 0 h := rfl
theorem sky_g (n : Nat) (h : PH) : mm_readSky_L2 (fun (h5 : PH) => bd2 (mm_errs 3 h5) fun r6 h7 => some (r6, h7)) (fun (x8 : Int32) (h9 : PH) => if (h9 104 14) = 0 then some (x8, h9) else bd2 (mm_errs 1 h9) fun r10 h11 => some (r10, h11)) n 0 h = mm_readSky_L2 ka3 kEnd n 0 h := rfl
theorem off_g (n : Nat) (h : PH) : mm_readOffice_L2 (fun (h5 : PH) => bd2 (mm_errs 3 h5) fun r6 h7 => some (r6, h7)) (fun (x8 : Int32) (h9 : PH) => if (h9 104 14) = 0 then some (x8, h9) else bd2 (mm_errs 1 h9) fun r10 h11 => some (r10, h11)) n 0 h = mm_readOffice_L2 ka3 kEnd n 0 h := rfl
theorem nxt_g (n : Nat) (h : PH) : mm_readNexts_L26 (fun (h7 : PH) => bd2 (mm_errs 3 h7) fun r8 h9 => some (r8, h9)) (fun (x10 : Int32) (h11 : PH) => if (h11 104 14) = 0 then some (x10, h11) else bd2 (mm_errs 1 h11) fun r12 h13 => some (r12, h13)) n 0 h = mm_readNexts_L26 ka3 kEnd n 0 h := rfl
theorem nx_zero : ∀ (n k : Nat) (h : PH), 12 < n + k → k ≤ 12 → ∃ g, (∀ k0 : PH → Option (Int32 × PH), mm_readNexts_L2 k0 n (nI k) h = k0 g) ∧ ∀ b, b ≠ 123 → g b = h b := by
  intro n
  induction n with
  | zero => intro k h h1 h2; omega
  | succ n ih =>
    intro k h h1 h2
    by_cases c : k = 12
    · exact ⟨h, fun k0 => by rw [mm_readNexts_L2, if_pos (by rw [c]; decide)], fun _ _ => rfl⟩
    · obtain ⟨g, g1, g2⟩ := ih (k + 1) (up h 123 (12 + k) 0) (by omega) (by omega)
      refine ⟨g, fun k0 => ?_, fun b hb => by rw [g2 b hb, up_cell hb]⟩
      rw [mm_readNexts_L2, if_neg (show ¬ (12 : Int32) ≤ nI k from nI_ge (b := 12) (by omega) (by decide)), show (12 : Int32) + nI k = nI (12 + k) from nI_add 12 k, ck_nI (show 12 + k < 24 by omega) (by decide), lt_e, show ix (nI (12 + k)) = 12 + k from nI_clamp (by omega), nI_1, g1]
theorem tx_read {s : Nat} (hs : s < 4) {B : Nat → Nat} {L H : Nat} {hF hM : PH} (t : TC B L hF) (i : Inv hF) (f2 : hF 90 2 = 0) (f3 : hF 90 3 = -1) (tm : TM B L hM) (m12 : hM 104 12 = 0) (m25 : hM 104 25 = 0) (m26 : hM 104 26 = 0) (h12 : H ≤ 12) (m6 : hM 104 6 = nI H) : TXR (mD_reads (nI s) (nI H) hF) (mm_readsText (nI s) hM) := by
  obtain ⟨N, hc, d1, d2, d3, d4, d5⟩ := d_reads hs t i f2 f3 (nI H)
  have tm1 : TM B L (up hM 104 24 0) := ⟨tm.1, by rw [up_oj (by decide)]; exact tm.2.1, fun j hj => by rw [up_oc (by decide)]; exact tm.2.2.1 j hj, fun j hj => by rw [up_oc (by decide)]; exact tm.2.2.2 j hj⟩
  obtain ⟨hm, e1, e2, e3⟩ := mu_first tm1 (by rw [up_oj (by decide)]; exact m12)
  have q25 : hm 104 25 = 0 := by rw [e2.2 25 (by decide) (by decide) (by decide) (by decide), up_oj (by decide)]; exact m25
  have q26 : hm 104 26 = 0 := by rw [e2.2 26 (by decide) (by decide) (by decide) (by decide), up_oj (by decide)]; exact m26
  have q6 : hm 104 6 = nI H := by rw [e2.2 6 (by decide) (by decide) (by decide) (by decide), up_oj (by decide)]; exact m6
  have jj : JJ s B L N 0 0 [] hc hm := ⟨d2, e3, d3, ⟨q25, fun j k v hj => by cases hj⟩, Nat.le_refl _⟩
  have hh : HH H hc hm := ⟨h12, d5, q6⟩
  rw [d1]
  unfold mm_readsText
  rw [lt_e, e1, bd_e, bd2_id, bd2_id, bd2_id, bd2_id]
  rcases s4 hs with e | e | e | e
  · subst e
    rw [if_neg (by decide), if_neg (by decide), if_neg (by decide)]
    unfold mm_readLaw
    rw [law_g, ← nI_0]
    exact lp_law FU FU 0 0 [] hc hm (by unfold FU; omega) (by unfold FU; omega) (by decide) ⟨jj, d4, q26⟩ rfl (fun q w A W hq => by cases hq) (fun q w A W hq => by cases hq) (fun l hl => by cases hl)
  · subst e
    rw [if_pos (show nI 1 = (1 : Int32) from rfl)]
    unfold mm_readSky
    rw [sky_g, ← nI_0]
    exact lp_sky (H := H) FU FU 0 0 hc hm (by unfold FU; omega) (by unfold FU; omega) (by decide) jj d4 hh
  · subst e
    rw [if_neg (by decide), if_pos (show nI 2 = (2 : Int32) from rfl)]
    unfold mm_readOffice
    rw [off_g, ← nI_0]
    exact lp_office (H := H) FU FU 0 0 hc hm (by unfold FU; omega) (by unfold FU; omega) (by decide) jj d4 hh
  · subst e
    obtain ⟨g, g1, g2⟩ := nx_zero FU 0 hm (by unfold FU; omega) (by decide)
    rw [nI_0] at g1
    rw [if_neg (by decide), if_neg (by decide), if_pos (show nI 3 = (3 : Int32) from rfl)]
    unfold mm_readNexts
    rw [g1, nxt_g, ← nI_0]
    exact lp_next (H := H) FU FU 0 0 hc g (by unfold FU; omega) (by unfold FU; omega) (by decide) ⟨jj.1, mu_of jj.2.1 (g2 111 (by decide)) (g2 112 (by decide)) (fun q _ _ => by rw [g2 104 (by decide)]), jj.2.2.1, mc_of jj.2.2.2.1 (g2 118 (by decide)) (g2 119 (by decide)) (by rw [g2 104 (by decide)]), jj.2.2.2.2⟩ d4 (hh_t hh rfl (by rw [g2 104 (by decide)]))
/-! THE CALLS text and fault -/
def TPR (h : PH) : Prop := ∀ j : Nat, (j : Int) < (h 104 11).toInt → (h 86 j &&& 255) = h 111 j ∧ R 0 255 (h 111 j)
def RTX (h : PH) : Prop := TPR h ∧ h 90 2 = h 104 31 ∧ h 90 3 = h 104 32
theorem kt_91 (p : Int32) (h : PH) {x : Int32} {g : PH} (e : mX_keepText p h = some (x, g)) : x = h 91 3 ∧ g 90 = h 90 := by
  refine ⟨?_, fpX_keepText p h e 90 (show 90 ∉ FPdX_keepText p from (by decide : 90 ∉ FPdX_keepText 0))⟩
  have cp : ∀ (a b : Nat) (q g : PH), mR_copyFrom a b q = some g → 91 ∉ FPdR_copyFrom a b → g 91 = q 91 := fun a b q g e n => fpR_copyFrom a b q e 91 n
  unfold mX_keepText at e
  split at e
  · obtain ⟨h1, q1, e⟩ := bd_s e
    obtain ⟨h2, q2, e⟩ := bd_s e
    cases e
    rw [cp 8 93 h1 _ q2 (by decide), cp 6 91 h _ q1 (by decide)]
  · split at e
    · obtain ⟨h1, q1, e⟩ := bd_s e
      obtain ⟨h2, q2, e⟩ := bd_s e
      cases e
      rw [fpP_forget h1 q2 91 (by decide), cp 10 91 h _ q1 (by decide)]
    · split at e
      · obtain ⟨h1, q1, e⟩ := bd_s e
        obtain ⟨h2, q2, e⟩ := bd_s e
        cases e
        rw [fpP_forget h1 q2 91 (by decide), cp 12 91 h _ q1 (by decide)]
      · obtain ⟨h1, q1, e⟩ := bd_s e
        cases e
        rw [cp 14 91 h _ q1 (by decide)]
theorem ag_text (a1 : Int32) (h : PH) (i : IM h) (rl : RLA h) (rh : RLH h) (rx : RTX h) {rX rm : Int32} {h1 h2 : PH} (e1 : mX_text a1 h = some (rX, h1)) (e2 : mm_text a1 h1 = some (rm, h2)) (cs : CS h h1 h2) : rX = rm ∧ RTX h2 := by
  have x104 := cs.2.2.2.1
  have s104 := cs.2.2.2.2
  have t2 : h2 104 11 = 0 := mtext11 a1 h1 e2
  have tp : TPR h2 := fun j hj => by
    rw [t2] at hj
    simp only [show (0 : Int32).toInt = 0 from rfl] at hj
    omega
  have key : rX = rm ∧ h1 90 2 = h2 104 31 ∧ h1 90 3 = h2 104 32 := by
    unfold mX_text at e1
    unfold mm_text at e2
    rw [show mD_forgetFault h = some (up (up h 90 2 0) 90 3 (-1)) from rfl, bd_e] at e1
    rw [lt_e, lt_e, lt_e, lt_e, lt_e, lt_e] at e2
    have hF : ∀ b, b ≠ 90 → up (up h 90 2 0) 90 3 (-1) b = h b := fun b hb => by rw [up_cell hb, up_cell hb]
    have F2 : up (up h 90 2 0) 90 3 (-1) 90 2 = 0 := by rw [up_oj (by decide), up_same]
    have F3 : up (up h 90 2 0) 90 3 (-1) 90 3 = -1 := up_same
    have iF : Inv (up (up h 90 2 0) 90 3 (-1)) := inv_put (inv_put i.1 (show sp 90 2 = (-2147483648, 2147483647) from rfl) (r_full _)) (show sp 90 3 = (-2147483648, 2147483647) from rfl) (r_full _)
    generalize up (up h 90 2 0) 90 3 (-1) = hf at e1 hF F2 F3 iF
    have hM : ∀ b, b ≠ 104 → up (up (up (up (up (up h1 104 0 0) 104 31 0) 104 32 (-1)) 104 12 0) 104 25 0) 104 26 0 b = h1 b := fun b hb => by rw [up_cell hb, up_cell hb, up_cell hb, up_cell hb, up_cell hb, up_cell hb]
    have M31 : up (up (up (up (up (up h1 104 0 0) 104 31 0) 104 32 (-1)) 104 12 0) 104 25 0) 104 26 0 104 31 = 0 := by rw [up_oj (by decide), up_oj (by decide), up_oj (by decide), up_oj (by decide), up_same]
    have M32 : up (up (up (up (up (up h1 104 0 0) 104 31 0) 104 32 (-1)) 104 12 0) 104 25 0) 104 26 0 104 32 = -1 := by rw [up_oj (by decide), up_oj (by decide), up_oj (by decide), up_same]
    have M12 : up (up (up (up (up (up h1 104 0 0) 104 31 0) 104 32 (-1)) 104 12 0) 104 25 0) 104 26 0 104 12 = 0 := by rw [up_oj (by decide), up_oj (by decide), up_same]
    have M25 : up (up (up (up (up (up h1 104 0 0) 104 31 0) 104 32 (-1)) 104 12 0) 104 25 0) 104 26 0 104 25 = 0 := by rw [up_oj (by decide), up_same]
    have M26 : up (up (up (up (up (up h1 104 0 0) 104 31 0) 104 32 (-1)) 104 12 0) 104 25 0) 104 26 0 104 26 = 0 := up_same
    have M11 : up (up (up (up (up (up h1 104 0 0) 104 31 0) 104 32 (-1)) 104 12 0) 104 25 0) 104 26 0 104 11 = h 104 11 := by rw [up_oj (by decide), up_oj (by decide), up_oj (by decide), up_oj (by decide), up_oj (by decide), up_oj (by decide), x104 104 (by decide)]
    have M6 : up (up (up (up (up (up h1 104 0 0) 104 31 0) 104 32 (-1)) 104 12 0) 104 25 0) 104 26 0 104 6 = h 104 6 := by rw [up_oj (by decide), up_oj (by decide), up_oj (by decide), up_oj (by decide), up_oj (by decide), up_oj (by decide), x104 104 (by decide)]
    generalize up (up (up (up (up (up h1 104 0 0) 104 31 0) 104 32 (-1)) 104 12 0) 104 25 0) 104 26 0 = hm at e2 hM M31 M32 M12 M25 M26 M11 M6
    by_cases f : 0 ≤ a1 ∧ a1 ≤ 3
    · obtain ⟨s, s1, s2, es⟩ := nat_of (rng_of (x := 0) (y := 3) rfl rfl f) (by decide)
      obtain ⟨L, L1, L2, eL⟩ := nat_of (show R 0 400 (h 85 4) from inv_rng i.1 rfl) (by decide)
      obtain ⟨H, H1, H2, eH⟩ := nat_of (show R 0 12 (h 104 6) from inv_rng i.1 rfl) (by decide)
      have e11 : h 104 11 = nI L := by rw [← rl.2.2.2]; exact eL
      have bt : ∀ j, j < L → (h 86 j &&& 255) = nI ((h 111 j).toInt.toNat) ∧ h 111 j = nI ((h 111 j).toInt.toNat) ∧ (h 111 j).toInt.toNat < 256 := fun j hj => by
        obtain ⟨b1, b2⟩ := rx.1 j (by rw [e11, nI_toInt L2]; omega)
        obtain ⟨w, w1, w2, ew⟩ := nat_of b2 (by decide)
        rw [b1, ew, nI_toInt w2, Int.toNat_natCast]
        exact ⟨rfl, rfl, by omega⟩
      have tc : TC (fun j => (h 111 j).toInt.toNat) L hf := ⟨by omega, by rw [hF 85 (by decide)]; exact eL, fun j hj => by rw [hF 86 (by decide)]; exact ⟨(bt j hj).1, (bt j hj).2.2⟩⟩
      have tm : TM (fun j => (h 111 j).toInt.toNat) L hm := ⟨by omega, by rw [M11]; exact e11, fun j hj => by rw [hM 111 (by decide), x104 111 (by decide)]; exact ⟨(bt j hj).2.1, (bt j hj).2.2⟩, fun j hj => by rw [hM 112 (by decide), x104 112 (by decide)]; exact wd_ch i j hj⟩
      have e1H : hf 1 1 = nI H := by rw [hF 1 (by decide), rh.1]; exact eH
      have tx := tx_read (s := s) (H := H) (by omega) tc iF F2 F3 tm M12 M25 M26 (by omega) (by rw [M6]; exact eH)
      rw [within_y f, bd_e, jn2_e, if_neg no10, e1H, es] at e1
      rw [isIn_y f, bd_e, jn2_e, if_neg no10, es] at e2
      rcases tx with ⟨r, gc, gm, r1, r2, r3, r4, r5, r6⟩ | ⟨gc, gm, r2, r3, r4⟩
      · rw [r2, bd2_e, if_neg no10] at e1
        rw [r3, bd2_e, if_neg (nI_nm1 (by omega))] at e2
        change (lt (up gc 85 4 0) fun h6 => if (1 : Int32) = 0 then some (-1, h6) else bd2 (mX_keepText (nI s) h6) fun r7 h8 => some (r7, h8)) = some (rX, h1) at e1
        change (lt (up gm 104 11 0) fun h11 => if (nI r : Int32) = -1 then some (-1, h11) else if (nI s) = 0 then bd (mm_takesLaw (nI r) h11) fun h12 => some (nI r, h12) else bd (mm_takesOther (nI s) (nI r) h11) fun h13 => some (nI r, h13)) = some (rm, h2) at e2
        rw [lt_e, if_neg no10] at e1
        rw [lt_e, if_neg (nI_nm1 (by omega))] at e2
        obtain ⟨y, g, k1, k2⟩ := bd2_s e1
        cases k2
        obtain ⟨z1, z2⟩ := kt_91 _ _ k1
        rw [up_oc (by decide), r4] at z1
        have c90 : h1 90 = gc 90 := by rw [z2, up_cell (by decide)]
        have m31 : gm 104 31 = 0 ∧ gm 104 32 = -1 := by
          have a := fkm_readsText (nI s) hm r3 104 31 (show kk 104 31 ∉ FKdm_readsText _ from (by decide : 1031 ∉ FKdm_readsText 0))
          have b := fkm_readsText (nI s) hm r3 104 32 (show kk 104 32 ∉ FKdm_readsText _ from (by decide : 1032 ∉ FKdm_readsText 0))
          exact ⟨by rw [← M31]; exact a, by rw [← M32]; exact b⟩
        by_cases c0 : nI s = 0
        · rw [if_pos c0] at e2
          obtain ⟨g2, k3, k4⟩ := bd_s e2
          cases k4
          have a := fkm_takesLaw (nI r) _ k3 104 31 (show kk 104 31 ∉ FKdm_takesLaw _ from (by decide : 1031 ∉ FKdm_takesLaw 0))
          have b := fkm_takesLaw (nI r) _ k3 104 32 (show kk 104 32 ∉ FKdm_takesLaw _ from (by decide : 1032 ∉ FKdm_takesLaw 0))
          rw [up_oj (by decide)] at a b
          exact ⟨z1, by rw [c90, a, m31.1]; exact r5, by rw [c90, b, m31.2]; exact r6⟩
        · rw [if_neg c0] at e2
          obtain ⟨g2, k3, k4⟩ := bd_s e2
          cases k4
          have a := fkm_takesOther (nI s) (nI r) _ k3 104 31 (show kk 104 31 ∉ FKdm_takesOther _ _ from (by decide : 1031 ∉ FKdm_takesOther 0 0))
          have b := fkm_takesOther (nI s) (nI r) _ k3 104 32 (show kk 104 32 ∉ FKdm_takesOther _ _ from (by decide : 1032 ∉ FKdm_takesOther 0 0))
          rw [up_oj (by decide)] at a b
          exact ⟨z1, by rw [c90, a, m31.1]; exact r5, by rw [c90, b, m31.2]; exact r6⟩
      · rw [r2, bd2_e, if_pos rfl] at e1
        rw [r3, bd2_e, if_pos rfl] at e2
        change (lt (up gc 85 4 0) fun h6 => if (0 : Int32) = 0 then some (-1, h6) else bd2 (mX_keepText (nI s) h6) fun r7 h8 => some (r7, h8)) = some (rX, h1) at e1
        rw [lt_e, if_pos rfl] at e1
        rw [lt_e, lt_e] at e2
        change (lt (up _ 104 11 0) fun h11 => if (-1 : Int32) = -1 then some (-1, h11) else if (nI s) = 0 then bd (mm_takesLaw (-1) h11) fun h12 => some (-1, h12) else bd (mm_takesOther (nI s) (-1) h11) fun h13 => some (-1, h13)) = some (rm, h2) at e2
        rw [lt_e, if_pos rfl] at e2
        cases e1
        cases e2
        refine ⟨rfl, ?_, ?_⟩
        · rw [up_oc (by decide), up_oj (by decide), up_oj (by decide), up_same]; exact r4.1
        · rw [up_oc (by decide), up_oj (by decide), up_same, up_oj (by decide)]; exact r4.2
    · rw [within_n f, bd_e, jn2_e, if_pos rfl] at e1
      rw [isIn_n f, bd_e, jn2_e, if_pos rfl] at e2
      change (lt (up hf 85 4 0) fun h6 => if (0 : Int32) = 0 then some (-1, h6) else bd2 (mX_keepText a1 h6) fun r7 h8 => some (r7, h8)) = some (rX, h1) at e1
      change (lt (up hm 104 11 0) fun h11 => if (-1 : Int32) = -1 then some (-1, h11) else if a1 = 0 then bd (mm_takesLaw (-1) h11) fun h12 => some (-1, h12) else bd (mm_takesOther a1 (-1) h11) fun h13 => some (-1, h13)) = some (rm, h2) at e2
      rw [lt_e, if_pos rfl] at e1
      rw [lt_e, if_pos rfl] at e2
      cases e1
      cases e2
      refine ⟨rfl, ?_, ?_⟩
      · rw [up_oc (by decide), up_oj (by decide), M31]; exact F2
      · rw [up_oc (by decide), up_oj (by decide), M32]; exact F3
  exact ⟨key.1, tp, by rw [s104 90 (by decide)]; exact key.2.1, by rw [s104 90 (by decide)]; exact key.2.2⟩
theorem ag_fault (a1 : Int32) (h : PH) (rx : RTX h) {rX rm : Int32} {h2 : PH} (e1 : mX_fault a1 h = some rX) (e2 : mm_fault a1 h = some (rm, h2)) : rX = rm := by
  unfold mX_fault at e1
  unfold mm_fault at e2
  rw [lt_e] at e2
  by_cases c0 : a1 = 0
  · rw [if_pos c0] at e1
    rw [if_pos c0, up_oj (by decide)] at e2
    cases e1
    cases e2
    exact rx.2.1
  · rw [if_neg c0] at e1
    rw [if_neg c0] at e2
    by_cases c1 : a1 = 1
    · rw [if_pos c1] at e1
      rw [if_pos c1, up_oj (by decide)] at e2
      cases e1
      cases e2
      exact rx.2.2
    · rw [if_neg c1] at e1
      rw [if_neg c1] at e2
      cases e1
      cases e2
      rfl
