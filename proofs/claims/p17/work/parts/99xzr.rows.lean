section
/-! WHAT A TEXT LEFT: its rows, on both sides -/
def SR (r : Nat) (gc gm : PH) : Prop := ∀ q, q < r → ∃ a w n, a ≤ 999 ∧ 1 ≤ w ∧ w ≤ 3 ∧ n ≤ 9 ∧ gc 92 (5 * q) = nI a ∧ gc 92 (5 * q + 1) = nI w ∧ gc 92 (5 * q + 2) = nI n ∧ gm 121 (48 + 3 * q) = nI a ∧ gm 121 (48 + 3 * q + 1) = nI (w - 1) ∧ gm 121 (48 + 3 * q + 2) = nI n
theorem sr_s {r : Nat} {hc hm gc gm : PH} (s : SR r hc hm) (q : SKQ r hm gc gm) (f : FL r hc gc) : SR (r + 1) gc gm := fun k hk => by
  by_cases z : k = r
  · subst z
    exact q.1
  · obtain ⟨a, w, n, a1, a2, a3, a4, b1, b2, b3, b4, b5, b6⟩ := s k (by omega)
    exact ⟨a, w, n, a1, a2, a3, a4, by rw [f.2.2 _ (by omega)]; exact b1, by rw [f.2.2 _ (by omega)]; exact b2, by rw [f.2.2 _ (by omega)]; exact b3, by rw [q.2 _ (by omega)]; exact b4, by rw [q.2 _ (by omega)]; exact b5, by rw [q.2 _ (by omega)]; exact b6⟩
def ORr (H r : Nat) (gc gm : PH) : Prop := ∀ k, k < r → ∃ q w h l n, q ≤ 999 ∧ 1 ≤ w ∧ w ≤ 4 ∧ h < H ∧ l ≤ 3 ∧ n ≤ 99 ∧ (gc 92 (5 * k) = nI q ∧ gc 92 (5 * k + 1) = nI w ∧ gc 92 (5 * k + 2) = nI h ∧ gc 92 (5 * k + 3) = nI l ∧ gc 92 (5 * k + 4) = nI n) ∧ gm 122 (80 + 5 * k) = nI q ∧ gm 122 (80 + 5 * k + 1) = nI (w - 1) ∧ gm 122 (80 + 5 * k + 2) = nI h ∧ gm 122 (80 + 5 * k + 3) = nI l ∧ gm 122 (80 + 5 * k + 4) = nI n
theorem or_s {H r : Nat} {hc hm gc gm : PH} (s : ORr H r hc hm) (q : OFQ H r hm gc gm) (f : FL r hc gc) : ORr H (r + 1) gc gm := fun k hk => by
  by_cases z : k = r
  · subst z
    exact q.1
  · obtain ⟨a, w, h, l, n, a1, a2, a3, a4, a5, a6, ⟨b1, b2, b3, b4, b5⟩, c1, c2, c3, c4, c5⟩ := s k (by omega)
    exact ⟨a, w, h, l, n, a1, a2, a3, a4, a5, a6, ⟨by rw [f.2.2 _ (by omega)]; exact b1, by rw [f.2.2 _ (by omega)]; exact b2, by rw [f.2.2 _ (by omega)]; exact b3, by rw [f.2.2 _ (by omega)]; exact b4, by rw [f.2.2 _ (by omega)]; exact b5⟩, by rw [q.2 _ (by omega)]; exact c1, by rw [q.2 _ (by omega)]; exact c2, by rw [q.2 _ (by omega)]; exact c3, by rw [q.2 _ (by omega)]; exact c4, by rw [q.2 _ (by omega)]; exact c5⟩
/-- who is next to house k, by r rows -/
def nxS (x y : Int32) (k : Nat) (v : Int32) : Int32 := if y = nI k then (if x = nI k then v ||| (1 <<< (y &&& 31)) else v) ||| (1 <<< (x &&& 31)) else (if x = nI k then v ||| (1 <<< (y &&& 31)) else v)
def nxF (X : Nat → Int32) (k : Nat) : Nat → Int32
  | 0 => 0
  | r + 1 => nxS (X (5 * r)) (X (5 * r + 1)) k (nxF X k r)
theorem nxF_x {X Y : Nat → Int32} {k : Nat} : ∀ r, (∀ j, j < 5 * r → Y j = X j) → nxF Y k r = nxF X k r := by
  intro r
  induction r with
  | zero => intro _; rfl
  | succ r ih => intro e; rw [nxF, nxF, ih (fun j hj => e j (by omega)), e _ (by omega), e _ (by omega)]
def NR (r : Nat) (gc gm : PH) : Prop := (∀ k, k < 12 → gm 123 (12 + k) = nxF (gc 92) k r) ∧ ∀ q, q < r → ∃ a b, a < 12 ∧ b < 12 ∧ gc 92 (5 * q) = nI a ∧ gc 92 (5 * q + 1) = nI b
theorem nr_s {r : Nat} {hc hm gc gm : PH} (s : NR r hc hm) (q : NXQ r hm gc gm) (f : FL r hc gc) : NR (r + 1) gc gm := by
  obtain ⟨a, b, a1, b1, e1, e2, e3⟩ := q
  refine ⟨fun k hk => ?_, fun q hq => ?_⟩
  rotate_left
  · by_cases z : q = r
    · subst z
      exact ⟨a, b, by omega, by omega, e1, e2⟩
    · obtain ⟨x, y, x1, y1, ex, ey⟩ := s.2 q (by omega)
      exact ⟨x, y, x1, y1, by rw [f.2.2 _ (by omega)]; exact ex, by rw [f.2.2 _ (by omega)]; exact ey⟩
  rw [nxF, nxF_x r (fun j hj => f.2.2 j hj), ← s.1 k hk, e1, e2, e3]
  unfold nxS
  have eb : (nI b = nI k) = (b = k) := propext ⟨fun z => (nI_eq (by omega) (by omega)).mp z, fun z => by rw [z]⟩
  have ea : (nI a = nI k) = (a = k) := propext ⟨fun z => (nI_eq (by omega) (by omega)).mp z, fun z => by rw [z]⟩
  by_cases zb : b = k
  · rw [if_pos (by rw [zb])]
    subst zb
    rw [up_same]
    by_cases za : a = b
    · rw [if_pos (by rw [za])]
      subst za
      rw [up_same]
    · rw [if_neg (fun y => za ((nI_eq (by omega) (by omega)).mp y)), up_oj (by omega)]
  · rw [if_neg (fun y => zb ((nI_eq (by omega) (by omega)).mp y)), up_oj (by omega)]
    by_cases za : a = k
    · rw [if_pos (by rw [za])]
      subst za
      rw [up_same]
    · rw [if_neg (fun y => za ((nI_eq (by omega) (by omega)).mp y)), up_oj (by omega)]
def LR (r : Nat) (gc gm : PH) : Prop := ∃ Ls : LNS, Ls.length = r ∧ LCl Ls gc ∧ LMl Ls gm ∧ LQ Ls ∧ CC (cdo Ls) gc ∧ MC (xp (cdo Ls)) gm ∧ (xp (cdo Ls)).length ≤ 400
def TQS (s H r : Nat) (gc gm : PH) : Prop := (s = 0 → LR r gc gm) ∧ (s = 1 → SR r gc gm) ∧ (s = 2 → ORr H r gc gm) ∧ (s = 3 → NR r gc gm)
def TXQ (Q : Nat → PH → PH → Prop) (rc rm : Option (Int32 × PH)) : Prop := (∃ r gc gm, r ≤ 16 ∧ rc = some (1, gc) ∧ rm = some (nI r, gm) ∧ CR r gc ∧ Q r gc gm) ∨ ∃ gc gm, rc = some (0, gc) ∧ rm = some (-1, gm)
theorem txq_err {Q : Nat → PH → PH → Prop} {s : Nat} {B : Nat → Nat} {L N i w : Nat} {C : List (Nat × Nat)} {hc hm : PH} (j : JJ s B L N i w C hc hm) (p : Int32) : TXQ Q (refC p hc) (bd2 (mm_errs p hm) fun r h => some (r, h)) := by
  obtain ⟨gc, gm, r1, r2, r3, r4, r5⟩ := j_ref j p
  unfold refC
  rw [r1, bd2_e, r2, bd2_e]
  exact Or.inr ⟨gc, gm, rfl, rfl⟩
theorem lq_sky {B : Nat → Nat} {L N H : Nat} : ∀ (n nM r i : Nat) (hc hm : PH), 17 < n + r → 17 < nM + r → r ≤ 16 → JJ 1 B L N i 0 [] hc hm → CR r hc → HH H hc hm → SR r hc hm → TXQ SR (mD_reads_L43 (nI 1) (refC 1) (refC 3) n (nI r) hc) (mm_readSky_L2 ka3 kEnd nM (nI r) hm) := by
  intro n
  induction n with
  | zero => intro nM r i hc hm h1 h2 h3; omega
  | succ n ih =>
    intro nM r i hc hm h1 h2 h3 j cr hh sr
    cases nM with
    | zero => omega
    | succ nM =>
    rw [mm_readSky_L2]
    by_cases x : (tt B L i).1 = 2 ∧ (tt B L i).2 = 19
    · obtain ⟨c1, c2⟩ := c_line (s := 1) (by decide) (by decide) j.1 x
      rw [r43_go (s := 1) (w := 0) (by decide) h3 c1 c2 (Nat.zero_le _), show mm_isWord 19 hm = some 1 from m_w1 (x := 19) j.2.1 x (by decide), bd_e, if_neg no10]
      by_cases c16 : r = 16
      · rw [if_pos c16, if_pos (show nI r = (16 : Int32) by rw [c16]; rfl)]
        exact txq_err j 3
      · rw [if_neg c16, if_neg (show ¬ nI r = (16 : Int32) from fun z => c16 ((nI_eq (b := 16) (by omega) (by decide)).mp z)), show (48 : Int32) + 3 * nI r = nI (48 + 3 * r) by rw [show (3 : Int32) * nI r = nI (3 * r) from nI_mul 3 r]; exact nI_add 48 _, show lfn 1 hc = _ from rfl]
        rcases sk_sim j cr (by omega) x with ⟨i2, gc, gm, a1, a2, a3, a4, a5, a6, a7⟩ | ⟨gc, gm, a1, a2, a3⟩
        · have hm6 : gm 104 6 = hm 104 6 := fkm_readSkyLine _ hm a3 104 6 (show kk 104 6 ∉ FKdm_readSkyLine _ from (by decide : 1006 ∉ FKdm_readSkyLine 0))
          rw [show lfn 1 hc = some (1, gc) from a2, bd2_e, if_neg no10, a3, bd2_e, if_neg (show ¬ (0 : Int32) = -1 by decide), lt_e, nI_1]
          exact ih nM (r + 1) i2 gc gm (by omega) (by omega) (by omega) a4 a5 (hh_t hh a7.2.1 hm6) (sr_s sr a6 a7)
        · rw [show lfn 1 hc = some (0, gc) from a1, bd2_e, if_pos rfl, a2, bd2_e, if_pos rfl]
          exact Or.inr ⟨gc, gm, rfl, rfl⟩
    · rw [show mm_isWord 19 hm = some 0 from m_w0 (x := 19) j.2.1 x (by decide), bd_e, if_pos rfl]
      unfold kEnd
      by_cases c0 : (tt B L i).1 = 0
      · rw [r43_0 h3 ((c_k0 j.1).mpr c0), if_pos ((m_k0 j.2.1).mpr c0)]
        exact Or.inl ⟨r, hc, hm, h3, rfl, rfl, cr, sr⟩
      · rw [r43_bad (s := 1) (by decide) h3 (fun z => c0 ((c_k0 j.1).mp z)) (c_noline (by decide) (by decide) j.1 x), if_neg (fun z => c0 ((m_k0 j.2.1).mp z))]
        exact txq_err j 1
theorem lq_office {B : Nat → Nat} {L N H : Nat} : ∀ (n nM r i : Nat) (hc hm : PH), 17 < n + r → 17 < nM + r → r ≤ 16 → JJ 2 B L N i 0 [] hc hm → CR r hc → HH H hc hm → ORr H r hc hm → TXQ (ORr H) (mD_reads_L43 (nI 2) (refC 1) (refC 3) n (nI r) hc) (mm_readOffice_L2 ka3 kEnd nM (nI r) hm) := by
  intro n
  induction n with
  | zero => intro nM r i hc hm h1 h2 h3; omega
  | succ n ih =>
    intro nM r i hc hm h1 h2 h3 j cr hh sr
    cases nM with
    | zero => omega
    | succ nM =>
    rw [mm_readOffice_L2]
    by_cases x : (tt B L i).1 = 2 ∧ (tt B L i).2 = 19
    · obtain ⟨c1, c2⟩ := c_line (s := 2) (by decide) (by decide) j.1 x
      rw [r43_go (s := 2) (w := 0) (by decide) h3 c1 c2 (Nat.zero_le _), show mm_isWord 19 hm = some 1 from m_w1 (x := 19) j.2.1 x (by decide), bd_e, if_neg no10]
      by_cases c16 : r = 16
      · rw [if_pos c16, if_pos (show nI r = (16 : Int32) by rw [c16]; rfl)]
        exact txq_err j 3
      · rw [if_neg c16, if_neg (show ¬ nI r = (16 : Int32) from fun z => c16 ((nI_eq (b := 16) (by omega) (by decide)).mp z)), show (80 : Int32) + 5 * nI r = nI (80 + 5 * r) by rw [show (5 : Int32) * nI r = nI (5 * r) from nI_mul 5 r]; exact nI_add 80 _, show lfn 2 hc = _ from rfl]
        rcases of_sim j cr (by omega) hh x with ⟨i2, gc, gm, a1, a2, a3, a4, a5, a6, a7⟩ | ⟨gc, gm, a1, a2, a3⟩
        · have hm6 : gm 104 6 = hm 104 6 := fkm_readDeed _ hm a3 104 6 (show kk 104 6 ∉ FKdm_readDeed _ from (by decide : 1006 ∉ FKdm_readDeed 0))
          rw [show lfn 2 hc = some (1, gc) from a2, bd2_e, if_neg no10, a3, bd2_e, if_neg (show ¬ (0 : Int32) = -1 by decide), lt_e, nI_1]
          exact ih nM (r + 1) i2 gc gm (by omega) (by omega) (by omega) a4 a5 (hh_t hh a7.2.1 hm6) (or_s sr a6 a7)
        · rw [show lfn 2 hc = some (0, gc) from a1, bd2_e, if_pos rfl, a2, bd2_e, if_pos rfl]
          exact Or.inr ⟨gc, gm, rfl, rfl⟩
    · rw [show mm_isWord 19 hm = some 0 from m_w0 (x := 19) j.2.1 x (by decide), bd_e, if_pos rfl]
      unfold kEnd
      by_cases c0 : (tt B L i).1 = 0
      · rw [r43_0 h3 ((c_k0 j.1).mpr c0), if_pos ((m_k0 j.2.1).mpr c0)]
        exact Or.inl ⟨r, hc, hm, h3, rfl, rfl, cr, sr⟩
      · rw [r43_bad (s := 2) (by decide) h3 (fun z => c0 ((c_k0 j.1).mp z)) (c_noline (by decide) (by decide) j.1 x), if_neg (fun z => c0 ((m_k0 j.2.1).mp z))]
        exact txq_err j 1
theorem lq_next {B : Nat → Nat} {L N H : Nat} : ∀ (n nM r i : Nat) (hc hm : PH), 17 < n + r → 17 < nM + r → r ≤ 16 → JJ 3 B L N i 0 [] hc hm → CR r hc → HH H hc hm → NR r hc hm → TXQ NR (mD_reads_L43 (nI 3) (refC 1) (refC 3) n (nI r) hc) (mm_readNexts_L26 ka3 kEnd nM (nI r) hm) := by
  intro n
  induction n with
  | zero => intro nM r i hc hm h1 h2 h3; omega
  | succ n ih =>
    intro nM r i hc hm h1 h2 h3 j cr hh sr
    cases nM with
    | zero => omega
    | succ nM =>
    rw [mm_readNexts_L26]
    by_cases x : (tt B L i).1 = 2 ∧ (tt B L i).2 = 25
    · obtain ⟨c1, c2⟩ := c_line (s := 3) (by decide) (by decide) j.1 x
      rw [r43_go (s := 3) (w := 0) (by decide) h3 c1 c2 (Nat.zero_le _), show mm_isWord 25 hm = some 1 from m_w1 (x := 25) j.2.1 x (by decide), bd_e, if_neg no10]
      by_cases c16 : r = 16
      · rw [if_pos c16, if_pos (show nI r = (16 : Int32) by rw [c16]; rfl)]
        exact txq_err j 3
      · rw [if_neg c16, if_neg (show ¬ nI r = (16 : Int32) from fun z => c16 ((nI_eq (b := 16) (by omega) (by decide)).mp z)), show lfn 3 hc = _ from rfl]
        rcases nx_sim j cr (by omega) hh x with ⟨i2, gc, gm, a1, a2, a3, a4, a5, a6, a7⟩ | ⟨gc, gm, a1, a2, a3⟩
        · have hm6 : gm 104 6 = hm 104 6 := fkm_readNext hm a3 104 6 (show kk 104 6 ∉ FKdm_readNext from (by decide : 1006 ∉ FKdm_readNext))
          rw [show lfn 3 hc = some (1, gc) from a2, bd2_e, if_neg no10, a3, bd2_e, if_neg (show ¬ (0 : Int32) = -1 by decide), lt_e, nI_1]
          exact ih nM (r + 1) i2 gc gm (by omega) (by omega) (by omega) a4 a5 (hh_t hh a7.2.1 hm6) (nr_s sr a6 a7)
        · rw [show lfn 3 hc = some (0, gc) from a1, bd2_e, if_pos rfl, a2, bd2_e, if_pos rfl]
          exact Or.inr ⟨gc, gm, rfl, rfl⟩
    · rw [show mm_isWord 25 hm = some 0 from m_w0 (x := 25) j.2.1 x (by decide), bd_e, if_pos rfl]
      unfold kEnd
      by_cases c0 : (tt B L i).1 = 0
      · rw [r43_0 h3 ((c_k0 j.1).mpr c0), if_pos ((m_k0 j.2.1).mpr c0)]
        exact Or.inl ⟨r, hc, hm, h3, rfl, rfl, cr, sr⟩
      · rw [r43_bad (s := 3) (by decide) h3 (fun z => c0 ((c_k0 j.1).mp z)) (c_noline (by decide) (by decide) j.1 x), if_neg (fun z => c0 ((m_k0 j.2.1).mp z))]
        exact txq_err j 1
theorem lq_law {B : Nat → Nat} {L N : Nat} : ∀ (n nM r i : Nat) (Ls : List (Nat × List (Nat × Nat) × List (Nat × Nat))) (hc hm : PH), 17 < n + r → 17 < nM + r → r ≤ 16 → JL 0 B L N i (cdo Ls) r hc hm → Ls.length = r → LCl Ls hc → LMl Ls hm → LQ Ls → TXQ LR (mD_reads_L43 (nI 0) (refC 1) (refC 3) n (nI r) hc) (mm_readLaw_L2 ka3 kp1 kEnd nM (nI r) hm) := by
  intro n
  induction n with
  | zero => intro nM r i Ls hc hm h1 h2 h3; omega
  | succ n ih =>
    intro nM r i Ls hc hm h1 h2 h3 j hl lc lm lq
    cases nM with
    | zero => omega
    | succ nM =>
    by_cases x : ∃ w, w < 3 ∧ (tt B L i).1 = 2 ∧ (tt B L i).2 = w
    · obtain ⟨w, hw, x1, x2⟩ := x
      obtain ⟨c1, c2⟩ := c_lw j.1.1 ⟨x1, x2⟩ (by omega)
      rw [r43_go (s := 0) (w := w) (by decide) h3 c1 c2 (by show w ≤ 2; omega)]
      by_cases c16 : r = 16
      · obtain ⟨mw1, mw2⟩ := m_lw j.1.2.1 ⟨x1, x2⟩
        have ilw : mm_isLineWord hm = some 1 := by
          unfold mm_isLineWord
          rw [mw1, if_pos rfl, mw2, isIn_y (show (0 : Int32) ≤ nI w ∧ nI w ≤ (2 : Int32) from ⟨nI_le (a := 0) (by omega) (by omega), nI_le (b := 2) (by omega) (by decide)⟩), bd_e, if_neg no10]
        rw [if_pos c16, mm_readLaw_L2, ilw, bd_e, if_neg no10, if_pos (show nI r = (16 : Int32) by rw [c16]; rfl)]
        exact txq_err j.1 3
      · rw [if_neg c16, show lfn 0 hc = mD_lawLine hc from rfl]
        rcases ll_sim ka3 kEnd nM j hl lc lm lq (by omega) ⟨x1, x2⟩ hw with ⟨i2, Ls2, gc, gm, a1, a2, a3, a4, a5, a6, a7, a8, a9, a10⟩ | ⟨gc, gm, a1, a2, a3, a4, a5⟩
        · rw [a2, bd2_e, if_neg no10, a3]
          exact ih nM (r + 1) i2 Ls2 gc gm (by omega) (by omega) (by omega) a4 a5 a6 a7 a8
        · rw [a1, bd2_e, if_pos rfl, a2]
          exact Or.inr ⟨gc, gm, rfl, rfl⟩
    · have ilw : mm_isLineWord hm = some 0 := by
        unfold mm_isLineWord
        have k : TkM (tt B L i) (hm 104 14) (hm 104 15) := j.1.2.1.2.2.2
        rcases k with ⟨_, e⟩ | ⟨_, e⟩ | ⟨a, a2, e, e2⟩ | ⟨_, _, e, _⟩ | ⟨_, _, e, _⟩
        · rw [e, if_neg (by decide)]
        · rw [e, if_neg (by decide)]
        · rw [if_pos e, e2, isIn_n (fun z => ?_), bd_e, if_pos rfl]
          have z2 : (tt B L i).2 ≤ 2 := (nI_leI (b := 2) (by omega) (by decide)).mp z.2
          exact x ⟨_, by omega, a, rfl⟩
        · rw [e, if_neg (by decide)]
        · rw [e, if_neg (by decide)]
      rw [mm_readLaw_L2, ilw, bd_e, if_pos rfl]
      unfold kEnd
      by_cases c0 : (tt B L i).1 = 0
      · rw [r43_0 h3 ((c_k0 j.1.1).mpr c0), if_pos ((m_k0 j.1.2.1).mpr c0)]
        exact Or.inl ⟨r, hc, hm, h3, rfl, rfl, j.2.1, Ls, hl, lc, lm, lq, j.1.2.2.1, j.1.2.2.2.1, by have q1 := j.1.2.2.2.2; have q2 := j.1.1.2.1; have q3 := j.1.1.1.2.1; omega⟩
      · rw [r43_bad (s := 0) (by decide) h3 (fun z => c0 ((c_k0 j.1.1).mp z)) (fun e => ?_), if_neg (fun z => c0 ((m_k0 j.1.2.1).mp z))]
        · exact txq_err j.1 1
        · have t2 : (tt B L i).1 = 2 := by
            apply Classical.byContradiction
            intro z
            exact c_nw j.1.1 z e
          rcases c_wv j.1.1 t2 with ⟨w, y1, y2, y3, y4⟩ | ⟨y1, _⟩
          · rw [wv0l] at y1
            rw [wv0 w y1] at y2
            refine ⟨w, by omega, y4, ?_⟩
            rw [if_pos rfl]
            apply Classical.byContradiction
            intro z
            exact x ⟨w, by omega, t2, y2.symm⟩
          · rw [y1] at e; exact absurd e (by decide)
theorem nx_zero2 : ∀ (n k : Nat) (h : PH), 12 < n + k → k ≤ 12 → (∀ j, j < k → h 123 (12 + j) = 0) → ∃ g, (∀ k0 : PH → Option (Int32 × PH), mm_readNexts_L2 k0 n (nI k) h = k0 g) ∧ (∀ b, b ≠ 123 → g b = h b) ∧ ∀ j, j < 12 → g 123 (12 + j) = 0 := by
  intro n
  induction n with
  | zero => intro k h h1 h2; omega
  | succ n ih =>
    intro k h h1 h2 h3
    by_cases c : k = 12
    · exact ⟨h, fun k0 => by rw [mm_readNexts_L2, if_pos (by rw [c]; decide)], fun _ _ => rfl, fun j hj => h3 j (by omega)⟩
    · obtain ⟨g, g1, g2, g3⟩ := ih (k + 1) (up h 123 (12 + k) 0) (by omega) (by omega) (fun j hj => by
        by_cases z : j = k
        · rw [z, up_same]
        · rw [up_oj (by omega)]; exact h3 j (by omega))
      refine ⟨g, fun k0 => ?_, fun b hb => by rw [g2 b hb, up_cell hb], g3⟩
      rw [mm_readNexts_L2, if_neg (show ¬ (12 : Int32) ≤ nI k from nI_ge (b := 12) (by omega) (by decide)), show (12 : Int32) + nI k = nI (12 + k) from nI_add 12 k, ck_nI (show 12 + k < 24 by omega) (by decide), lt_e, show ix (nI (12 + k)) = 12 + k from nI_clamp (by omega), nI_1, g1]
theorem txq_w {Q Q' : Nat → PH → PH → Prop} {rc rm : Option (Int32 × PH)} (w : ∀ r gc gm, Q r gc gm → Q' r gc gm) (t : TXQ Q rc rm) : TXQ Q' rc rm := by
  rcases t with ⟨r, gc, gm, a1, a2, a3, a4, a5⟩ | t
  · exact Or.inl ⟨r, gc, gm, a1, a2, a3, a4, w r gc gm a5⟩
  · exact Or.inr t
theorem tx_rows {s : Nat} (hs : s < 4) {B : Nat → Nat} {L H : Nat} {hF hM : PH} (t : TC B L hF) (i : Inv hF) (f2 : hF 90 2 = 0) (f3 : hF 90 3 = -1) (tm : TM B L hM) (m12 : hM 104 12 = 0) (m25 : hM 104 25 = 0) (m26 : hM 104 26 = 0) (h12 : H ≤ 12) (m6 : hM 104 6 = nI H) : TXQ (TQS s H) (mD_reads (nI s) (nI H) hF) (mm_readsText (nI s) hM) := by
  obtain ⟨N, hc, d1, d2, d3, d4, d5⟩ := d_reads hs t i f2 f3 (nI H)
  have tm1 : TM B L (up hM 104 24 0) := ⟨tm.1, by rw [up_oj (by decide)]; exact tm.2.1, fun j hj => by rw [up_oc (by decide)]; exact tm.2.2.1 j hj, fun j hj => by rw [up_oc (by decide)]; exact tm.2.2.2 j hj⟩
  obtain ⟨hm, e1, e2, e3⟩ := mu_first tm1 (by rw [up_oj (by decide)]; exact m12)
  have q25 : hm 104 25 = 0 := by rw [e2.2 25 (by decide) (by decide) (by decide) (by decide), up_oj (by decide)]; exact m25
  have q26 : hm 104 26 = 0 := by rw [e2.2 26 (by decide) (by decide) (by decide) (by decide), up_oj (by decide)]; exact m26
  have q6 : hm 104 6 = nI H := by rw [e2.2 6 (by decide) (by decide) (by decide) (by decide), up_oj (by decide)]; exact m6
  have jj : JJ s B L N 0 0 [] hc hm := ⟨d2, e3, d3, ⟨q25, fun j k v hj => by cases hj⟩, Nat.le_refl _⟩
  have hh : HH H hc hm := ⟨h12, d5, q6⟩
  rw [d1]
  unfold mm_readsText
  rw [lt_e, e1, bd_e, bd2_id, bd2_id, bd2_id, bd2_id]
  rcases s4 hs with e | e | e | e
  · subst e
    rw [if_neg (by decide), if_neg (by decide), if_neg (by decide)]
    unfold mm_readLaw
    rw [law_g, ← nI_0]
    refine txq_w (fun r gc gm q => ⟨fun _ => q, fun z => by omega, fun z => by omega, fun z => by omega⟩) (lq_law FU FU 0 0 [] hc hm (by unfold FU; omega) (by unfold FU; omega) (by decide) ⟨jj, d4, q26⟩ rfl (fun q w A W hq => by cases hq) (fun q w A W hq => by cases hq) (fun l hl => by cases hl))
  · subst e
    rw [if_pos (show nI 1 = (1 : Int32) from rfl)]
    unfold mm_readSky
    rw [sky_g, ← nI_0]
    refine txq_w (fun r gc gm q => ⟨fun z => by omega, fun _ => q, fun z => by omega, fun z => by omega⟩) (lq_sky (H := H) FU FU 0 0 hc hm (by unfold FU; omega) (by unfold FU; omega) (by decide) jj d4 hh (fun q hq => absurd hq (Nat.not_lt_zero q)))
  · subst e
    rw [if_neg (by decide), if_pos (show nI 2 = (2 : Int32) from rfl)]
    unfold mm_readOffice
    rw [off_g, ← nI_0]
    refine txq_w (fun r gc gm q => ⟨fun z => by omega, fun z => by omega, fun _ => q, fun z => by omega⟩) (lq_office (H := H) FU FU 0 0 hc hm (by unfold FU; omega) (by unfold FU; omega) (by decide) jj d4 hh (fun q hq => absurd hq (Nat.not_lt_zero q)))
  · subst e
    obtain ⟨g, g1, g2, g3⟩ := nx_zero2 FU 0 hm (by unfold FU; omega) (by decide) (fun j hj => absurd hj (Nat.not_lt_zero j))
    rw [nI_0] at g1
    rw [if_neg (by decide), if_neg (by decide), if_pos (show nI 3 = (3 : Int32) from rfl)]
    unfold mm_readNexts
    rw [g1, nxt_g, ← nI_0]
    refine txq_w (fun r gc gm q => ⟨fun z => by omega, fun z => by omega, fun z => by omega, fun _ => q⟩) (lq_next (H := H) FU FU 0 0 hc g (by unfold FU; omega) (by unfold FU; omega) (by decide) ⟨jj.1, mu_of jj.2.1 (g2 111 (by decide)) (g2 112 (by decide)) (fun q _ _ => by rw [g2 104 (by decide)]), jj.2.2.1, mc_of jj.2.2.2.1 (g2 118 (by decide)) (g2 119 (by decide)) (by rw [g2 104 (by decide)]), jj.2.2.2.2⟩ d4 (hh_t hh rfl (by rw [g2 104 (by decide)])) ⟨fun k hk => g3 k hk, fun q hq => absurd hq (Nat.not_lt_zero q)⟩)
end
section
/-! A TEXT IS KEPT: both sides -/
theorem cp_d (a0 a1 r w : Nat) (n1 : a1 ≠ a0 + 1) (hl : r * w ≤ ln (a0 + 1)) (hl' : r * w ≤ ln (a1 + 1)) (big : ln (a0 + 1) < 100000) {h : PH} (hr : r < 100000) (e3 : h a1 3 = nI r) (e1 : h a1 1 = nI w) (e0 : h a0 1 = nI w) : ∃ g, mR_copyFrom a0 a1 h = some g ∧ CP a0 a1 w h g := by
  have ixx : ix (nI (r * w)) = r * w := nI_clamp (by omega)
  have hcc : ∀ {ρ : Type} (k : Option ρ), cc (ln (a1 + 1)) (ln (a0 + 1)) 0 0 (nI (r * w)) k = k := by
    intro ρ k
    unfold cc
    refine if_neg ?_
    have h00 : ix (0 : Int32) = 0 := rfl
    rintro (q | q | q | q | q)
    · exact absurd q (by decide)
    · exact absurd q (by decide)
    · exact absurd q (nI_pos (by omega))
    · rw [h00, ixx] at q; omega
    · rw [h00, ixx] at q; omega
  have n2 : ¬ Int32.ofNat (ln (a0 + 1)) < nI (r * w) := Int32.not_lt.mpr (nI_le hl (by omega))
  have cl : (nI r).toNatClampNeg = r := clm (by omega)
  unfold mR_copyFrom
  rw [lt_e, e3, e1, e0, nI_mul, if_pos rfl, if_neg n2, hcc, lt_e, lt_e, ixx, show ix (0 : Int32) = 0 from rfl]
  refine ⟨_, rfl, fun b hb hb1 => ?_, ?_, fun j hj => ?_, fun j hj => ?_⟩
  · funext j
    rw [up_oc hb, cpy_at, if_neg hb1]
  · rw [up_same, cpy_at, if_neg n1]
  · rw [up_oj hj, cpy_at, if_neg (by omega)]
  · rw [e3, cl] at hj
    rw [up_oc (by omega), cpy_at, if_pos rfl, if_pos hj]
/-- the model takes a law -/
theorem tl_2 {r : Nat} (hr : r ≤ 16) : ∀ (n x : Nat) (hm : PH), 16 < n + x → x ≤ r → hm 104 24 = 0 → ∃ g, (∀ k0, mm_takesLaw_L2 (nI r) k0 n (nI x) hm = k0 g) ∧ (∀ b, b < 114 ∨ 117 < b → g b = hm b) ∧ (∀ b j, 114 ≤ b → b ≤ 117 → x ≤ j → j < r → g b j = hm b (32 + j)) ∧ ∀ b j, 114 ≤ b → b ≤ 117 → (j < x ∨ r ≤ j) → g b j = hm b j := by
  intro n
  induction n with
  | zero => intro x hm h1 h2; omega
  | succ n ih =>
    intro x hm h1 h2 e24
    by_cases c : x = r
    · subst c
      exact ⟨hm, fun k0 => by rw [mm_takesLaw_L2, if_pos (nI_le (Nat.le_refl _) (by omega))], fun _ _ => rfl, fun b j _ _ j1 j2 => by omega, fun _ _ _ _ _ => rfl⟩
    · have hx : x < r := by omega
      have kK : ∀ b j, 114 ≤ b → b ≤ 117 → up (up (up (up hm 114 x (hm 114 (32 + x))) 115 x (hm 115 (32 + x))) 116 x (hm 116 (32 + x))) 117 x (hm 117 (32 + x)) b j = if j = x then hm b (32 + x) else hm b j := fun b j b1 b2 => by
        have hb : b = 114 ∨ b = 115 ∨ b = 116 ∨ b = 117 := by omega
        rcases hb with e | e | e | e <;> subst e <;> simp [up_at]
      have kO : ∀ b, b < 114 ∨ 117 < b → up (up (up (up hm 114 x (hm 114 (32 + x))) 115 x (hm 115 (32 + x))) 116 x (hm 116 (32 + x))) 117 x (hm 117 (32 + x)) b = hm b := fun b hb => by rw [up_cell (by omega), up_cell (by omega), up_cell (by omega), up_cell (by omega)]
      obtain ⟨g, a1, a2, a3, a4⟩ := ih (x + 1) _ (by omega) (by omega) (show up (up (up (up hm 114 x (hm 114 (32 + x))) 115 x (hm 115 (32 + x))) 116 x (hm 116 (32 + x))) 117 x (hm 117 (32 + x)) 104 24 = 0 by rw [kO 104 (by omega)]; exact e24)
      refine ⟨g, fun k0 => ?_, fun b hb => by rw [a2 b hb, kO b hb], fun b j b1 b2 j1 j2 => ?_, fun b j b1 b2 j1 => ?_⟩
      · have t32 : (32 : Int32) + nI x = nI (32 + x) := nI_add 32 x
        have t0 : (16 : Int32) * 0 + nI x = nI x := by rw [show (16 : Int32) * 0 = 0 from rfl, Int32.zero_add]
        have c32 : ∀ (z : Option PH), ck (nI (32 + x)) 48 z = z := fun z => ck_nI (by omega) (by decide)
        have c0 : ∀ (z : Option PH), ck (nI x) 48 z = z := fun z => ck_nI (by omega) (by decide)
        have x32 : ix (nI (32 + x)) = 32 + x := nI_clamp (by omega)
        have x0 : ix (nI x) = x := nI_clamp (by omega)
        have u : ∀ c j v (q : PH), c ≠ 104 → up q c j v 104 24 = q 104 24 := fun c j v q hc => up_oc (Ne.symm hc)
        rw [mm_takesLaw_L2, if_neg (nI_ge hx (by omega)), t32, e24, t0, c32, c0, lt_e, x32, x0, u _ _ _ _ (by decide), e24, t0, c32, c0, lt_e, x0, u _ _ _ _ (by decide), u _ _ _ _ (by decide), e24, t0, c32, c0, lt_e, x0, u _ _ _ _ (by decide), u _ _ _ _ (by decide), u _ _ _ _ (by decide), e24, t0, c32, c0, lt_e, x0, nI_1, ← a1 k0]
        simp only [up_oc (show (115 : Nat) ≠ 114 by decide), up_oc (show (116 : Nat) ≠ 114 by decide), up_oc (show (116 : Nat) ≠ 115 by decide), up_oc (show (117 : Nat) ≠ 114 by decide), up_oc (show (117 : Nat) ≠ 115 by decide), up_oc (show (117 : Nat) ≠ 116 by decide)]
      · by_cases z : j = x
        · rw [z, a4 b x b1 b2 (by omega), kK b x b1 b2, if_pos rfl]
        · rw [a3 b j b1 b2 (by omega) j2, kK b _ b1 b2, if_neg (by omega)]
      · rw [a4 b j b1 b2 (by omega), kK b j b1 b2, if_neg (by omega)]
theorem tl_107 {c : Nat} (hc : c ≤ 400) (p1 : Int32) : ∀ (n x : Nat) (hm : PH), 400 < n + x → x ≤ c → hm 104 24 = 0 → hm 104 25 = nI c → ∃ g, (∀ k0, mm_takesLaw_L107 p1 k0 n (nI x) hm = k0 g) ∧ (∀ b, b ≠ 118 → b ≠ 119 → g b = hm b) ∧ (∀ j, x ≤ j → j < c → g 118 j = hm 118 (800 + j) ∧ g 119 j = hm 119 (800 + j)) ∧ ∀ j, j < x ∨ c ≤ j → g 118 j = hm 118 j ∧ g 119 j = hm 119 j := by
  intro n
  induction n with
  | zero => intro x hm h1 h2; omega
  | succ n ih =>
    intro x hm h1 h2 e24 e25
    by_cases cc : x = c
    · subst cc
      exact ⟨hm, fun k0 => by rw [mm_takesLaw_L107, e25, if_pos (nI_le (Nat.le_refl _) (by omega))], fun _ _ _ => rfl, fun j j1 j2 => by omega, fun _ _ => ⟨rfl, rfl⟩⟩
    · have hx : x < c := by omega
      have o : ∀ b, b ≠ 118 → b ≠ 119 → up (up hm 118 x (hm 118 (800 + x))) 119 x (hm 119 (800 + x)) b = hm b := fun b b1 b2 => by rw [up_cell b2, up_cell b1]
      have k8 : ∀ j, up (up hm 118 x (hm 118 (800 + x))) 119 x (hm 119 (800 + x)) 118 j = if j = x then hm 118 (800 + x) else hm 118 j := fun j => by simp [up_at]
      have k9 : ∀ j, up (up hm 118 x (hm 118 (800 + x))) 119 x (hm 119 (800 + x)) 119 j = if j = x then hm 119 (800 + x) else hm 119 j := fun j => by simp [up_at]
      obtain ⟨g, a1, a2, a3, a4⟩ := ih (x + 1) (up (up hm 118 x (hm 118 (800 + x))) 119 x (hm 119 (800 + x))) (by omega) (by omega) (by rw [o 104 (by decide) (by decide)]; exact e24) (by rw [o 104 (by decide) (by decide)]; exact e25)
      refine ⟨g, fun k0 => ?_, fun b b1 b2 => by rw [a2 b b1 b2, o b b1 b2], fun j j1 j2 => ?_, fun j j1 => ?_⟩
      · have t8 : (800 : Int32) + nI x = nI (800 + x) := nI_add 800 x
        have t0 : (400 : Int32) * 0 + nI x = nI x := by rw [show (400 : Int32) * 0 = 0 from rfl, Int32.zero_add]
        have c8 : ∀ (z : Option PH), ck (nI (800 + x)) 1200 z = z := fun z => ck_nI (by omega) (by decide)
        have c0 : ∀ (z : Option PH), ck (nI x) 1200 z = z := fun z => ck_nI (by omega) (by decide)
        have x8 : ix (nI (800 + x)) = 800 + x := nI_clamp (by omega)
        have x0 : ix (nI x) = x := nI_clamp (by omega)
        rw [mm_takesLaw_L107, e25, if_neg (nI_ge hx (by omega)), t8, e24, t0, c8, c0, lt_e, x8, x0, up_oc (show (104 : Nat) ≠ 118 by decide), e24, t0, c8, c0, lt_e, x0, nI_1, up_oc (show (119 : Nat) ≠ 118 by decide), a1]
      · by_cases z : j = x
        · have := a4 x (by omega)
          rw [k8, k9, if_pos rfl, if_pos rfl] at this
          rw [z]
          exact this
        · have := a3 j (by omega) j2
          rw [k8, k9, if_neg (by omega), if_neg (by omega)] at this
          exact this
      · have := a4 j (by omega)
        rw [k8, k9, if_neg (by omega), if_neg (by omega)] at this
        exact this
theorem tl_at {r c : Nat} (hr : r ≤ 16) (hc : c ≤ 400) {hm : PH} (e24 : hm 104 24 = 0) (e25 : hm 104 25 = nI c) : ∃ g, mm_takesLaw (nI r) hm = some g ∧ (∀ b, b < 113 ∨ 119 < b → g b = hm b) ∧ g 113 0 = nI r ∧ (∀ b j, 114 ≤ b → b ≤ 117 → j < r → g b j = hm b (32 + j)) ∧ ∀ j, j < c → g 118 j = hm 118 (800 + j) ∧ g 119 j = hm 119 (800 + j) := by
  obtain ⟨g1, a1, a2, a3, a4⟩ := tl_2 hr FU 0 hm (by unfold FU; omega) (Nat.zero_le _) e24
  obtain ⟨g2, b1, b2, b3, b4⟩ := tl_107 hc (nI r) FU 0 g1 (by unfold FU; omega) (Nat.zero_le _) (by rw [a2 104 (by omega)]; exact e24) (by rw [a2 104 (by omega)]; exact e25)
  have e : g2 104 24 = 0 := by rw [b2 104 (by decide) (by decide), a2 104 (by omega)]; exact e24
  have c2 : ∀ (z : Option PH), ck 0 2 z = z := fun z => ck_nI (i := 0) (by decide) (by decide)
  rw [nI_0] at a1 b1
  refine ⟨up g2 113 0 (nI r), ?_, fun b hb => by rw [up_cell (by omega), b2 b (by omega) (by omega), a2 b (by omega)], up_same, fun b j h1 h2 hj => ?_, fun j hj => ?_⟩
  · unfold mm_takesLaw
    rw [a1, b1, e, c2, lt_e, show ix (0 : Int32) = 0 from rfl]
  · rw [up_oc (by omega), b2 b (by omega) (by omega), a3 b j h1 h2 (Nat.zero_le _) hj]
  · have := b3 j (Nat.zero_le _) hj
    rw [up_oc (by decide), up_oc (by decide), this.1, this.2, a2 118 (by omega), a2 119 (by omega)]
    exact ⟨rfl, rfl⟩
/-- the model takes another text -/
theorem to_47 {r : Nat} (hr : r ≤ 16) : ∀ (n x : Nat) (hm : PH), 48 < n + x → x ≤ 3 * r → ∃ g, (∀ k0, mm_takesOther_L47 (nI r) k0 n (nI x) hm = k0 g) ∧ (∀ b, b ≠ 121 → g b = hm b) ∧ (∀ j, x ≤ j → j < 3 * r → g 121 j = hm 121 (48 + j)) ∧ ∀ j, j < x ∨ 3 * r ≤ j → g 121 j = hm 121 j := by
  intro n
  induction n with
  | zero => intro x hm h1 h2; omega
  | succ n ih =>
    intro x hm h1 h2
    have t3 : (3 : Int32) * nI r = nI (3 * r) := nI_mul 3 r
    by_cases c : x = 3 * r
    · exact ⟨hm, fun k0 => by rw [mm_takesOther_L47, t3, if_pos (by rw [c]; exact nI_le (Nat.le_refl _) (by omega))], fun _ _ => rfl, fun j j1 j2 => by omega, fun _ _ => rfl⟩
    · have hx : x < 3 * r := by omega
      obtain ⟨g, a1, a2, a3, a4⟩ := ih (x + 1) (up hm 121 x (hm 121 (48 + x))) (by omega) (by omega)
      refine ⟨g, fun k0 => ?_, fun b hb => by rw [a2 b hb, up_cell hb], fun j j1 j2 => ?_, fun j j1 => by rw [a4 j (by omega), up_oj (by omega)]⟩
      · rw [mm_takesOther_L47, t3, if_neg (nI_ge hx (by omega)), show (48 : Int32) + nI x = nI (48 + x) from nI_add 48 x, ck_nI (show 48 + x < 96 by omega) (by decide), ck_nI (show x < 96 by omega) (by decide), lt_e, show ix (nI (48 + x)) = 48 + x from nI_clamp (by omega), show ix (nI x) = x from nI_clamp (by omega), nI_1, a1]
      · by_cases z : j = x
        · rw [z, a4 _ (by omega), up_same]
        · rw [a3 j (by omega) j2, up_oj (by omega)]
theorem to_85 {r : Nat} (hr : r ≤ 16) : ∀ (n x : Nat) (hm : PH), 80 < n + x → x ≤ 5 * r → ∃ g, (∀ k0, mm_takesOther_L85 (nI r) k0 n (nI x) hm = k0 g) ∧ (∀ b, b ≠ 122 → g b = hm b) ∧ (∀ j, x ≤ j → j < 5 * r → g 122 j = hm 122 (80 + j)) ∧ ∀ j, j < x ∨ 5 * r ≤ j → g 122 j = hm 122 j := by
  intro n
  induction n with
  | zero => intro x hm h1 h2; omega
  | succ n ih =>
    intro x hm h1 h2
    have t3 : (5 : Int32) * nI r = nI (5 * r) := nI_mul 5 r
    by_cases c : x = 5 * r
    · exact ⟨hm, fun k0 => by rw [mm_takesOther_L85, t3, if_pos (by rw [c]; exact nI_le (Nat.le_refl _) (by omega))], fun _ _ => rfl, fun j j1 j2 => by omega, fun _ _ => rfl⟩
    · have hx : x < 5 * r := by omega
      obtain ⟨g, a1, a2, a3, a4⟩ := ih (x + 1) (up hm 122 x (hm 122 (80 + x))) (by omega) (by omega)
      refine ⟨g, fun k0 => ?_, fun b hb => by rw [a2 b hb, up_cell hb], fun j j1 j2 => ?_, fun j j1 => by rw [a4 j (by omega), up_oj (by omega)]⟩
      · rw [mm_takesOther_L85, t3, if_neg (nI_ge hx (by omega)), show (80 : Int32) + nI x = nI (80 + x) from nI_add 80 x, ck_nI (show 80 + x < 160 by omega) (by decide), ck_nI (show x < 160 by omega) (by decide), lt_e, show ix (nI (80 + x)) = 80 + x from nI_clamp (by omega), show ix (nI x) = x from nI_clamp (by omega), nI_1, a1]
      · by_cases z : j = x
        · rw [z, a4 _ (by omega), up_same]
        · rw [a3 j (by omega) j2, up_oj (by omega)]
theorem to_7 (p2 : Int32) : ∀ (n x : Nat) (hm : PH), 12 < n + x → x ≤ 12 → ∃ g, (∀ k0, mm_takesOther_L7 p2 k0 n (nI x) hm = k0 g) ∧ (∀ b, b ≠ 123 → g b = hm b) ∧ (∀ j, x ≤ j → j < 12 → g 123 j = hm 123 (12 + j)) ∧ ∀ j, j < x ∨ 12 ≤ j → g 123 j = hm 123 j := by
  intro n
  induction n with
  | zero => intro x hm h1 h2; omega
  | succ n ih =>
    intro x hm h1 h2
    by_cases c : x = 12
    · exact ⟨hm, fun k0 => by rw [mm_takesOther_L7, if_pos (by rw [c]; decide)], fun _ _ => rfl, fun j j1 j2 => by omega, fun _ _ => rfl⟩
    · have hx : x < 12 := by omega
      obtain ⟨g, a1, a2, a3, a4⟩ := ih (x + 1) (up hm 123 x (hm 123 (12 + x))) (by omega) (by omega)
      refine ⟨g, fun k0 => ?_, fun b hb => by rw [a2 b hb, up_cell hb], fun j j1 j2 => ?_, fun j j1 => by rw [a4 j (by omega), up_oj (by omega)]⟩
      · rw [mm_takesOther_L7, if_neg (show ¬ (12 : Int32) ≤ nI x from nI_ge (b := 12) hx (by decide)), show (12 : Int32) + nI x = nI (12 + x) from nI_add 12 x, ck_nI (show 12 + x < 24 by omega) (by decide), ck_nI (show x < 24 by omega) (by decide), lt_e, show ix (nI (12 + x)) = 12 + x from nI_clamp (by omega), show ix (nI x) = x from nI_clamp (by omega), nI_1, a1]
      · by_cases z : j = x
        · rw [z, a4 _ (by omega), up_same]
        · rw [a3 j (by omega) j2, up_oj (by omega)]
theorem to_at1 {r : Nat} (hr : r ≤ 16) (hm : PH) : ∃ g, mm_takesOther 1 (nI r) hm = some g ∧ (∀ b, b ≠ 121 → b ≠ 104 → g b = hm b) ∧ (∀ j, j ≠ 33 → j ≠ 3 → g 104 j = hm 104 j) ∧ g 104 33 = nI r ∧ g 104 3 = 0 ∧ ∀ j, j < 3 * r → g 121 j = hm 121 (48 + j) := by
  obtain ⟨g, a1, a2, a3, a4⟩ := to_47 hr FU 0 hm (by unfold FU; omega) (Nat.zero_le _)
  rw [nI_0] at a1
  refine ⟨up (up g 104 33 (nI r)) 104 3 0, ?_, fun b b1 b2 => by rw [up_cell b2, up_cell b2, a2 b b1], fun j j1 j2 => by rw [up_oj j2, up_oj j1, a2 104 (by decide)], by rw [up_oj (by decide), up_same], up_same, fun j hj => by rw [up_oc (by decide), up_oc (by decide)]; exact a3 j (Nat.zero_le _) hj⟩
  unfold mm_takesOther
  rw [if_neg (by decide), jn1_e, if_pos rfl, a1, lt_e]
  rfl
theorem to_at2 {r : Nat} (hr : r ≤ 16) (hm : PH) : ∃ g, mm_takesOther 2 (nI r) hm = some g ∧ (∀ b, b ≠ 122 → b ≠ 104 → g b = hm b) ∧ (∀ j, j ≠ 35 → j ≠ 3 → g 104 j = hm 104 j) ∧ g 104 35 = nI r ∧ g 104 3 = 0 ∧ ∀ j, j < 5 * r → g 122 j = hm 122 (80 + j) := by
  obtain ⟨g, a1, a2, a3, a4⟩ := to_85 hr FU 0 hm (by unfold FU; omega) (Nat.zero_le _)
  rw [nI_0] at a1
  refine ⟨up (up g 104 35 (nI r)) 104 3 0, ?_, fun b b1 b2 => by rw [up_cell b2, up_cell b2, a2 b b1], fun j j1 j2 => by rw [up_oj j2, up_oj j1, a2 104 (by decide)], by rw [up_oj (by decide), up_same], up_same, fun j hj => by rw [up_oc (by decide), up_oc (by decide)]; exact a3 j (Nat.zero_le _) hj⟩
  unfold mm_takesOther
  rw [if_neg (by decide), jn1_e, if_neg (by decide), a1, lt_e]
  rfl
theorem to_at3 (r : Nat) (hm : PH) : ∃ g, mm_takesOther 3 (nI r) hm = some g ∧ (∀ b, b ≠ 123 → b ≠ 104 → g b = hm b) ∧ (∀ j, j ≠ 37 → g 104 j = hm 104 j) ∧ g 104 37 = nI r ∧ ∀ j, j < 12 → g 123 j = hm 123 (12 + j) := by
  obtain ⟨g, a1, a2, a3, a4⟩ := to_7 (nI r) FU 0 hm (by unfold FU; omega) (by decide)
  rw [nI_0] at a1
  refine ⟨up g 104 37 (nI r), ?_, fun b b1 b2 => by rw [up_cell b2, a2 b b1], fun j j1 => by rw [up_oj j1, a2 104 (by decide)], up_same, fun j hj => by rw [up_oc (by decide)]; exact a3 j (Nat.zero_le _) hj⟩
  unfold mm_takesOther
  rw [if_pos rfl, a1, lt_e]
/-- the class's rows tell who is next -/
theorem nt_rows {h : PH} {m : Nat} (hm : m ≤ 16) (e3 : h 14 3 = nI m) (e1 : h 14 1 = 5) (k : Nat) : mO_nextTo 5 (nI k) h = some (nxF (h 15) k m) := by
  have go : ∀ (n r : Nat), m < n + r → r ≤ m → mO_nextTo_L4 5 (nI k) h n (nxF (h 15) k r) (nI r) = some (nxF (h 15) k m) := by
    intro n
    induction n with
    | zero => intro r h1 h2; omega
    | succ n ih =>
      intro r h1 h2
      rw [mO_nextTo_L4, show h (5 + 9) 3 = nI m from e3]
      by_cases c : r = m
      · subst c
        rw [if_pos (nI_le (Nat.le_refl _) (by omega))]
      · have hr : r < m := by omega
        have b0 : mR_at (5 + 9) (nI r) 0 h = some (h 15 (5 * r)) := at_14 (c := 0) e1 e3 hm hr (by decide)
        have b1 : mR_at (5 + 9) (nI r) 1 h = some (h 15 (5 * r + 1)) := at_14 (c := 1) e1 e3 hm hr (by decide)
        have nx := ih (r + 1) (by omega) (by omega)
        rw [if_neg (nI_ge hr (by omega)), b0, bd_e, b1, bd_e, nI_1, jn1_e]
        rw [nxF] at nx
        unfold nxS at nx
        by_cases z : h 15 (5 * r) = nI k
        · rw [if_pos z, lt_e]
          dsimp only
          by_cases y : h 15 (5 * r + 1) = nI k
          · rw [if_pos y, if_pos z] at nx
            rw [if_pos y, lt_e]
            exact nx
          · rw [if_neg y, if_pos z] at nx
            rw [if_neg y]
            exact nx
        · rw [if_neg z]
          dsimp only
          by_cases y : h 15 (5 * r + 1) = nI k
          · rw [if_pos y, if_neg z] at nx
            rw [if_pos y, lt_e]
            exact nx
          · rw [if_neg y, if_neg z] at nx
            rw [if_neg y]
            exact nx
  have := go FU 0 (by unfold FU; omega) (Nat.zero_le _)
  rw [nI_0] at this
  exact this
end
section
/-! THE CALLS that leave the town alone. Printed by wip/gen/ptwn.py -/
theorem tw_feed (k : Nat) (a1 a2 a3 a4 a5 : Int32) (h : PH) (t : TWN k h) (hk : k < 512) {rX rm : Int32} {h1 h2 : PH} (e1 : mX_feed a1 a2 a3 a4 a5 h = some (rX, h1)) (e2 : mm_feed a1 a2 a3 a4 a5 h1 = some (rm, h2)) : TWN (k + 1) h2 := twn_cs (fpX_feed a1 a2 a3 a4 a5 h e1) (fkm_feed a1 a2 a3 a4 a5 h1 e2) (by decide : ∀ b, b ∈ FPdX_feed 0 0 0 0 0 → ¬ (b = 1 ∨ b = 2 ∨ (6 ≤ b ∧ b ≤ 17) ∨ b = 37 ∨ b = 38 ∨ (40 ≤ b ∧ b ≤ 51) ∨ (68 ≤ b ∧ b ≤ 70) ∨ (72 ≤ b ∧ b ≤ 84))) (by decide : ∀ b, b ∈ FKdm_feed 0 0 0 0 0 → ¬ (b = 1003 ∨ b = 1005 ∨ b = 1006 ∨ b = 1033 ∨ b = 1035 ∨ b = 1037 ∨ b = 1072 ∨ b = 105 ∨ b = 106 ∨ (108 ≤ b ∧ b ≤ 110) ∨ (113 ≤ b ∧ b ≤ 119) ∨ (121 ≤ b ∧ b ≤ 123) ∨ b = 148)) (by decide : ∀ b, b ∈ FPdX_feed 0 0 0 0 0 → b < 104) (by decide : ∀ b, b ∈ FKdm_feed 0 0 0 0 0 → 104 ≤ b) hk t
theorem tw_end (k : Nat) (a1 : Int32) (h : PH) (t : TWN k h) (hk : k < 512) {rX rm : Int32} {h1 h2 : PH} (e1 : mX_end a1 h = some (rX, h1)) (e2 : mm_end a1 h1 = some (rm, h2)) : TWN (k + 1) h2 := twn_cs (fpX_end a1 h e1) (fkm_end a1 h1 e2) (by decide : ∀ b, b ∈ FPdX_end 0 → ¬ (b = 1 ∨ b = 2 ∨ (6 ≤ b ∧ b ≤ 17) ∨ b = 37 ∨ b = 38 ∨ (40 ≤ b ∧ b ≤ 51) ∨ (68 ≤ b ∧ b ≤ 70) ∨ (72 ≤ b ∧ b ≤ 84))) (by decide : ∀ b, b ∈ FKdm_end 0 → ¬ (b = 1003 ∨ b = 1005 ∨ b = 1006 ∨ b = 1033 ∨ b = 1035 ∨ b = 1037 ∨ b = 1072 ∨ b = 105 ∨ b = 106 ∨ (108 ≤ b ∧ b ≤ 110) ∨ (113 ≤ b ∧ b ≤ 119) ∨ (121 ≤ b ∧ b ≤ 123) ∨ b = 148)) (by decide : ∀ b, b ∈ FPdX_end 0 → b < 104) (by decide : ∀ b, b ∈ FKdm_end 0 → 104 ≤ b) hk t
theorem tw_fault (k : Nat) (a1 : Int32) (h : PH) (t : TWN k h) (hk : k < 512) {rm : Int32} {h2 : PH} (e2 : mm_fault a1 h = some (rm, h2)) : TWN (k + 1) h2 := twn_cs (S := []) (fun _ _ => rfl) (fkm_fault a1 h e2) (by decide) (by decide : ∀ b, b ∈ FKdm_fault 0 → ¬ (b = 1003 ∨ b = 1005 ∨ b = 1006 ∨ b = 1033 ∨ b = 1035 ∨ b = 1037 ∨ b = 1072 ∨ b = 105 ∨ b = 106 ∨ (108 ≤ b ∧ b ≤ 110) ∨ (113 ≤ b ∧ b ≤ 119) ∨ (121 ≤ b ∧ b ≤ 123) ∨ b = 148)) (by decide) (by decide : ∀ b, b ∈ FKdm_fault 0 → 104 ≤ b) hk t
theorem tw_of (k : Nat) (a1 a2 : Int32) (h : PH) (t : TWN k h) (hk : k < 512) {rX rm : Int32} {h1 h2 : PH} (e1 : mX_of a1 a2 h = some (rX, h1)) (e2 : mm_of a1 a2 h1 = some (rm, h2)) : TWN (k + 1) h2 := twn_cs (fpX_of a1 a2 h e1) (fkm_of a1 a2 h1 e2) (by decide : ∀ b, b ∈ FPdX_of 0 0 → ¬ (b = 1 ∨ b = 2 ∨ (6 ≤ b ∧ b ≤ 17) ∨ b = 37 ∨ b = 38 ∨ (40 ≤ b ∧ b ≤ 51) ∨ (68 ≤ b ∧ b ≤ 70) ∨ (72 ≤ b ∧ b ≤ 84))) (by decide : ∀ b, b ∈ FKdm_of 0 0 → ¬ (b = 1003 ∨ b = 1005 ∨ b = 1006 ∨ b = 1033 ∨ b = 1035 ∨ b = 1037 ∨ b = 1072 ∨ b = 105 ∨ b = 106 ∨ (108 ≤ b ∧ b ≤ 110) ∨ (113 ≤ b ∧ b ≤ 119) ∨ (121 ≤ b ∧ b ≤ 123) ∨ b = 148)) (by decide : ∀ b, b ∈ FPdX_of 0 0 → b < 104) (by decide : ∀ b, b ∈ FKdm_of 0 0 → 104 ≤ b) hk t
theorem tw_book (k : Nat) (a1 a2 : Int32) (h : PH) (t : TWN k h) (hk : k < 512) {rm : Int32} {h2 : PH} (e2 : mm_book a1 a2 h = some (rm, h2)) : TWN (k + 1) h2 := twn_cs (S := []) (fun _ _ => rfl) (fkm_book a1 a2 h e2) (by decide) (by decide : ∀ b, b ∈ FKdm_book 0 0 → ¬ (b = 1003 ∨ b = 1005 ∨ b = 1006 ∨ b = 1033 ∨ b = 1035 ∨ b = 1037 ∨ b = 1072 ∨ b = 105 ∨ b = 106 ∨ (108 ≤ b ∧ b ≤ 110) ∨ (113 ≤ b ∧ b ≤ 119) ∨ (121 ≤ b ∧ b ≤ 123) ∨ b = 148)) (by decide) (by decide : ∀ b, b ∈ FKdm_book 0 0 → 104 ≤ b) hk t
theorem tw_hears (k : Nat) (a1 a2 : Int32) (h : PH) (t : TWN k h) (hk : k < 512) {rX rm : Int32} {h1 h2 : PH} (e1 : mX_hears a1 a2 h = some (rX, h1)) (e2 : mm_hears a1 a2 h1 = some (rm, h2)) : TWN (k + 1) h2 := twn_cs (fpX_hears a1 a2 h e1) (fkm_hears a1 a2 h1 e2) (by decide : ∀ b, b ∈ FPdX_hears 0 0 → ¬ (b = 1 ∨ b = 2 ∨ (6 ≤ b ∧ b ≤ 17) ∨ b = 37 ∨ b = 38 ∨ (40 ≤ b ∧ b ≤ 51) ∨ (68 ≤ b ∧ b ≤ 70) ∨ (72 ≤ b ∧ b ≤ 84))) (by decide : ∀ b, b ∈ FKdm_hears 0 0 → ¬ (b = 1003 ∨ b = 1005 ∨ b = 1006 ∨ b = 1033 ∨ b = 1035 ∨ b = 1037 ∨ b = 1072 ∨ b = 105 ∨ b = 106 ∨ (108 ≤ b ∧ b ≤ 110) ∨ (113 ≤ b ∧ b ≤ 119) ∨ (121 ≤ b ∧ b ≤ 123) ∨ b = 148)) (by decide : ∀ b, b ∈ FPdX_hears 0 0 → b < 104) (by decide : ∀ b, b ∈ FKdm_hears 0 0 → 104 ≤ b) hk t
theorem tw_heard (k : Nat) (a1 a2 : Int32) (h : PH) (t : TWN k h) (hk : k < 512) {rX rm : Int32} {h1 h2 : PH} (e1 : mX_heard a1 a2 h = some (rX, h1)) (e2 : mm_heard a1 a2 h1 = some (rm, h2)) : TWN (k + 1) h2 := twn_cs (fpX_heard a1 a2 h e1) (fkm_heard a1 a2 h1 e2) (by decide : ∀ b, b ∈ FPdX_heard 0 0 → ¬ (b = 1 ∨ b = 2 ∨ (6 ≤ b ∧ b ≤ 17) ∨ b = 37 ∨ b = 38 ∨ (40 ≤ b ∧ b ≤ 51) ∨ (68 ≤ b ∧ b ≤ 70) ∨ (72 ≤ b ∧ b ≤ 84))) (by decide : ∀ b, b ∈ FKdm_heard 0 0 → ¬ (b = 1003 ∨ b = 1005 ∨ b = 1006 ∨ b = 1033 ∨ b = 1035 ∨ b = 1037 ∨ b = 1072 ∨ b = 105 ∨ b = 106 ∨ (108 ≤ b ∧ b ≤ 110) ∨ (113 ≤ b ∧ b ≤ 119) ∨ (121 ≤ b ∧ b ≤ 123) ∨ b = 148)) (by decide : ∀ b, b ∈ FPdX_heard 0 0 → b < 104) (by decide : ∀ b, b ∈ FKdm_heard 0 0 → 104 ≤ b) hk t
theorem tw_ants (k : Nat) (a1 a2 : Int32) (h : PH) (t : TWN k h) (hk : k < 512) {rX rm : Int32} {h1 h2 : PH} (e1 : mX_ants a1 a2 h = some (rX, h1)) (e2 : mm_ants a1 a2 h1 = some (rm, h2)) : TWN (k + 1) h2 := twn_cs (fpX_ants a1 a2 h e1) (fkm_ants a1 a2 h1 e2) (by decide : ∀ b, b ∈ FPdX_ants 0 0 → ¬ (b = 1 ∨ b = 2 ∨ (6 ≤ b ∧ b ≤ 17) ∨ b = 37 ∨ b = 38 ∨ (40 ≤ b ∧ b ≤ 51) ∨ (68 ≤ b ∧ b ≤ 70) ∨ (72 ≤ b ∧ b ≤ 84))) (by decide : ∀ b, b ∈ FKdm_ants 0 0 → ¬ (b = 1003 ∨ b = 1005 ∨ b = 1006 ∨ b = 1033 ∨ b = 1035 ∨ b = 1037 ∨ b = 1072 ∨ b = 105 ∨ b = 106 ∨ (108 ≤ b ∧ b ≤ 110) ∨ (113 ≤ b ∧ b ≤ 119) ∨ (121 ≤ b ∧ b ≤ 123) ∨ b = 148)) (by decide : ∀ b, b ∈ FPdX_ants 0 0 → b < 104) (by decide : ∀ b, b ∈ FKdm_ants 0 0 → 104 ≤ b) hk t
theorem tw_piece (k : Nat) (a1 : Int32) (h : PH) (t : TWN k h) (hk : k < 512) {rX rm : Int32} {h1 h2 : PH} (e1 : mX_piece a1 h = some (rX, h1)) (e2 : mm_piece a1 h1 = some (rm, h2)) : TWN (k + 1) h2 := twn_cs (fpX_piece a1 h e1) (fkm_piece a1 h1 e2) (by decide : ∀ b, b ∈ FPdX_piece 0 → ¬ (b = 1 ∨ b = 2 ∨ (6 ≤ b ∧ b ≤ 17) ∨ b = 37 ∨ b = 38 ∨ (40 ≤ b ∧ b ≤ 51) ∨ (68 ≤ b ∧ b ≤ 70) ∨ (72 ≤ b ∧ b ≤ 84))) (by decide : ∀ b, b ∈ FKdm_piece 0 → ¬ (b = 1003 ∨ b = 1005 ∨ b = 1006 ∨ b = 1033 ∨ b = 1035 ∨ b = 1037 ∨ b = 1072 ∨ b = 105 ∨ b = 106 ∨ (108 ≤ b ∧ b ≤ 110) ∨ (113 ≤ b ∧ b ≤ 119) ∨ (121 ≤ b ∧ b ≤ 123) ∨ b = 148)) (by decide : ∀ b, b ∈ FPdX_piece 0 → b < 104) (by decide : ∀ b, b ∈ FKdm_piece 0 → 104 ≤ b) hk t
theorem tw_plate (k : Nat) (a1 a2 : Int32) (h : PH) (t : TWN k h) (hk : k < 512) {rm : Int32} {h2 : PH} (e2 : mm_plate a1 a2 h = some (rm, h2)) : TWN (k + 1) h2 := twn_cs (S := []) (fun _ _ => rfl) (fkm_plate a1 a2 h e2) (by decide) (by decide : ∀ b, b ∈ FKdm_plate 0 0 → ¬ (b = 1003 ∨ b = 1005 ∨ b = 1006 ∨ b = 1033 ∨ b = 1035 ∨ b = 1037 ∨ b = 1072 ∨ b = 105 ∨ b = 106 ∨ (108 ≤ b ∧ b ≤ 110) ∨ (113 ≤ b ∧ b ≤ 119) ∨ (121 ≤ b ∧ b ≤ 123) ∨ b = 148)) (by decide) (by decide : ∀ b, b ∈ FKdm_plate 0 0 → 104 ≤ b) hk t
theorem tw_dough (k : Nat) (a1 : Int32) (h : PH) (t : TWN k h) (hk : k < 512) {rX rm : Int32} {h1 h2 : PH} (e1 : mX_dough a1 h = some (rX, h1)) (e2 : mm_dough a1 h1 = some (rm, h2)) : TWN (k + 1) h2 := twn_cs (fpX_dough a1 h e1) (fkm_dough a1 h1 e2) (by decide : ∀ b, b ∈ FPdX_dough 0 → ¬ (b = 1 ∨ b = 2 ∨ (6 ≤ b ∧ b ≤ 17) ∨ b = 37 ∨ b = 38 ∨ (40 ≤ b ∧ b ≤ 51) ∨ (68 ≤ b ∧ b ≤ 70) ∨ (72 ≤ b ∧ b ≤ 84))) (by decide : ∀ b, b ∈ FKdm_dough 0 → ¬ (b = 1003 ∨ b = 1005 ∨ b = 1006 ∨ b = 1033 ∨ b = 1035 ∨ b = 1037 ∨ b = 1072 ∨ b = 105 ∨ b = 106 ∨ (108 ≤ b ∧ b ≤ 110) ∨ (113 ≤ b ∧ b ≤ 119) ∨ (121 ≤ b ∧ b ≤ 123) ∨ b = 148)) (by decide : ∀ b, b ∈ FPdX_dough 0 → b < 104) (by decide : ∀ b, b ∈ FKdm_dough 0 → 104 ≤ b) hk t
theorem tw_pans (k : Nat) (a1 a2 : Int32) (h : PH) (t : TWN k h) (hk : k < 512) {rX rm : Int32} {h1 h2 : PH} (e1 : mX_pans a1 a2 h = some (rX, h1)) (e2 : mm_pans a1 a2 h1 = some (rm, h2)) : TWN (k + 1) h2 := twn_cs (fpX_pans a1 a2 h e1) (fkm_pans a1 a2 h1 e2) (by decide : ∀ b, b ∈ FPdX_pans 0 0 → ¬ (b = 1 ∨ b = 2 ∨ (6 ≤ b ∧ b ≤ 17) ∨ b = 37 ∨ b = 38 ∨ (40 ≤ b ∧ b ≤ 51) ∨ (68 ≤ b ∧ b ≤ 70) ∨ (72 ≤ b ∧ b ≤ 84))) (by decide : ∀ b, b ∈ FKdm_pans 0 0 → ¬ (b = 1003 ∨ b = 1005 ∨ b = 1006 ∨ b = 1033 ∨ b = 1035 ∨ b = 1037 ∨ b = 1072 ∨ b = 105 ∨ b = 106 ∨ (108 ≤ b ∧ b ≤ 110) ∨ (113 ≤ b ∧ b ≤ 119) ∨ (121 ≤ b ∧ b ≤ 123) ∨ b = 148)) (by decide : ∀ b, b ∈ FPdX_pans 0 0 → b < 104) (by decide : ∀ b, b ∈ FKdm_pans 0 0 → 104 ≤ b) hk t
theorem tw_mortgage (k : Nat) (a1 a2 a3 a4 : Int32) (h : PH) (t : TWN k h) (hk : k < 512) {rm : Int32} {h2 : PH} (e2 : mm_mortgage a1 a2 a3 a4 h = some (rm, h2)) : TWN (k + 1) h2 := twn_cs (S := []) (fun _ _ => rfl) (fkm_mortgage a1 a2 a3 a4 h e2) (by decide) (by decide : ∀ b, b ∈ FKdm_mortgage 0 0 0 0 → ¬ (b = 1003 ∨ b = 1005 ∨ b = 1006 ∨ b = 1033 ∨ b = 1035 ∨ b = 1037 ∨ b = 1072 ∨ b = 105 ∨ b = 106 ∨ (108 ≤ b ∧ b ≤ 110) ∨ (113 ≤ b ∧ b ≤ 119) ∨ (121 ≤ b ∧ b ≤ 123) ∨ b = 148)) (by decide) (by decide : ∀ b, b ∈ FKdm_mortgage 0 0 0 0 → 104 ≤ b) hk t
theorem tw_mark (k : Nat) (a1 : Int32) (h : PH) (t : TWN k h) (hk : k < 512) {rX rm : Int32} {h1 h2 : PH} (e1 : mX_mark a1 h = some (rX, h1)) (e2 : mm_mark a1 h1 = some (rm, h2)) : TWN (k + 1) h2 := twn_cs (fpX_mark a1 h e1) (fkm_mark a1 h1 e2) (by decide : ∀ b, b ∈ FPdX_mark 0 → ¬ (b = 1 ∨ b = 2 ∨ (6 ≤ b ∧ b ≤ 17) ∨ b = 37 ∨ b = 38 ∨ (40 ≤ b ∧ b ≤ 51) ∨ (68 ≤ b ∧ b ≤ 70) ∨ (72 ≤ b ∧ b ≤ 84))) (by decide : ∀ b, b ∈ FKdm_mark 0 → ¬ (b = 1003 ∨ b = 1005 ∨ b = 1006 ∨ b = 1033 ∨ b = 1035 ∨ b = 1037 ∨ b = 1072 ∨ b = 105 ∨ b = 106 ∨ (108 ≤ b ∧ b ≤ 110) ∨ (113 ≤ b ∧ b ≤ 119) ∨ (121 ≤ b ∧ b ≤ 123) ∨ b = 148)) (by decide : ∀ b, b ∈ FPdX_mark 0 → b < 104) (by decide : ∀ b, b ∈ FKdm_mark 0 → 104 ≤ b) hk t
theorem tw_measures (k : Nat) (a1 : Int32) (h : PH) (t : TWN k h) (hk : k < 512) {rm : Int32} {h2 : PH} (e2 : mm_measures a1 h = some (rm, h2)) : TWN (k + 1) h2 := twn_cs (S := []) (fun _ _ => rfl) (fkm_measures a1 h e2) (by decide) (by decide : ∀ b, b ∈ FKdm_measures 0 → ¬ (b = 1003 ∨ b = 1005 ∨ b = 1006 ∨ b = 1033 ∨ b = 1035 ∨ b = 1037 ∨ b = 1072 ∨ b = 105 ∨ b = 106 ∨ (108 ≤ b ∧ b ≤ 110) ∨ (113 ≤ b ∧ b ≤ 119) ∨ (121 ≤ b ∧ b ≤ 123) ∨ b = 148)) (by decide) (by decide : ∀ b, b ∈ FKdm_measures 0 → 104 ≤ b) hk t
theorem tw_bite (k : Nat) (a1 a2 : Int32) (h : PH) (t : TWN k h) (hk : k < 512) {rX rm : Int32} {h1 h2 : PH} (e1 : mX_bite a1 a2 h = some (rX, h1)) (e2 : mm_bite a1 a2 h1 = some (rm, h2)) : TWN (k + 1) h2 := twn_cs (fpX_bite a1 a2 h e1) (fkm_bite a1 a2 h1 e2) (by decide : ∀ b, b ∈ FPdX_bite 0 0 → ¬ (b = 1 ∨ b = 2 ∨ (6 ≤ b ∧ b ≤ 17) ∨ b = 37 ∨ b = 38 ∨ (40 ≤ b ∧ b ≤ 51) ∨ (68 ≤ b ∧ b ≤ 70) ∨ (72 ≤ b ∧ b ≤ 84))) (by decide : ∀ b, b ∈ FKdm_bite 0 0 → ¬ (b = 1003 ∨ b = 1005 ∨ b = 1006 ∨ b = 1033 ∨ b = 1035 ∨ b = 1037 ∨ b = 1072 ∨ b = 105 ∨ b = 106 ∨ (108 ≤ b ∧ b ≤ 110) ∨ (113 ≤ b ∧ b ≤ 119) ∨ (121 ≤ b ∧ b ≤ 123) ∨ b = 148)) (by decide : ∀ b, b ∈ FPdX_bite 0 0 → b < 104) (by decide : ∀ b, b ∈ FKdm_bite 0 0 → 104 ≤ b) hk t
theorem tw_whose (k : Nat) (a1 a2 : Int32) (h : PH) (t : TWN k h) (hk : k < 512) {rm : Int32} {h2 : PH} (e2 : mm_whose a1 a2 h = some (rm, h2)) : TWN (k + 1) h2 := twn_cs (S := []) (fun _ _ => rfl) (fkm_whose a1 a2 h e2) (by decide) (by decide : ∀ b, b ∈ FKdm_whose 0 0 → ¬ (b = 1003 ∨ b = 1005 ∨ b = 1006 ∨ b = 1033 ∨ b = 1035 ∨ b = 1037 ∨ b = 1072 ∨ b = 105 ∨ b = 106 ∨ (108 ≤ b ∧ b ≤ 110) ∨ (113 ≤ b ∧ b ≤ 119) ∨ (121 ≤ b ∧ b ≤ 123) ∨ b = 148)) (by decide) (by decide : ∀ b, b ∈ FKdm_whose 0 0 → 104 ≤ b) hk t
theorem tw_crumb (k : Nat) (a1 : Int32) (h : PH) (t : TWN k h) (hk : k < 512) {rX rm : Int32} {h1 h2 : PH} (e1 : mX_crumb a1 h = some (rX, h1)) (e2 : mm_crumb a1 h1 = some (rm, h2)) : TWN (k + 1) h2 := twn_cs (fpX_crumb a1 h e1) (fkm_crumb a1 h1 e2) (by decide : ∀ b, b ∈ FPdX_crumb 0 → ¬ (b = 1 ∨ b = 2 ∨ (6 ≤ b ∧ b ≤ 17) ∨ b = 37 ∨ b = 38 ∨ (40 ≤ b ∧ b ≤ 51) ∨ (68 ≤ b ∧ b ≤ 70) ∨ (72 ≤ b ∧ b ≤ 84))) (by decide : ∀ b, b ∈ FKdm_crumb 0 → ¬ (b = 1003 ∨ b = 1005 ∨ b = 1006 ∨ b = 1033 ∨ b = 1035 ∨ b = 1037 ∨ b = 1072 ∨ b = 105 ∨ b = 106 ∨ (108 ≤ b ∧ b ≤ 110) ∨ (113 ≤ b ∧ b ≤ 119) ∨ (121 ≤ b ∧ b ≤ 123) ∨ b = 148)) (by decide : ∀ b, b ∈ FPdX_crumb 0 → b < 104) (by decide : ∀ b, b ∈ FKdm_crumb 0 → 104 ≤ b) hk t
theorem tw_crumbs (k : Nat) (a1 : Int32) (h : PH) (t : TWN k h) (hk : k < 512) {rX rm : Int32} {h1 h2 : PH} (e1 : mX_crumbs a1 h = some (rX, h1)) (e2 : mm_crumbs a1 h1 = some (rm, h2)) : TWN (k + 1) h2 := twn_cs (fpX_crumbs a1 h e1) (fkm_crumbs a1 h1 e2) (by decide : ∀ b, b ∈ FPdX_crumbs 0 → ¬ (b = 1 ∨ b = 2 ∨ (6 ≤ b ∧ b ≤ 17) ∨ b = 37 ∨ b = 38 ∨ (40 ≤ b ∧ b ≤ 51) ∨ (68 ≤ b ∧ b ≤ 70) ∨ (72 ≤ b ∧ b ≤ 84))) (by decide : ∀ b, b ∈ FKdm_crumbs 0 → ¬ (b = 1003 ∨ b = 1005 ∨ b = 1006 ∨ b = 1033 ∨ b = 1035 ∨ b = 1037 ∨ b = 1072 ∨ b = 105 ∨ b = 106 ∨ (108 ≤ b ∧ b ≤ 110) ∨ (113 ≤ b ∧ b ≤ 119) ∨ (121 ≤ b ∧ b ≤ 123) ∨ b = 148)) (by decide : ∀ b, b ∈ FPdX_crumbs 0 → b < 104) (by decide : ∀ b, b ∈ FKdm_crumbs 0 → 104 ≤ b) hk t
theorem tw_loaf (k : Nat) (a1 a2 : Int32) (h : PH) (t : TWN k h) (hk : k < 512) {rX rm : Int32} {h1 h2 : PH} (e1 : mX_loaf a1 a2 h = some (rX, h1)) (e2 : mm_loaf a1 a2 h1 = some (rm, h2)) : TWN (k + 1) h2 := twn_cs (fpX_loaf a1 a2 h e1) (fkm_loaf a1 a2 h1 e2) (by decide : ∀ b, b ∈ FPdX_loaf 0 0 → ¬ (b = 1 ∨ b = 2 ∨ (6 ≤ b ∧ b ≤ 17) ∨ b = 37 ∨ b = 38 ∨ (40 ≤ b ∧ b ≤ 51) ∨ (68 ≤ b ∧ b ≤ 70) ∨ (72 ≤ b ∧ b ≤ 84))) (by decide : ∀ b, b ∈ FKdm_loaf 0 0 → ¬ (b = 1003 ∨ b = 1005 ∨ b = 1006 ∨ b = 1033 ∨ b = 1035 ∨ b = 1037 ∨ b = 1072 ∨ b = 105 ∨ b = 106 ∨ (108 ≤ b ∧ b ≤ 110) ∨ (113 ≤ b ∧ b ≤ 119) ∨ (121 ≤ b ∧ b ≤ 123) ∨ b = 148)) (by decide : ∀ b, b ∈ FPdX_loaf 0 0 → b < 104) (by decide : ∀ b, b ∈ FKdm_loaf 0 0 → 104 ≤ b) hk t
theorem tw_ovens (k : Nat) (a1 : Int32) (h : PH) (t : TWN k h) (hk : k < 512) {rm : Int32} {h2 : PH} (e2 : mm_ovens a1 h = some (rm, h2)) : TWN (k + 1) h2 := twn_cs (S := []) (fun _ _ => rfl) (fkm_ovens a1 h e2) (by decide) (by decide : ∀ b, b ∈ FKdm_ovens 0 → ¬ (b = 1003 ∨ b = 1005 ∨ b = 1006 ∨ b = 1033 ∨ b = 1035 ∨ b = 1037 ∨ b = 1072 ∨ b = 105 ∨ b = 106 ∨ (108 ≤ b ∧ b ≤ 110) ∨ (113 ≤ b ∧ b ≤ 119) ∨ (121 ≤ b ∧ b ≤ 123) ∨ b = 148)) (by decide) (by decide : ∀ b, b ∈ FKdm_ovens 0 → 104 ≤ b) hk t
theorem tw_alone (k : Nat) (a1 : Int32) (h : PH) (t : TWN k h) (hk : k < 512) {rX rm : Int32} {h1 h2 : PH} (e1 : mX_alone a1 h = some (rX, h1)) (e2 : mm_alone a1 h1 = some (rm, h2)) : TWN (k + 1) h2 := twn_cs (fpX_alone a1 h e1) (fkm_alone a1 h1 e2) (by decide : ∀ b, b ∈ FPdX_alone 0 → ¬ (b = 1 ∨ b = 2 ∨ (6 ≤ b ∧ b ≤ 17) ∨ b = 37 ∨ b = 38 ∨ (40 ≤ b ∧ b ≤ 51) ∨ (68 ≤ b ∧ b ≤ 70) ∨ (72 ≤ b ∧ b ≤ 84))) (by decide : ∀ b, b ∈ FKdm_alone 0 → ¬ (b = 1003 ∨ b = 1005 ∨ b = 1006 ∨ b = 1033 ∨ b = 1035 ∨ b = 1037 ∨ b = 1072 ∨ b = 105 ∨ b = 106 ∨ (108 ≤ b ∧ b ≤ 110) ∨ (113 ≤ b ∧ b ≤ 119) ∨ (121 ≤ b ∧ b ≤ 123) ∨ b = 148)) (by decide : ∀ b, b ∈ FPdX_alone 0 → b < 104) (by decide : ∀ b, b ∈ FKdm_alone 0 → 104 ≤ b) hk t
theorem tw_heir (k : Nat) (a1 a2 : Int32) (h : PH) (t : TWN k h) (hk : k < 512) {rX rm : Int32} {h1 h2 : PH} (e1 : mX_heir a1 a2 h = some (rX, h1)) (e2 : mm_heir a1 a2 h1 = some (rm, h2)) : TWN (k + 1) h2 := twn_cs (fpX_heir a1 a2 h e1) (fkm_heir a1 a2 h1 e2) (by decide : ∀ b, b ∈ FPdX_heir 0 0 → ¬ (b = 1 ∨ b = 2 ∨ (6 ≤ b ∧ b ≤ 17) ∨ b = 37 ∨ b = 38 ∨ (40 ≤ b ∧ b ≤ 51) ∨ (68 ≤ b ∧ b ≤ 70) ∨ (72 ≤ b ∧ b ≤ 84))) (by decide : ∀ b, b ∈ FKdm_heir 0 0 → ¬ (b = 1003 ∨ b = 1005 ∨ b = 1006 ∨ b = 1033 ∨ b = 1035 ∨ b = 1037 ∨ b = 1072 ∨ b = 105 ∨ b = 106 ∨ (108 ≤ b ∧ b ≤ 110) ∨ (113 ≤ b ∧ b ≤ 119) ∨ (121 ≤ b ∧ b ≤ 123) ∨ b = 148)) (by decide : ∀ b, b ∈ FPdX_heir 0 0 → b < 104) (by decide : ∀ b, b ∈ FKdm_heir 0 0 → 104 ≤ b) hk t
theorem tw_line (k : Nat) (a1 a2 : Int32) (h : PH) (t : TWN k h) (hk : k < 512) {rm : Int32} {h2 : PH} (e2 : mm_line a1 a2 h = some (rm, h2)) : TWN (k + 1) h2 := twn_cs (S := []) (fun _ _ => rfl) (fkm_line a1 a2 h e2) (by decide) (by decide : ∀ b, b ∈ FKdm_line 0 0 → ¬ (b = 1003 ∨ b = 1005 ∨ b = 1006 ∨ b = 1033 ∨ b = 1035 ∨ b = 1037 ∨ b = 1072 ∨ b = 105 ∨ b = 106 ∨ (108 ≤ b ∧ b ≤ 110) ∨ (113 ≤ b ∧ b ≤ 119) ∨ (121 ≤ b ∧ b ≤ 123) ∨ b = 148)) (by decide) (by decide : ∀ b, b ∈ FKdm_line 0 0 → 104 ≤ b) hk t
theorem tw_window (k : Nat) (a1 : Int32) (h : PH) (t : TWN k h) (hk : k < 512) {rm : Int32} {h2 : PH} (e2 : mm_window a1 h = some (rm, h2)) : TWN (k + 1) h2 := twn_cs (S := []) (fun _ _ => rfl) (fkm_window a1 h e2) (by decide) (by decide : ∀ b, b ∈ FKdm_window 0 → ¬ (b = 1003 ∨ b = 1005 ∨ b = 1006 ∨ b = 1033 ∨ b = 1035 ∨ b = 1037 ∨ b = 1072 ∨ b = 105 ∨ b = 106 ∨ (108 ≤ b ∧ b ≤ 110) ∨ (113 ≤ b ∧ b ≤ 119) ∨ (121 ≤ b ∧ b ≤ 123) ∨ b = 148)) (by decide) (by decide : ∀ b, b ∈ FKdm_window 0 → 104 ≤ b) hk t
theorem tw_member (k : Nat) (a1 a2 : Int32) (h : PH) (t : TWN k h) (hk : k < 512) {rX rm : Int32} {h1 h2 : PH} (e1 : mX_member a1 a2 h = some (rX, h1)) (e2 : mm_member a1 a2 h1 = some (rm, h2)) : TWN (k + 1) h2 := twn_cs (fpX_member a1 a2 h e1) (fkm_member a1 a2 h1 e2) (by decide : ∀ b, b ∈ FPdX_member 0 0 → ¬ (b = 1 ∨ b = 2 ∨ (6 ≤ b ∧ b ≤ 17) ∨ b = 37 ∨ b = 38 ∨ (40 ≤ b ∧ b ≤ 51) ∨ (68 ≤ b ∧ b ≤ 70) ∨ (72 ≤ b ∧ b ≤ 84))) (by decide : ∀ b, b ∈ FKdm_member 0 0 → ¬ (b = 1003 ∨ b = 1005 ∨ b = 1006 ∨ b = 1033 ∨ b = 1035 ∨ b = 1037 ∨ b = 1072 ∨ b = 105 ∨ b = 106 ∨ (108 ≤ b ∧ b ≤ 110) ∨ (113 ≤ b ∧ b ≤ 119) ∨ (121 ≤ b ∧ b ≤ 123) ∨ b = 148)) (by decide : ∀ b, b ∈ FPdX_member 0 0 → b < 104) (by decide : ∀ b, b ∈ FKdm_member 0 0 → 104 ≤ b) hk t
theorem tw_council (k : Nat) (a1 : Int32) (h : PH) (t : TWN k h) (hk : k < 512) {rm : Int32} {h2 : PH} (e2 : mm_council a1 h = some (rm, h2)) : TWN (k + 1) h2 := twn_cs (S := []) (fun _ _ => rfl) (fkm_council a1 h e2) (by decide) (by decide : ∀ b, b ∈ FKdm_council 0 → ¬ (b = 1003 ∨ b = 1005 ∨ b = 1006 ∨ b = 1033 ∨ b = 1035 ∨ b = 1037 ∨ b = 1072 ∨ b = 105 ∨ b = 106 ∨ (108 ≤ b ∧ b ≤ 110) ∨ (113 ≤ b ∧ b ≤ 119) ∨ (121 ≤ b ∧ b ≤ 123) ∨ b = 148)) (by decide) (by decide : ∀ b, b ∈ FKdm_council 0 → 104 ≤ b) hk t
theorem tw_game (k : Nat) (a1 a2 : Int32) (h : PH) (t : TWN k h) (hk : k < 512) {rX rm : Int32} {h1 h2 : PH} (e1 : mX_game a1 a2 h = some (rX, h1)) (e2 : mm_game a1 a2 h1 = some (rm, h2)) : TWN (k + 1) h2 := twn_cs (fpX_game a1 a2 h e1) (fkm_game a1 a2 h1 e2) (by decide : ∀ b, b ∈ FPdX_game 0 0 → ¬ (b = 1 ∨ b = 2 ∨ (6 ≤ b ∧ b ≤ 17) ∨ b = 37 ∨ b = 38 ∨ (40 ≤ b ∧ b ≤ 51) ∨ (68 ≤ b ∧ b ≤ 70) ∨ (72 ≤ b ∧ b ≤ 84))) (by decide : ∀ b, b ∈ FKdm_game 0 0 → ¬ (b = 1003 ∨ b = 1005 ∨ b = 1006 ∨ b = 1033 ∨ b = 1035 ∨ b = 1037 ∨ b = 1072 ∨ b = 105 ∨ b = 106 ∨ (108 ≤ b ∧ b ≤ 110) ∨ (113 ≤ b ∧ b ≤ 119) ∨ (121 ≤ b ∧ b ≤ 123) ∨ b = 148)) (by decide : ∀ b, b ∈ FPdX_game 0 0 → b < 104) (by decide : ∀ b, b ∈ FKdm_game 0 0 → 104 ≤ b) hk t
theorem tw_look (k : Nat) (a1 : Int32) (h : PH) (t : TWN k h) (hk : k < 512) {rm : Int32} {h2 : PH} (e2 : mm_look a1 h = some (rm, h2)) : TWN (k + 1) h2 := twn_cs (S := []) (fun _ _ => rfl) (fkm_look a1 h e2) (by decide) (by decide : ∀ b, b ∈ FKdm_look 0 → ¬ (b = 1003 ∨ b = 1005 ∨ b = 1006 ∨ b = 1033 ∨ b = 1035 ∨ b = 1037 ∨ b = 1072 ∨ b = 105 ∨ b = 106 ∨ (108 ≤ b ∧ b ≤ 110) ∨ (113 ≤ b ∧ b ≤ 119) ∨ (121 ≤ b ∧ b ≤ 123) ∨ b = 148)) (by decide) (by decide : ∀ b, b ∈ FKdm_look 0 → 104 ≤ b) hk t
end
section
/-! WHAT IS ASKED of the town: both sides answer alike -/
theorem ag_look (k : Nat) (a1 : Int32) (h : PH) (t : TWN k h) {rX rm : Int32} {h2 : PH} (e1 : mX_look a1 h = some rX) (e2 : mm_look a1 h = some (rm, h2)) : rX = rm := by
  obtain ⟨t1, t2, t3, ⟨H, N, M, u, s, Ls, t4, t5⟩, t6⟩ := id t
  have tt := tn_in (h1 := h) (fun _ _ => rfl) t4
  have pp := pkt_in (h1 := h) (fun _ _ => rfl) t5
  have fl := fun f f1 f2 => tt.1.1.2.2.2.1 f f1 f2
  have ckk : ∀ j, j < 115 → ∀ (z : Option (Int32 × PH)), ck (nI j) 115 z = z := fun j hj z => ck_nI hj (by decide)
  unfold mX_look at e1
  unfold mm_look at e2
  rw [lt_e] at e2
  by_cases c0 : a1 = 0
  · rw [if_pos c0] at e1 e2
    cases e1
    cases e2
    rw [t4.1.1.2.1]
    exact tt.1.1.2.2.1.symm
  rw [if_neg c0] at e1 e2
  by_cases c1 : a1 = 1
  · rw [if_pos c1] at e1 e2
    rw [show ck 3 115 _ = _ from ckk 3 (by decide) _, show ix (3 : Int32) = 3 from rfl] at e2
    cases e1
    cases e2
    exact fl 2 (by decide) (by decide)
  rw [if_neg c1] at e1 e2
  by_cases c2 : a1 = 2
  · rw [if_pos c2] at e1 e2
    rw [show ck 4 115 _ = _ from ckk 4 (by decide) _, show ix (4 : Int32) = 4 from rfl] at e2
    cases e1
    cases e2
    exact fl 3 (by decide) (by decide)
  rw [if_neg c2] at e1 e2
  by_cases c3 : a1 = 3
  · rw [if_pos c3] at e1 e2
    rw [show ck 5 115 _ = _ from ckk 5 (by decide) _, show ix (5 : Int32) = 5 from rfl] at e2
    cases e1
    cases e2
    exact fl 4 (by decide) (by decide)
  rw [if_neg c3] at e1 e2
  by_cases c4 : a1 = 4
  · rw [if_pos c4] at e1 e2
    rw [show ck 6 115 _ = _ from ckk 6 (by decide) _, show ix (6 : Int32) = 6 from rfl] at e2
    cases e1
    cases e2
    exact fl 5 (by decide) (by decide)
  rw [if_neg c4] at e1 e2
  by_cases c5 : a1 = 5
  · rw [if_pos c5] at e1 e2
    rw [show ck 0 115 _ = _ from ckk 0 (by decide) _, show ix (0 : Int32) = 0 from rfl] at e2
    cases e1
    cases e2
    exact fl 6 (by decide) (by decide)
  rw [if_neg c5] at e1 e2
  by_cases c6 : a1 = 6
  · rw [if_pos c6] at e1 e2
    obtain ⟨r, r1, r2⟩ := us_at tt.1.1
    rw [r1, bd_e] at e1
    rw [r2, bd_e] at e2
    cases e1
    cases e2
    rfl
  rw [if_neg c6] at e1 e2
  by_cases c7 : a1 = 7
  · rw [if_pos c7] at e1 e2
    rw [show ck 2 115 _ = _ from ckk 2 (by decide) _, show ix (2 : Int32) = 2 from rfl] at e2
    cases e1
    cases e2
    obtain ⟨n, n1, n2, n3, n4, n5, _⟩ := tt.1.2.2.1
    rw [n4, n5]
  rw [if_neg c7] at e1 e2
  by_cases c8 : a1 = 8
  · rw [if_pos c8] at e1 e2
    rw [show ck 1 115 _ = _ from ckk 1 (by decide) _, show ix (1 : Int32) = 1 from rfl] at e2
    cases e1
    cases e2
    exact fl 7 (by decide) (by decide)
  rw [if_neg c8] at e1 e2
  by_cases c9 : a1 = 9
  · rw [if_pos c9] at e1 e2
    rw [show ck 0 2 _ = _ from ck_nI (i := 0) (by decide) (by decide), show ix (0 : Int32) = 0 from rfl] at e2
    cases e1
    cases e2
    rw [tt.1.2.1.2.2.2.1.2.1]
    exact tt.1.2.1.2.2.2.2.1.symm
  rw [if_neg c9] at e1 e2
  by_cases c10 : a1 = 10
  · rw [if_pos c10] at e1 e2
    cases e1
    cases e2
    rw [tt.2.1.2.2.1]
    exact tt.2.1.2.2.2.1.symm
  rw [if_neg c10] at e1 e2
  by_cases c11 : a1 = 11
  · rw [if_pos c11] at e1 e2
    cases e1
    cases e2
    rw [tt.2.2.1.2.2.1]
    exact tt.2.2.1.2.2.2.1.symm
  rw [if_neg c11] at e1 e2
  by_cases c12 : a1 = 12
  · rw [if_pos c12] at e1 e2
    cases e1
    cases e2
    exact tt.2.2.2
  rw [if_neg c12] at e1 e2
  by_cases c13 : a1 = 13
  · rw [if_pos c13] at e1 e2
    cases e1
    cases e2
    rw [pp.2.2.2.1]
    exact pp.2.2.2.2.1.symm
  rw [if_neg c13] at e1 e2
  cases e1
  cases e2
  rfl
theorem at_16 {h : PH} {m r c : Nat} (c1 : h 16 1 = 4) (c3 : h 16 3 = nI m) (hm : m ≤ 150) (hr : r < m) (hc : c < 4) : mR_at 16 (nI r) (nI c) h = some (h 17 (4 * r + c)) := by
  unfold mR_at
  rw [if_neg (nI_pos (by omega)), c3, if_neg (nI_ge hr (by omega)), if_neg (nI_pos (by omega)), c1, if_pos (show nI c < (4 : Int32) from nI_lt (b := 4) hc (by decide)), show nI r * (4 : Int32) = nI (r * 4) from nI_mul r 4, nI_add, show ln (16 + 1) = 600 from rfl, ck_nI (by omega) (by decide), show ix (nI (r * 4 + c)) = r * 4 + c from nI_clamp (by omega), Nat.mul_comm r 4]
theorem ag_book (k : Nat) (a1 a2 : Int32) (h : PH) (t : TWN k h) {rX rm : Int32} {h2 : PH} (e1 : mX_book a1 a2 h = some rX) (e2 : mm_book a1 a2 h = some (rm, h2)) : rX = rm := by
  obtain ⟨t1, t2, t3, ⟨H, N, M, u, s, Ls, t4, t5⟩, t6⟩ := id t
  have tt := tn_in (h1 := h) (fun _ _ => rfl) t4
  obtain ⟨n, n1, n2, n3, n4, n5, n6, _⟩ := tt.1.2.2.1
  have z0 : (0 : Int32).toInt = 0 := rfl
  unfold mX_book at e1
  unfold mm_book at e2
  rw [lt_e, show ck 2 115 _ = _ from ck_nI (i := 2) (by decide) (by decide), show ix (2 : Int32) = 2 from rfl, n5] at e2
  rw [n4] at e1
  by_cases c : a1 < 0
  · rw [if_pos c] at e1
    rw [isIn_n (fun y => absurd c (Int32.not_lt.mpr y.1)), bd_e, if_pos rfl] at e2
    cases e1
    cases e2
    rfl
  · rw [if_neg c] at e1
    by_cases d : nI n ≤ a1
    · rw [if_pos d] at e1
      rw [isIn_n (fun y => ?_), bd_e, if_pos rfl] at e2
      · cases e1
        cases e2
        rfl
      · by_cases q : n = 0
        · rw [q] at y
          have := y.2
          rw [Int32.le_iff_toInt_le, show (nI 0 - 1 : Int32).toInt = -1 from rfl] at this
          rw [Int32.lt_iff_toInt_lt, z0] at c
          omega
        · have y2 := y.2
          rw [show nI n - 1 = nI (n - 1) by have := nI_pred (n - 1); rw [show n - 1 + 1 = n by omega] at this; exact this] at y2
          rw [Int32.le_iff_toInt_le, nI_toInt (by omega)] at y2 d
          omega
    · rw [if_neg d] at e1
      obtain ⟨r, r1, r2, er⟩ := nat_of (a := 0) (b := 150) (x := a1) ⟨by rw [Int32.lt_iff_toInt_lt, z0] at c; omega, by rw [Int32.le_iff_toInt_le, nI_toInt (show n < 2 ^ 31 by omega)] at d; omega⟩ (by decide)
      subst er
      have hr : r < n := by
        rw [Int32.le_iff_toInt_le, nI_toInt (by omega), nI_toInt (by omega)] at d
        omega
      rw [isIn_y (show (0 : Int32) ≤ nI r ∧ nI r ≤ nI n - 1 from ⟨nI_pos' (by omega), by
        rw [show nI n - 1 = nI (n - 1) by have := nI_pred (n - 1); rw [show n - 1 + 1 = n by omega] at this; exact this]
        exact nI_le (by omega) (by omega)⟩), bd_e, if_neg no10] at e2
      by_cases f : 0 ≤ a2 ∧ a2 ≤ 3
      · obtain ⟨c, cx, c2, ec⟩ := nat_of (rng_of (x := 0) (y := 3) rfl rfl f) (by decide)
        subst ec
        rw [within_y f, bd_e, if_neg no10, at_16 n3 n4 n1 hr (show c < 4 by omega), bd_e] at e1
        rw [isIn_y f, bd_e, if_neg no10, show (4 : Int32) * nI r = nI (4 * r) from nI_mul 4 r, nI_add, ck_nI (show 4 * r + c < 600 by omega) (by decide), show ix (nI (4 * r + c)) = 4 * r + c from nI_clamp (by omega)] at e2
        cases e1
        cases e2
        exact n6 _ (by omega)
      · rw [within_n f, bd_e, if_pos rfl] at e1
        rw [isIn_n f, bd_e, if_pos rfl] at e2
        cases e1
        cases e2
        rfl
theorem ag_of (k : Nat) (a1 a2 : Int32) (h : PH) (t : TWN k h) {rX rm : Int32} {h1 h2 : PH} (e1 : mX_of a1 a2 h = some (rX, h1)) (e2 : mm_of a1 a2 h1 = some (rm, h2)) (cs : CS h h1 h2) : rX = rm := by
  have xx := cs.2.2.2.1
  obtain ⟨t1, t2, t3, ⟨H, N, M, u, s, Ls, t4, t5⟩, t6⟩ := id t
  have tt := tn_in xx t4
  have h12 : H ≤ 12 := t4.1.1.1
  unfold mX_of at e1
  unfold mm_of at e2
  rw [lt_e, hs_m h (up h1 104 0 0) H t4.1.1.2.1 tt.1.1.2.2.1 a1] at e2
  rcases hs_c h H t4.1.1.2.1 h12 a1 with ⟨i, hi, ei, hh⟩ | ⟨_, hh⟩
  · rw [hh, bd_e, if_neg no10] at e1 e2
    subst ei
    have col := colM tt.1.1 hi
    by_cases f : 0 ≤ a2 ∧ a2 ≤ 10
    · obtain ⟨c, cx, c2, ec⟩ := nat_of (rng_of (x := 0) (y := 10) rfl rfl f) (by decide)
      subst ec
      rw [within_y f, bd_e, if_neg no10, rdB t4.1.1 hi (show c < 11 by omega), bd_e] at e1
      cases e1
      by_cases w4 : c < 4
      · rw [isIn_y (show (0 : Int32) ≤ nI c ∧ nI c ≤ 3 from ⟨nI_pos' (by omega), nI_le (b := 3) (by omega) (by decide)⟩), bd_e, if_neg no10, wlM tt.1.1 hi w4, bd_e] at e2
        cases e2
        rfl
      · rw [isIn_n (show ¬ ((0 : Int32) ≤ nI c ∧ nI c ≤ (3 : Int32)) from fun y => absurd ((nI_leI (b := 3) (by omega) (by decide)).mp y.2) (by omega)), bd_e, if_pos rfl, isIn_n (show ¬ ((20 : Int32) ≤ nI c ∧ nI c ≤ (23 : Int32)) from fun y => absurd ((nI_leI (a := 20) (by decide) (by omega)).mp y.1) (by omega)), bd_e, if_pos rfl, isIn_n (show ¬ ((30 : Int32) ≤ nI c ∧ nI c ≤ (33 : Int32)) from fun y => absurd ((nI_leI (a := 30) (by decide) (by omega)).mp y.1) (by omega)), bd_e, if_pos rfl] at e2
        have cc : c = 4 ∨ c = 5 ∨ c = 6 ∨ c = 7 ∨ c = 8 ∨ c = 9 ∨ c = 10 := by omega
        rcases cc with z | z | z | z | z | z | z <;> subst z
        · rw [if_pos (show nI 4 = (4 : Int32) from rfl), ck_nI (show i < 12 by omega) (by decide), show ix (nI i) = i from nI_clamp (by omega)] at e2
          cases e2
          exact col.1.symm
        · rw [if_neg (show ¬ nI 5 = (4 : Int32) by decide), if_pos (show nI 5 = (5 : Int32) from rfl), ck_nI (show i < 12 by omega) (by decide), show ix (nI i) = i from nI_clamp (by omega)] at e2
          cases e2
          exact col.2.1.symm
        · rw [if_neg (show ¬ nI 6 = (4 : Int32) by decide), if_neg (show ¬ nI 6 = (5 : Int32) by decide), if_pos (show nI 6 = (6 : Int32) from rfl), show (55 : Int32) + nI i = nI (55 + i) from nI_add 55 i, ck_nI (show 55 + i < 115 by omega) (by decide), show ix (nI (55 + i)) = 55 + i from nI_clamp (by omega)] at e2
          cases e2
          exact col.2.2.1.symm
        · rw [if_neg (show ¬ nI 7 = (4 : Int32) by decide), if_neg (show ¬ nI 7 = (5 : Int32) by decide), if_neg (show ¬ nI 7 = (6 : Int32) by decide), if_pos (show nI 7 = (7 : Int32) from rfl), show (79 : Int32) + nI i = nI (79 + i) from nI_add 79 i, ck_nI (show 79 + i < 115 by omega) (by decide), show ix (nI (79 + i)) = 79 + i from nI_clamp (by omega)] at e2
          cases e2
          exact col.2.2.2.1.symm
        · rw [if_neg (show ¬ nI 8 = (4 : Int32) by decide), if_neg (show ¬ nI 8 = (5 : Int32) by decide), if_neg (show ¬ nI 8 = (6 : Int32) by decide), if_neg (show ¬ nI 8 = (7 : Int32) by decide), if_pos (show nI 8 = (8 : Int32) from rfl), show (67 : Int32) + nI i = nI (67 + i) from nI_add 67 i, ck_nI (show 67 + i < 115 by omega) (by decide), show ix (nI (67 + i)) = 67 + i from nI_clamp (by omega)] at e2
          cases e2
          exact col.2.2.2.2.1.symm
        · rw [if_neg (show ¬ nI 9 = (4 : Int32) by decide), if_neg (show ¬ nI 9 = (5 : Int32) by decide), if_neg (show ¬ nI 9 = (6 : Int32) by decide), if_neg (show ¬ nI 9 = (7 : Int32) by decide), if_neg (show ¬ nI 9 = (8 : Int32) by decide), if_pos (show nI 9 = (9 : Int32) from rfl), show (91 : Int32) + nI i = nI (91 + i) from nI_add 91 i, ck_nI (show 91 + i < 115 by omega) (by decide), show ix (nI (91 + i)) = 91 + i from nI_clamp (by omega)] at e2
          cases e2
          exact col.2.2.2.2.2.1.symm
        · rw [if_neg (show ¬ nI 10 = (4 : Int32) by decide), if_neg (show ¬ nI 10 = (5 : Int32) by decide), if_neg (show ¬ nI 10 = (6 : Int32) by decide), if_neg (show ¬ nI 10 = (7 : Int32) by decide), if_neg (show ¬ nI 10 = (8 : Int32) by decide), if_neg (show ¬ nI 10 = (9 : Int32) by decide), if_pos (show nI 10 = (10 : Int32) from rfl), show (103 : Int32) + nI i = nI (103 + i) from nI_add 103 i, ck_nI (show 103 + i < 115 by omega) (by decide), show ix (nI (103 + i)) = 103 + i from nI_clamp (by omega)] at e2
          cases e2
          exact (col.2.2.2.2.2.2 trivial).symm
    · rw [within_n f, bd_e, if_pos rfl] at e1
      by_cases c11 : a2 = 11
      · subst c11
        obtain ⟨b1, b2, b3⟩ := th_at tt.1.1 hi
        obtain ⟨v, g1, g2, v1, v2, v3, v4, v5⟩ := te_rent tt.1.2.1 tt.1.1 hi b3 b2
        rw [if_pos rfl, b1, bd_e, v2, bd2_e] at e1
        rw [isIn_n (show ¬ ((0 : Int32) ≤ 11 ∧ (11 : Int32) ≤ 3) by decide), bd_e, if_pos rfl, isIn_n (show ¬ ((20 : Int32) ≤ 11 ∧ (11 : Int32) ≤ 23) by decide), bd_e, if_pos rfl, isIn_n (show ¬ ((30 : Int32) ≤ 11 ∧ (11 : Int32) ≤ 33) by decide), bd_e, if_pos rfl, if_neg (show ¬ (11 : Int32) = 4 by decide), if_neg (show ¬ (11 : Int32) = 5 by decide), if_neg (show ¬ (11 : Int32) = 6 by decide), if_neg (show ¬ (11 : Int32) = 7 by decide), if_neg (show ¬ (11 : Int32) = 8 by decide), if_neg (show ¬ (11 : Int32) = 9 by decide), if_neg (show ¬ (11 : Int32) = 10 by decide), if_pos rfl, v3, bd2_e] at e2
        cases e1
        cases e2
        rfl
      · rw [if_neg c11] at e1
        by_cases c12 : a2 = 12
        · subst c12
          rw [if_pos rfl, tt.1.2.2.2.1 i (by omega), bd_e] at e1
          rw [isIn_n (show ¬ ((0 : Int32) ≤ 12 ∧ (12 : Int32) ≤ 3) by decide), bd_e, if_pos rfl, isIn_n (show ¬ ((20 : Int32) ≤ 12 ∧ (12 : Int32) ≤ 23) by decide), bd_e, if_pos rfl, isIn_n (show ¬ ((30 : Int32) ≤ 12 ∧ (12 : Int32) ≤ 33) by decide), bd_e, if_pos rfl, if_neg (show ¬ (12 : Int32) = 4 by decide), if_neg (show ¬ (12 : Int32) = 5 by decide), if_neg (show ¬ (12 : Int32) = 6 by decide), if_neg (show ¬ (12 : Int32) = 7 by decide), if_neg (show ¬ (12 : Int32) = 8 by decide), if_neg (show ¬ (12 : Int32) = 9 by decide), if_neg (show ¬ (12 : Int32) = 10 by decide), if_neg (show ¬ (12 : Int32) = 11 by decide), if_pos rfl, ck_nI (show i < 24 by omega) (by decide), show ix (nI i) = i from nI_clamp (by omega)] at e2
          cases e1
          cases e2
          rfl
        · rw [if_neg c12] at e1
          have nf : ¬ (0 ≤ a2 ∧ a2 ≤ 3) := fun y => f ⟨y.1, Int32.le_trans y.2 (by decide)⟩
          rw [isIn_n nf, bd_e, if_pos rfl] at e2
          by_cases g : 20 ≤ a2 ∧ a2 ≤ 23
          · obtain ⟨v, vx, v2, ev⟩ := nat_of (rng_of (x := 20) (y := 23) rfl rfl g) (by decide)
            subst ev
            have v20 : 20 ≤ v := (nI_leI (a := 20) (by decide) (by omega)).mp g.1
            have sb : nI v - (20 : Int32) = nI (v - 20) := nI_sub (b := 20) v20
            obtain ⟨x, g1, g2, x1, x2, x3, _⟩ := te_gnaw tt.1.2.1 tt.1.1 hi (show v - 20 < 4 by omega)
            rw [within_y g, bd_e, if_neg no10, sb, x2, bd2_e] at e1
            rw [isIn_y g, bd_e, if_neg no10, sb, x3, bd2_e] at e2
            cases e1
            cases e2
            rfl
          · rw [within_n g, bd_e, if_pos rfl] at e1
            rw [isIn_n g, bd_e, if_pos rfl] at e2
            by_cases q : 30 ≤ a2 ∧ a2 ≤ 33
            · obtain ⟨v, vx, v2, ev⟩ := nat_of (rng_of (x := 30) (y := 33) rfl rfl q) (by decide)
              subst ev
              have v30 : 30 ≤ v := (nI_leI (a := 30) (by decide) (by omega)).mp q.1
              have sb : nI v - (30 : Int32) = nI (v - 30) := nI_sub (b := 30) v30
              obtain ⟨x, g1, g2, x1, x2, x3, _⟩ := te_melt tt.1.2.1 tt.1.1 hi (show v - 30 < 4 by omega)
              rw [within_y q, bd_e, if_neg no10, sb, x2, bd2_e] at e1
              rw [isIn_y q, bd_e, if_neg no10, sb, x3, bd2_e] at e2
              cases e1
              cases e2
              rfl
            · rw [within_n q, bd_e, if_pos rfl] at e1
              have nn : ∀ d, d ≤ 10 → 4 ≤ d → ¬ a2 = nI d := fun d hd _ y => f (by rw [y]; exact ⟨nI_pos' (by omega), nI_le (b := 10) (by omega) (by decide)⟩)
              rw [isIn_n q, bd_e, if_pos rfl, if_neg (show ¬ a2 = (4 : Int32) from nn 4 (by decide) (by decide)), if_neg (show ¬ a2 = (5 : Int32) from nn 5 (by decide) (by decide)), if_neg (show ¬ a2 = (6 : Int32) from nn 6 (by decide) (by decide)), if_neg (show ¬ a2 = (7 : Int32) from nn 7 (by decide) (by decide)), if_neg (show ¬ a2 = (8 : Int32) from nn 8 (by decide) (by decide)), if_neg (show ¬ a2 = (9 : Int32) from nn 9 (by decide) (by decide)), if_neg (show ¬ a2 = (10 : Int32) from nn 10 (by decide) (by decide)), if_neg c11, if_neg c12] at e2
              cases e1
              cases e2
              rfl
  · rw [hh, bd_e, if_pos rfl] at e1 e2
    cases e1
    cases e2
    rfl
end
