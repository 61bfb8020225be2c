/-! WHAT A TEXT LEFT: its rows, on both sides -/
def SR (r : Nat) (gc gm : PH) : Prop := ∀ q, q < r → ∃ a w n, a ≤ 999 ∧ 1 ≤ w ∧ w ≤ 3 ∧ n ≤ 9 ∧ gc 92 (5 * q) = nI a ∧ gc 92 (5 * q + 1) = nI w ∧ gc 92 (5 * q + 2) = nI n ∧ gm 121 (48 + 3 * q) = nI a ∧ gm 121 (48 + 3 * q + 1) = nI (w - 1) ∧ gm 121 (48 + 3 * q + 2) = nI n
theorem sr_s {r : Nat} {hc hm gc gm : PH} (s : SR r hc hm) (q : SKQ r hm gc gm) (f : FL r hc gc) : SR (r + 1) gc gm := fun k hk => by
  by_cases z : k = r
  · subst z
    exact q.1
  · obtain ⟨a, w, n, a1, a2, a3, a4, b1, b2, b3, b4, b5, b6⟩ := s k (by omega)
    exact ⟨a, w, n, a1, a2, a3, a4, by rw [f.2.2 _ (by omega)]; exact b1, by rw [f.2.2 _ (by omega)]; exact b2, by rw [f.2.2 _ (by omega)]; exact b3, by rw [q.2 _ (by omega)]; exact b4, by rw [q.2 _ (by omega)]; exact b5, by rw [q.2 _ (by omega)]; exact b6⟩
def ORr (H r : Nat) (gc gm : PH) : Prop := ∀ k, k < r → ∃ q w h l n, q ≤ 999 ∧ 1 ≤ w ∧ w ≤ 4 ∧ h < H ∧ l ≤ 3 ∧ n ≤ 99 ∧ (gc 92 (5 * k) = nI q ∧ gc 92 (5 * k + 1) = nI w ∧ gc 92 (5 * k + 2) = nI h ∧ gc 92 (5 * k + 3) = nI l ∧ gc 92 (5 * k + 4) = nI n) ∧ gm 122 (80 + 5 * k) = nI q ∧ gm 122 (80 + 5 * k + 1) = nI (w - 1) ∧ gm 122 (80 + 5 * k + 2) = nI h ∧ gm 122 (80 + 5 * k + 3) = nI l ∧ gm 122 (80 + 5 * k + 4) = nI n
theorem or_s {H r : Nat} {hc hm gc gm : PH} (s : ORr H r hc hm) (q : OFQ H r hm gc gm) (f : FL r hc gc) : ORr H (r + 1) gc gm := fun k hk => by
  by_cases z : k = r
  · subst z
    exact q.1
  · obtain ⟨a, w, h, l, n, a1, a2, a3, a4, a5, a6, ⟨b1, b2, b3, b4, b5⟩, c1, c2, c3, c4, c5⟩ := s k (by omega)
    exact ⟨a, w, h, l, n, a1, a2, a3, a4, a5, a6, ⟨by rw [f.2.2 _ (by omega)]; exact b1, by rw [f.2.2 _ (by omega)]; exact b2, by rw [f.2.2 _ (by omega)]; exact b3, by rw [f.2.2 _ (by omega)]; exact b4, by rw [f.2.2 _ (by omega)]; exact b5⟩, by rw [q.2 _ (by omega)]; exact c1, by rw [q.2 _ (by omega)]; exact c2, by rw [q.2 _ (by omega)]; exact c3, by rw [q.2 _ (by omega)]; exact c4, by rw [q.2 _ (by omega)]; exact c5⟩
/-- who is next to house k, by r rows -/
def nxS (x y : Int32) (k : Nat) (v : Int32) : Int32 := if y = nI k then (if x = nI k then v ||| (1 <<< (y &&& 31)) else v) ||| (1 <<< (x &&& 31)) else (if x = nI k then v ||| (1 <<< (y &&& 31)) else v)
def nxF (X : Nat → Int32) (k : Nat) : Nat → Int32
  | 0 => 0
  | r + 1 => nxS (X (5 * r)) (X (5 * r + 1)) k (nxF X k r)
theorem nxF_x {X Y : Nat → Int32} {k : Nat} : ∀ r, (∀ j, j < 5 * r → Y j = X j) → nxF Y k r = nxF X k r := by
  intro r
  induction r with
  | zero => intro _; rfl
  | succ r ih => intro e; rw [nxF, nxF, ih (fun j hj => e j (by omega)), e _ (by omega), e _ (by omega)]
def NR (r : Nat) (gc gm : PH) : Prop := (∀ k, k < 12 → gm 123 (12 + k) = nxF (gc 92) k r) ∧ ∀ q, q < r → ∃ a b, a < 12 ∧ b < 12 ∧ gc 92 (5 * q) = nI a ∧ gc 92 (5 * q + 1) = nI b
theorem nr_s {r : Nat} {hc hm gc gm : PH} (s : NR r hc hm) (q : NXQ r hm gc gm) (f : FL r hc gc) : NR (r + 1) gc gm := by
  obtain ⟨a, b, a1, b1, e1, e2, e3⟩ := q
  refine ⟨fun k hk => ?_, fun q hq => ?_⟩
  rotate_left
  · by_cases z : q = r
    · subst z
      exact ⟨a, b, by omega, by omega, e1, e2⟩
    · obtain ⟨x, y, x1, y1, ex, ey⟩ := s.2 q (by omega)
      exact ⟨x, y, x1, y1, by rw [f.2.2 _ (by omega)]; exact ex, by rw [f.2.2 _ (by omega)]; exact ey⟩
  rw [nxF, nxF_x r (fun j hj => f.2.2 j hj), ← s.1 k hk, e1, e2, e3]
  unfold nxS
  have eb : (nI b = nI k) = (b = k) := propext ⟨fun z => (nI_eq (by omega) (by omega)).mp z, fun z => by rw [z]⟩
  have ea : (nI a = nI k) = (a = k) := propext ⟨fun z => (nI_eq (by omega) (by omega)).mp z, fun z => by rw [z]⟩
  by_cases zb : b = k
  · rw [if_pos (by rw [zb])]
    subst zb
    rw [up_same]
    by_cases za : a = b
    · rw [if_pos (by rw [za])]
      subst za
      rw [up_same]
    · rw [if_neg (fun y => za ((nI_eq (by omega) (by omega)).mp y)), up_oj (by omega)]
  · rw [if_neg (fun y => zb ((nI_eq (by omega) (by omega)).mp y)), up_oj (by omega)]
    by_cases za : a = k
    · rw [if_pos (by rw [za])]
      subst za
      rw [up_same]
    · rw [if_neg (fun y => za ((nI_eq (by omega) (by omega)).mp y)), up_oj (by omega)]
def LR (r : Nat) (gc gm : PH) : Prop := ∃ Ls : LNS, Ls.length = r ∧ LCl Ls gc ∧ LMl Ls gm ∧ LQ Ls ∧ CC (cdo Ls) gc ∧ MC (xp (cdo Ls)) gm ∧ (xp (cdo Ls)).length ≤ 400
def TQS (s H r : Nat) (gc gm : PH) : Prop := (s = 0 → LR r gc gm) ∧ (s = 1 → SR r gc gm) ∧ (s = 2 → ORr H r gc gm) ∧ (s = 3 → NR r gc gm)
def TXQ (Q : Nat → PH → PH → Prop) (rc rm : Option (Int32 × PH)) : Prop := (∃ r gc gm, r ≤ 16 ∧ rc = some (1, gc) ∧ rm = some (nI r, gm) ∧ CR r gc ∧ Q r gc gm) ∨ ∃ gc gm, rc = some (0, gc) ∧ rm = some (-1, gm)
theorem txq_err {Q : Nat → PH → PH → Prop} {s : Nat} {B : Nat → Nat} {L N i w : Nat} {C : List (Nat × Nat)} {hc hm : PH} (j : JJ s B L N i w C hc hm) (p : Int32) : TXQ Q (refC p hc) (bd2 (mm_errs p hm) fun r h => some (r, h)) := by
  obtain ⟨gc, gm, r1, r2, r3, r4, r5⟩ := j_ref j p
  unfold refC
  rw [r1, bd2_e, r2, bd2_e]
  exact Or.inr ⟨gc, gm, rfl, rfl⟩
theorem lq_sky {B : Nat → Nat} {L N H : Nat} : ∀ (n nM r i : Nat) (hc hm : PH), 17 < n + r → 17 < nM + r → r ≤ 16 → JJ 1 B L N i 0 [] hc hm → CR r hc → HH H hc hm → SR r hc hm → TXQ SR (mD_reads_L43 (nI 1) (refC 1) (refC 3) n (nI r) hc) (mm_readSky_L2 ka3 kEnd nM (nI r) hm) := by
  intro n
  induction n with
  | zero => intro nM r i hc hm h1 h2 h3; omega
  | succ n ih =>
    intro nM r i hc hm h1 h2 h3 j cr hh sr
    cases nM with
    | zero => omega
    | succ nM =>
    rw [mm_readSky_L2]
    by_cases x : (tt B L i).1 = 2 ∧ (tt B L i).2 = 19
    · obtain ⟨c1, c2⟩ := c_line (s := 1) (by decide) (by decide) j.1 x
      rw [r43_go (s := 1) (w := 0) (by decide) h3 c1 c2 (Nat.zero_le _), show mm_isWord 19 hm = some 1 from m_w1 (x := 19) j.2.1 x (by decide), bd_e, if_neg no10]
      by_cases c16 : r = 16
      · rw [if_pos c16, if_pos (show nI r = (16 : Int32) by rw [c16]; rfl)]
        exact txq_err j 3
      · rw [if_neg c16, if_neg (show ¬ nI r = (16 : Int32) from fun z => c16 ((nI_eq (b := 16) (by omega) (by decide)).mp z)), show (48 : Int32) + 3 * nI r = nI (48 + 3 * r) by rw [show (3 : Int32) * nI r = nI (3 * r) from nI_mul 3 r]; exact nI_add 48 _, show lfn 1 hc = _ from rfl]
        rcases sk_sim j cr (by omega) x with ⟨i2, gc, gm, a1, a2, a3, a4, a5, a6, a7⟩ | ⟨gc, gm, a1, a2, a3⟩
        · have hm6 : gm 104 6 = hm 104 6 := fkm_readSkyLine _ hm a3 104 6 (show kk 104 6 ∉ FKdm_readSkyLine _ from (by decide : 1006 ∉ FKdm_readSkyLine 0))
          rw [show lfn 1 hc = some (1, gc) from a2, bd2_e, if_neg no10, a3, bd2_e, if_neg (show ¬ (0 : Int32) = -1 by decide), lt_e, nI_1]
          exact ih nM (r + 1) i2 gc gm (by omega) (by omega) (by omega) a4 a5 (hh_t hh a7.2.1 hm6) (sr_s sr a6 a7)
        · rw [show lfn 1 hc = some (0, gc) from a1, bd2_e, if_pos rfl, a2, bd2_e, if_pos rfl]
          exact Or.inr ⟨gc, gm, rfl, rfl⟩
    · rw [show mm_isWord 19 hm = some 0 from m_w0 (x := 19) j.2.1 x (by decide), bd_e, if_pos rfl]
      unfold kEnd
      by_cases c0 : (tt B L i).1 = 0
      · rw [r43_0 h3 ((c_k0 j.1).mpr c0), if_pos ((m_k0 j.2.1).mpr c0)]
        exact Or.inl ⟨r, hc, hm, h3, rfl, rfl, cr, sr⟩
      · rw [r43_bad (s := 1) (by decide) h3 (fun z => c0 ((c_k0 j.1).mp z)) (c_noline (by decide) (by decide) j.1 x), if_neg (fun z => c0 ((m_k0 j.2.1).mp z))]
        exact txq_err j 1
theorem lq_office {B : Nat → Nat} {L N H : Nat} : ∀ (n nM r i : Nat) (hc hm : PH), 17 < n + r → 17 < nM + r → r ≤ 16 → JJ 2 B L N i 0 [] hc hm → CR r hc → HH H hc hm → ORr H r hc hm → TXQ (ORr H) (mD_reads_L43 (nI 2) (refC 1) (refC 3) n (nI r) hc) (mm_readOffice_L2 ka3 kEnd nM (nI r) hm) := by
  intro n
  induction n with
  | zero => intro nM r i hc hm h1 h2 h3; omega
  | succ n ih =>
    intro nM r i hc hm h1 h2 h3 j cr hh sr
    cases nM with
    | zero => omega
    | succ nM =>
    rw [mm_readOffice_L2]
    by_cases x : (tt B L i).1 = 2 ∧ (tt B L i).2 = 19
    · obtain ⟨c1, c2⟩ := c_line (s := 2) (by decide) (by decide) j.1 x
      rw [r43_go (s := 2) (w := 0) (by decide) h3 c1 c2 (Nat.zero_le _), show mm_isWord 19 hm = some 1 from m_w1 (x := 19) j.2.1 x (by decide), bd_e, if_neg no10]
      by_cases c16 : r = 16
      · rw [if_pos c16, if_pos (show nI r = (16 : Int32) by rw [c16]; rfl)]
        exact txq_err j 3
      · rw [if_neg c16, if_neg (show ¬ nI r = (16 : Int32) from fun z => c16 ((nI_eq (b := 16) (by omega) (by decide)).mp z)), show (80 : Int32) + 5 * nI r = nI (80 + 5 * r) by rw [show (5 : Int32) * nI r = nI (5 * r) from nI_mul 5 r]; exact nI_add 80 _, show lfn 2 hc = _ from rfl]
        rcases of_sim j cr (by omega) hh x with ⟨i2, gc, gm, a1, a2, a3, a4, a5, a6, a7⟩ | ⟨gc, gm, a1, a2, a3⟩
        · have hm6 : gm 104 6 = hm 104 6 := fkm_readDeed _ hm a3 104 6 (show kk 104 6 ∉ FKdm_readDeed _ from (by decide : 1006 ∉ FKdm_readDeed 0))
          rw [show lfn 2 hc = some (1, gc) from a2, bd2_e, if_neg no10, a3, bd2_e, if_neg (show ¬ (0 : Int32) = -1 by decide), lt_e, nI_1]
          exact ih nM (r + 1) i2 gc gm (by omega) (by omega) (by omega) a4 a5 (hh_t hh a7.2.1 hm6) (or_s sr a6 a7)
        · rw [show lfn 2 hc = some (0, gc) from a1, bd2_e, if_pos rfl, a2, bd2_e, if_pos rfl]
          exact Or.inr ⟨gc, gm, rfl, rfl⟩
    · rw [show mm_isWord 19 hm = some 0 from m_w0 (x := 19) j.2.1 x (by decide), bd_e, if_pos rfl]
      unfold kEnd
      by_cases c0 : (tt B L i).1 = 0
      · rw [r43_0 h3 ((c_k0 j.1).mpr c0), if_pos ((m_k0 j.2.1).mpr c0)]
        exact Or.inl ⟨r, hc, hm, h3, rfl, rfl, cr, sr⟩
      · rw [r43_bad (s := 2) (by decide) h3 (fun z => c0 ((c_k0 j.1).mp z)) (c_noline (by decide) (by decide) j.1 x), if_neg (fun z => c0 ((m_k0 j.2.1).mp z))]
        exact txq_err j 1
theorem lq_next {B : Nat → Nat} {L N H : Nat} : ∀ (n nM r i : Nat) (hc hm : PH), 17 < n + r → 17 < nM + r → r ≤ 16 → JJ 3 B L N i 0 [] hc hm → CR r hc → HH H hc hm → NR r hc hm → TXQ NR (mD_reads_L43 (nI 3) (refC 1) (refC 3) n (nI r) hc) (mm_readNexts_L26 ka3 kEnd nM (nI r) hm) := by
  intro n
  induction n with
  | zero => intro nM r i hc hm h1 h2 h3; omega
  | succ n ih =>
    intro nM r i hc hm h1 h2 h3 j cr hh sr
    cases nM with
    | zero => omega
    | succ nM =>
    rw [mm_readNexts_L26]
    by_cases x : (tt B L i).1 = 2 ∧ (tt B L i).2 = 25
    · obtain ⟨c1, c2⟩ := c_line (s := 3) (by decide) (by decide) j.1 x
      rw [r43_go (s := 3) (w := 0) (by decide) h3 c1 c2 (Nat.zero_le _), show mm_isWord 25 hm = some 1 from m_w1 (x := 25) j.2.1 x (by decide), bd_e, if_neg no10]
      by_cases c16 : r = 16
      · rw [if_pos c16, if_pos (show nI r = (16 : Int32) by rw [c16]; rfl)]
        exact txq_err j 3
      · rw [if_neg c16, if_neg (show ¬ nI r = (16 : Int32) from fun z => c16 ((nI_eq (b := 16) (by omega) (by decide)).mp z)), show lfn 3 hc = _ from rfl]
        rcases nx_sim j cr (by omega) hh x with ⟨i2, gc, gm, a1, a2, a3, a4, a5, a6, a7⟩ | ⟨gc, gm, a1, a2, a3⟩
        · have hm6 : gm 104 6 = hm 104 6 := fkm_readNext hm a3 104 6 (show kk 104 6 ∉ FKdm_readNext from (by decide : 1006 ∉ FKdm_readNext))
          rw [show lfn 3 hc = some (1, gc) from a2, bd2_e, if_neg no10, a3, bd2_e, if_neg (show ¬ (0 : Int32) = -1 by decide), lt_e, nI_1]
          exact ih nM (r + 1) i2 gc gm (by omega) (by omega) (by omega) a4 a5 (hh_t hh a7.2.1 hm6) (nr_s sr a6 a7)
        · rw [show lfn 3 hc = some (0, gc) from a1, bd2_e, if_pos rfl, a2, bd2_e, if_pos rfl]
          exact Or.inr ⟨gc, gm, rfl, rfl⟩
    · rw [show mm_isWord 25 hm = some 0 from m_w0 (x := 25) j.2.1 x (by decide), bd_e, if_pos rfl]
      unfold kEnd
      by_cases c0 : (tt B L i).1 = 0
      · rw [r43_0 h3 ((c_k0 j.1).mpr c0), if_pos ((m_k0 j.2.1).mpr c0)]
        exact Or.inl ⟨r, hc, hm, h3, rfl, rfl, cr, sr⟩
      · rw [r43_bad (s := 3) (by decide) h3 (fun z => c0 ((c_k0 j.1).mp z)) (c_noline (by decide) (by decide) j.1 x), if_neg (fun z => c0 ((m_k0 j.2.1).mp z))]
        exact txq_err j 1
theorem lq_law {B : Nat → Nat} {L N : Nat} : ∀ (n nM r i : Nat) (Ls : List (Nat × List (Nat × Nat) × List (Nat × Nat))) (hc hm : PH), 17 < n + r → 17 < nM + r → r ≤ 16 → JL 0 B L N i (cdo Ls) r hc hm → Ls.length = r → LCl Ls hc → LMl Ls hm → LQ Ls → TXQ LR (mD_reads_L43 (nI 0) (refC 1) (refC 3) n (nI r) hc) (mm_readLaw_L2 ka3 kp1 kEnd nM (nI r) hm) := by
  intro n
  induction n with
  | zero => intro nM r i Ls hc hm h1 h2 h3; omega
  | succ n ih =>
    intro nM r i Ls hc hm h1 h2 h3 j hl lc lm lq
    cases nM with
    | zero => omega
    | succ nM =>
    by_cases x : ∃ w, w < 3 ∧ (tt B L i).1 = 2 ∧ (tt B L i).2 = w
    · obtain ⟨w, hw, x1, x2⟩ := x
      obtain ⟨c1, c2⟩ := c_lw j.1.1 ⟨x1, x2⟩ (by omega)
      rw [r43_go (s := 0) (w := w) (by decide) h3 c1 c2 (by show w ≤ 2; omega)]
      by_cases c16 : r = 16
      · obtain ⟨mw1, mw2⟩ := m_lw j.1.2.1 ⟨x1, x2⟩
        have ilw : mm_isLineWord hm = some 1 := by
          unfold mm_isLineWord
          rw [mw1, if_pos rfl, mw2, isIn_y (show (0 : Int32) ≤ nI w ∧ nI w ≤ (2 : Int32) from ⟨nI_le (a := 0) (by omega) (by omega), nI_le (b := 2) (by omega) (by decide)⟩), bd_e, if_neg no10]
        rw [if_pos c16, mm_readLaw_L2, ilw, bd_e, if_neg no10, if_pos (show nI r = (16 : Int32) by rw [c16]; rfl)]
        exact txq_err j.1 3
      · rw [if_neg c16, show lfn 0 hc = mD_lawLine hc from rfl]
        rcases ll_sim ka3 kEnd nM j hl lc lm lq (by omega) ⟨x1, x2⟩ hw with ⟨i2, Ls2, gc, gm, a1, a2, a3, a4, a5, a6, a7, a8, a9, a10⟩ | ⟨gc, gm, a1, a2, a3, a4, a5⟩
        · rw [a2, bd2_e, if_neg no10, a3]
          exact ih nM (r + 1) i2 Ls2 gc gm (by omega) (by omega) (by omega) a4 a5 a6 a7 a8
        · rw [a1, bd2_e, if_pos rfl, a2]
          exact Or.inr ⟨gc, gm, rfl, rfl⟩
    · have ilw : mm_isLineWord hm = some 0 := by
        unfold mm_isLineWord
        have k : TkM (tt B L i) (hm 104 14) (hm 104 15) := j.1.2.1.2.2.2
        rcases k with ⟨_, e⟩ | ⟨_, e⟩ | ⟨a, a2, e, e2⟩ | ⟨_, _, e, _⟩ | ⟨_, _, e, _⟩
        · rw [e, if_neg (by decide)]
        · rw [e, if_neg (by decide)]
        · rw [if_pos e, e2, isIn_n (fun z => ?_), bd_e, if_pos rfl]
          have z2 : (tt B L i).2 ≤ 2 := (nI_leI (b := 2) (by omega) (by decide)).mp z.2
          exact x ⟨_, by omega, a, rfl⟩
        · rw [e, if_neg (by decide)]
        · rw [e, if_neg (by decide)]
      rw [mm_readLaw_L2, ilw, bd_e, if_pos rfl]
      unfold kEnd
      by_cases c0 : (tt B L i).1 = 0
      · rw [r43_0 h3 ((c_k0 j.1.1).mpr c0), if_pos ((m_k0 j.1.2.1).mpr c0)]
        exact Or.inl ⟨r, hc, hm, h3, rfl, rfl, j.2.1, Ls, hl, lc, lm, lq, j.1.2.2.1, j.1.2.2.2.1, by have q1 := j.1.2.2.2.2; have q2 := j.1.1.2.1; have q3 := j.1.1.1.2.1; omega⟩
      · rw [r43_bad (s := 0) (by decide) h3 (fun z => c0 ((c_k0 j.1.1).mp z)) (fun e => ?_), if_neg (fun z => c0 ((m_k0 j.1.2.1).mp z))]
        · exact txq_err j.1 1
        · have t2 : (tt B L i).1 = 2 := by
            apply Classical.byContradiction
            intro z
            exact c_nw j.1.1 z e
          rcases c_wv j.1.1 t2 with ⟨w, y1, y2, y3, y4⟩ | ⟨y1, _⟩
          · rw [wv0l] at y1
            rw [wv0 w y1] at y2
            refine ⟨w, by omega, y4, ?_⟩
            rw [if_pos rfl]
            apply Classical.byContradiction
            intro z
            exact x ⟨w, by omega, t2, y2.symm⟩
          · rw [y1] at e; exact absurd e (by decide)
theorem nx_zero2 : ∀ (n k : Nat) (h : PH), 12 < n + k → k ≤ 12 → (∀ j, j < k → h 123 (12 + j) = 0) → ∃ g, (∀ k0 : PH → Option (Int32 × PH), mm_readNexts_L2 k0 n (nI k) h = k0 g) ∧ (∀ b, b ≠ 123 → g b = h b) ∧ ∀ j, j < 12 → g 123 (12 + j) = 0 := by
  intro n
  induction n with
  | zero => intro k h h1 h2; omega
  | succ n ih =>
    intro k h h1 h2 h3
    by_cases c : k = 12
    · exact ⟨h, fun k0 => by rw [mm_readNexts_L2, if_pos (by rw [c]; decide)], fun _ _ => rfl, fun j hj => h3 j (by omega)⟩
    · obtain ⟨g, g1, g2, g3⟩ := ih (k + 1) (up h 123 (12 + k) 0) (by omega) (by omega) (fun j hj => by
        by_cases z : j = k
        · rw [z, up_same]
        · rw [up_oj (by omega)]; exact h3 j (by omega))
      refine ⟨g, fun k0 => ?_, fun b hb => by rw [g2 b hb, up_cell hb], g3⟩
      rw [mm_readNexts_L2, if_neg (show ¬ (12 : Int32) ≤ nI k from nI_ge (b := 12) (by omega) (by decide)), show (12 : Int32) + nI k = nI (12 + k) from nI_add 12 k, ck_nI (show 12 + k < 24 by omega) (by decide), lt_e, show ix (nI (12 + k)) = 12 + k from nI_clamp (by omega), nI_1, g1]
theorem txq_w {Q Q' : Nat → PH → PH → Prop} {rc rm : Option (Int32 × PH)} (w : ∀ r gc gm, Q r gc gm → Q' r gc gm) (t : TXQ Q rc rm) : TXQ Q' rc rm := by
  rcases t with ⟨r, gc, gm, a1, a2, a3, a4, a5⟩ | t
  · exact Or.inl ⟨r, gc, gm, a1, a2, a3, a4, w r gc gm a5⟩
  · exact Or.inr t
theorem tx_rows {s : Nat} (hs : s < 4) {B : Nat → Nat} {L H : Nat} {hF hM : PH} (t : TC B L hF) (i : Inv hF) (f2 : hF 90 2 = 0) (f3 : hF 90 3 = -1) (tm : TM B L hM) (m12 : hM 104 12 = 0) (m25 : hM 104 25 = 0) (m26 : hM 104 26 = 0) (h12 : H ≤ 12) (m6 : hM 104 6 = nI H) : TXQ (TQS s H) (mD_reads (nI s) (nI H) hF) (mm_readsText (nI s) hM) := by
  obtain ⟨N, hc, d1, d2, d3, d4, d5⟩ := d_reads hs t i f2 f3 (nI H)
  have tm1 : TM B L (up hM 104 24 0) := ⟨tm.1, by rw [up_oj (by decide)]; exact tm.2.1, fun j hj => by rw [up_oc (by decide)]; exact tm.2.2.1 j hj, fun j hj => by rw [up_oc (by decide)]; exact tm.2.2.2 j hj⟩
  obtain ⟨hm, e1, e2, e3⟩ := mu_first tm1 (by rw [up_oj (by decide)]; exact m12)
  have q25 : hm 104 25 = 0 := by rw [e2.2 25 (by decide) (by decide) (by decide) (by decide), up_oj (by decide)]; exact m25
  have q26 : hm 104 26 = 0 := by rw [e2.2 26 (by decide) (by decide) (by decide) (by decide), up_oj (by decide)]; exact m26
  have q6 : hm 104 6 = nI H := by rw [e2.2 6 (by decide) (by decide) (by decide) (by decide), up_oj (by decide)]; exact m6
  have jj : JJ s B L N 0 0 [] hc hm := ⟨d2, e3, d3, ⟨q25, fun j k v hj => by cases hj⟩, Nat.le_refl _⟩
  have hh : HH H hc hm := ⟨h12, d5, q6⟩
  rw [d1]
  unfold mm_readsText
  rw [lt_e, e1, bd_e, bd2_id, bd2_id, bd2_id, bd2_id]
  rcases s4 hs with e | e | e | e
  · subst e
    rw [if_neg (by decide), if_neg (by decide), if_neg (by decide)]
    unfold mm_readLaw
    rw [law_g, ← nI_0]
    refine txq_w (fun r gc gm q => ⟨fun _ => q, fun z => by omega, fun z => by omega, fun z => by omega⟩) (lq_law FU FU 0 0 [] hc hm (by unfold FU; omega) (by unfold FU; omega) (by decide) ⟨jj, d4, q26⟩ rfl (fun q w A W hq => by cases hq) (fun q w A W hq => by cases hq) (fun l hl => by cases hl))
  · subst e
    rw [if_pos (show nI 1 = (1 : Int32) from rfl)]
    unfold mm_readSky
    rw [sky_g, ← nI_0]
    refine txq_w (fun r gc gm q => ⟨fun z => by omega, fun _ => q, fun z => by omega, fun z => by omega⟩) (lq_sky (H := H) FU FU 0 0 hc hm (by unfold FU; omega) (by unfold FU; omega) (by decide) jj d4 hh (fun q hq => absurd hq (Nat.not_lt_zero q)))
  · subst e
    rw [if_neg (by decide), if_pos (show nI 2 = (2 : Int32) from rfl)]
    unfold mm_readOffice
    rw [off_g, ← nI_0]
    refine txq_w (fun r gc gm q => ⟨fun z => by omega, fun z => by omega, fun _ => q, fun z => by omega⟩) (lq_office (H := H) FU FU 0 0 hc hm (by unfold FU; omega) (by unfold FU; omega) (by decide) jj d4 hh (fun q hq => absurd hq (Nat.not_lt_zero q)))
  · subst e
    obtain ⟨g, g1, g2, g3⟩ := nx_zero2 FU 0 hm (by unfold FU; omega) (by decide) (fun j hj => absurd hj (Nat.not_lt_zero j))
    rw [nI_0] at g1
    rw [if_neg (by decide), if_neg (by decide), if_pos (show nI 3 = (3 : Int32) from rfl)]
    unfold mm_readNexts
    rw [g1, nxt_g, ← nI_0]
    refine txq_w (fun r gc gm q => ⟨fun z => by omega, fun z => by omega, fun z => by omega, fun _ => q⟩) (lq_next (H := H) FU FU 0 0 hc g (by unfold FU; omega) (by unfold FU; omega) (by decide) ⟨jj.1, mu_of jj.2.1 (g2 111 (by decide)) (g2 112 (by decide)) (fun q _ _ => by rw [g2 104 (by decide)]), jj.2.2.1, mc_of jj.2.2.2.1 (g2 118 (by decide)) (g2 119 (by decide)) (by rw [g2 104 (by decide)]), jj.2.2.2.2⟩ d4 (hh_t hh rfl (by rw [g2 104 (by decide)])) ⟨fun k hk => g3 k hk, fun q hq => absurd hq (Nat.not_lt_zero q)⟩)
