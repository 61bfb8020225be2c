/-! WORDS: the same letters are the same word on both sides -/
def bLt (c : Nat) : Bool := (decide (97 ≤ c) && decide (c ≤ 122)) || (decide (65 ≤ c) && decide (c ≤ 90))
def bDg (c : Nat) : Bool := decide (48 ≤ c) && decide (c ≤ 57)
def bBk (c : Nat) : Bool := decide (c = 32) || decide (c = 10)
def bSg (c : Nat) : Bool := decide (c ∈ [59, 43, 45, 42, 47, 40, 41, 60, 61, 62])
theorem bLt_32 {c : Nat} (h : bLt c = true) : c ≠ 32 := by
  intro e; subst e; exact absurd h (by decide)
def blk (B : Nat → Nat) (q e : Nat) : List Nat := (List.range (e - q)).map (fun i => B (q + i))
theorem blk_len (B : Nat → Nat) (q e : Nat) : (blk B q e).length = e - q := by unfold blk; simp
theorem blk_at (B : Nat → Nat) (q e i : Nat) (h : i < e - q) : (blk B q e).getD i 0 = B (q + i) := by unfold blk; simp [h]
theorem ext0 : ∀ (w v : List Nat), w.length = v.length → (∀ i, i < w.length → w.getD i 0 = v.getD i 0) → w = v := by
  intro w
  induction w with
  | nil =>
    intro v hl _
    cases v with
    | nil => rfl
    | cons b v => simp at hl
  | cons a w ih =>
    intro v hl h
    cases v with
    | nil => simp at hl
    | cons b v =>
      have h0 : a = b := h 0 (by simp)
      rw [h0, ih v (by simpa using hl) (fun i hi => h (i + 1) (by simp; omega))]
theorem blk_eq {B : Nat → Nat} {q e : Nat} {w : List Nat} (hl : w.length = e - q) (hw : ∀ i, i < w.length → w.getD i 0 = B (q + i)) : w = blk B q e :=
  ext0 w _ (by rw [blk_len, hl]) (fun i hi => by rw [hw i hi, blk_at B q e i (by omega)])
theorem blk_ne {B : Nat → Nat} {q e : Nat} {w : List Nat} (hl : w.length = e - q) (hw : ¬ w = blk B q e) : ∃ i, i < w.length ∧ w.getD i 0 ≠ B (q + i) := by
  apply Classical.byContradiction
  intro n
  apply hw
  refine blk_eq hl (fun i hi => ?_)
  apply Classical.byContradiction
  intro m
  exact n ⟨i, hi, m⟩
def wI (b : List Nat) : List (List Nat) → Nat → Int32
  | [], _ => -1
  | w :: ws, j => if w = b then nI j else wI b ws (j + 1)
/-- a text that spells the words, from st on, blanks between them -/
def spwB (ch : Nat → Nat) (len : Nat) : List (List Nat) → Nat → Bool
  | [], st => decide (st = len + 1)
  | w :: ws, st => (List.range w.length).all (fun i => decide (st + i < len ∧ ch (st + i) = w.getD i 0 ∧ ch (st + i) ≠ 32)) && decide (st + w.length = len ∨ (st + w.length < len ∧ ch (st + w.length) = 32)) && spwB ch len ws (st + w.length + 1)
theorem spwB_c {ch : Nat → Nat} {len : Nat} {w : List Nat} {ws : List (List Nat)} {st : Nat} (h : spwB ch len (w :: ws) st = true) : (∀ i, i < w.length → st + i < len ∧ ch (st + i) = w.getD i 0 ∧ ch (st + i) ≠ 32) ∧ (st + w.length = len ∨ (st + w.length < len ∧ ch (st + w.length) = 32)) ∧ spwB ch len ws (st + w.length + 1) = true := by
  rw [spwB, Bool.and_eq_true, Bool.and_eq_true] at h
  exact ⟨fun i hi => of_decide_eq_true (List.all_eq_true.mp h.1.1 i (List.mem_range.mpr hi)), of_decide_eq_true h.1.2, h.2⟩
/-- the class's four lists, the model's one -/
def W27 : List (List Nat) := [[114, 101, 110, 116], [103, 110, 97, 119, 115], [109, 101, 108, 116, 115], [119, 104, 101, 110], [111, 114], [97, 110, 100], [110, 111, 116], [119, 97, 108, 108], [115, 117, 109], [97, 108, 109, 111, 110, 100, 115], [116, 101, 101, 116, 104], [104, 97, 114, 100], [105, 99, 105, 110, 103], [108, 111, 100, 103, 101, 114, 115], [100, 111, 111, 114], [97, 103, 101], [114, 97, 105, 110], [102, 114, 111, 115, 116], [113, 117, 97, 114, 116, 101, 114], [105, 110], [116, 104, 97, 119], [105, 99, 101], [98, 97, 107, 101], [119, 101, 100], [114, 97, 122, 101], [104, 111, 117, 115, 101], [110, 101, 120, 116]]
def wvL : List (List Nat) := [[0, 1, 2, 3, 4, 5, 6, 7, 8, 9, 10, 11, 12, 13, 14, 15, 16, 17, 18], [19, 16, 17, 20], [19, 21, 22, 23, 24], [25, 26]]
def wv (s : Nat) : List Nat := wvL.getD s []
def Wk (s : Nat) : List (List Nat) := (wv s).map (fun m => W27.getD m [])
def chC (s j : Nat) : Nat := (sby s j).toInt.toNat
def chM (j : Nat) : Nat := (wdX.getD j 0).toNat
theorem sp_c : ∀ s, s < 4 → spwB (chC s) (sln s) (Wk s) 0 = true := by decide +kernel
theorem sp_m : spwB chM 140 W27 1 = true := by decide +kernel
theorem chM_140 : chM 140 = 32 := by decide +kernel
theorem nc_ch : ∀ s, s < 4 → ∀ j, j < sln s → nc (nc (i2c ((sby s j) &&& 255))) = nI (chC s j) ∧ chC s j < 256 := by decide +kernel
theorem wdX_n : ∀ j, j < 141 → wdX.getD j 0 = ((chM j : Nat) : Int) ∧ chM j < 256 := by decide +kernel
theorem ch_at (s : Nat) (hs : s < 4) (j : Nat) (hj : j < sln s) (h : PH) : mG_charAt s (nI j) h = some (nI (chC s j)) := by
  have l1 := sln_lt s (by omega)
  unfold mG_charAt
  rw [show mG_isLatin1 s h = some 1 from rfl, bd_e, if_neg (by decide)]
  have c1 : ¬ nI j < 0 := nI_pos (by omega)
  have c2 : nI j < Int32.ofNat (sln s) := nI_lt hj (by omega)
  unfold mH_charAt mG_checkIndex mQ_checkIndex jn0
  simp only [if_neg c1, if_pos c2, bd_e]
  rw [ck_nI hj (by omega), bd_e, show ix (nI j) = j from nI_clamp (by omega), (nc_ch s hs j hj).1]
theorem wd_ch {h : PH} (i : IM h) (j : Nat) (hj : j < 141) : h 112 j = nI (chM j) := by
  apply Int32.toInt_inj.mp
  rw [wd_at1 i j hj, nI_toInt (by have := (wdX_n j hj).2; omega)]
  exact (wdX_n j hj).1
/-- the class's tape: L bytes B -/
def TC (B : Nat → Nat) (L : Nat) (h : PH) : Prop := L ≤ 400 ∧ h 85 4 = nI L ∧ ∀ j, j < L → (h 86 j &&& 255) = nI (B j) ∧ B j < 256
theorem by_in {B : Nat → Nat} {L : Nat} {h : PH} (t : TC B L h) {p : Nat} (hp : p < L) : mA_byteAt (nI p) h = some (nI (B p)) := by
  obtain ⟨t1, t2, t3⟩ := t
  unfold mA_byteAt
  rw [if_neg (nI_pos (by omega)), t2, if_neg (nI_ge hp (by omega)), if_neg (show ¬ (400 : Int32) ≤ nI p from nI_ge (b := 400) (by omega) (by omega)), ck_nI (by omega) (by decide), show ix (nI p) = p from nI_clamp (by omega), (t3 p hp).1]
theorem same_y {B : Nat → Nat} {L : Nat} {h : PH} (t : TC B L h) (s : Nat) (hs : s < 4) (st q e : Nat) (he : e ≤ L) (hst : st + (e - q) ≤ sln s) (hq : q ≤ e) (m : ∀ i, i < e - q → chC s (st + i) = B (q + i)) : ∀ (n d : Nat), e - q < n + d → d ≤ e - q → mA_isSame_L3 s (nI st) (nI q) (nI e) h n (nI (q + d)) = some 1 := by
  intro n
  have l1 := sln_lt s (by omega)
  have tL := t.1
  induction n with
  | zero => intro d h1 h2; omega
  | succ n ih =>
    intro d h1 h2
    rw [mA_isSame_L3]
    by_cases c : d = e - q
    · rw [if_pos (nI_le (show e ≤ q + d by omega) (by omega))]
    · rw [if_neg (nI_ge (show q + d < e by omega) (by omega)), lt_e, nI_add, nI_sub (by omega), show st + (q + d) - q = st + d by omega, G_len s (by omega), bd_e, if_neg (nI_ge (show st + d < sln s by omega) (by omega)), ch_at s hs (st + d) (by omega), bd_e, by_in t (show q + d < L by omega), bd_e, m d (by omega), if_pos rfl, nI_1]
      exact ih (d + 1) (by omega) (by omega)
theorem same_n {B : Nat → Nat} {L : Nat} {h : PH} (t : TC B L h) (s : Nat) (hs : s < 4) (st q e : Nat) (he : e ≤ L) (hst : st + (e - q) ≤ sln s) (hq : q ≤ e) (x : Nat) (hx : x < e - q) (m : chC s (st + x) ≠ B (q + x)) : ∀ (n d : Nat), e - q < n + d → d ≤ x → mA_isSame_L3 s (nI st) (nI q) (nI e) h n (nI (q + d)) = some 0 := by
  intro n
  have l1 := sln_lt s (by omega)
  have tL := t.1
  induction n with
  | zero => intro d h1 h2; omega
  | succ n ih =>
    intro d h1 h2
    have b1 := (nc_ch s hs (st + d) (by omega)).2
    have b2 := (t.2.2 (q + d) (by omega)).2
    rw [mA_isSame_L3, if_neg (nI_ge (show q + d < e by omega) (by omega)), lt_e, nI_add, nI_sub (by omega), show st + (q + d) - q = st + d by omega, G_len s (by omega), bd_e, if_neg (nI_ge (show st + d < sln s by omega) (by omega)), ch_at s hs (st + d) (by omega), bd_e, by_in t (show q + d < L by omega), bd_e]
    by_cases c : chC s (st + d) = B (q + d)
    · have dx : d ≠ x := fun z => m (by rw [← z]; exact c)
      rw [c, if_pos rfl, nI_1]
      exact ih (d + 1) (by omega) (by omega)
    · rw [if_neg (fun z => c ((nI_eq (by omega) (by omega)).mp z))]
theorem wn_go {B : Nat → Nat} {L : Nat} {h : PH} (t : TC B L h) (s : Nat) (hs : s < 4) (q e : Nat) (he : e ≤ L) (hq : q < e) : ∀ (n : Nat) (w : List Nat) (ws : List (List Nat)) (j st c : Nat), sln s + 1 < n + (st + c) → c ≤ w.length → spwB (chC s) (sln s) (w :: ws) st = true → mA_wordNumber_L9 s (nI q) (nI e) h n (nI j) (nI st) (nI (st + c)) = some (wI (blk B q e) (w :: ws) j) := by
  intro n
  have l1 := sln_lt s (by omega)
  have tL := t.1
  induction n with
  | zero =>
    intro w ws j st c h1 h2 h3
    obtain ⟨p1, p2, p3⟩ := spwB_c h3
    omega
  | succ n ih =>
    intro w ws j st c h1 h2 h3
    obtain ⟨p1, p2, p3⟩ := spwB_c h3
    have hle : st + w.length ≤ sln s := by omega
    rw [mA_wordNumber_L9, G_len s (by omega), bd_e, if_neg (nI_nlt (show st + c ≤ sln s by omega) (by omega)), bd_e, jn0_e]
    by_cases cc : c = w.length
    · subst cc
      have key : (if nI (st + w.length) - nI st = nI e - nI q then bd (mA_isSame s (nI st) (nI q) (nI e) h) fun r4 => if r4 = 0 then lt (nI (st + w.length) + 1) fun x5 => mA_wordNumber_L9 s (nI q) (nI e) h n (nI j + 1) x5 (nI (st + w.length) + 1) else some (nI j) else lt (nI (st + w.length) + 1) fun x6 => mA_wordNumber_L9 s (nI q) (nI e) h n (nI j + 1) x6 (nI (st + w.length) + 1)) = some (wI (blk B q e) (w :: ws) j) := by
        rw [nI_sub (by omega), nI_sub (by omega), show st + w.length - st = w.length by omega]
        have next : ¬ w = blk B q e → (lt (nI (st + w.length) + 1) fun x5 => mA_wordNumber_L9 s (nI q) (nI e) h n (nI j + 1) x5 (nI (st + w.length) + 1)) = some (wI (blk B q e) (w :: ws) j) := fun ne => by
          rw [lt_e, nI_1, nI_1, wI, if_neg ne]
          cases ws with
          | nil =>
            rw [spwB] at p3
            have p3 := of_decide_eq_true p3
            cases n with
            | zero => omega
            | succ n => rw [mA_wordNumber_L9, G_len s (by omega), bd_e, if_pos (nI_lt (show sln s < st + w.length + 1 by omega) (by omega)), wI]
          | cons w2 ws2 =>
            have := ih w2 ws2 (j + 1) (st + w.length + 1) 0 (by omega) (by omega) p3
            rw [Nat.add_zero] at this
            exact this
        by_cases lw : w.length = e - q
        · rw [if_pos (by rw [lw])]
          by_cases eq : w = blk B q e
          · have sm := same_y t s hs st q e he (by omega) (by omega) (fun i hi => by rw [(p1 i (by omega)).2.1, eq, blk_at B q e i hi]) FU 0 (by unfold FU; omega) (by omega)
            rw [Nat.add_zero] at sm
            have sm : mA_isSame s (nI st) (nI q) (nI e) h = some 1 := sm
            rw [sm, bd_e, if_neg (by decide), wI, if_pos eq]
          · obtain ⟨x, x1, x2⟩ := blk_ne lw eq
            have sm := same_n t s hs st q e he (by omega) (by omega) x (by omega) (by rw [(p1 x x1).2.1]; exact x2) FU 0 (by unfold FU; omega) (by omega)
            rw [Nat.add_zero] at sm
            have sm : mA_isSame s (nI st) (nI q) (nI e) h = some 0 := sm
            rw [sm, bd_e, if_pos rfl]
            exact next eq
        · rw [if_neg (fun z => lw ((nI_eq (by omega) (by omega)).mp z))]
          exact next (fun z => lw (by rw [z, blk_len]))
      by_cases c2 : st + w.length = sln s
      · rw [if_pos (by rw [c2])]
        exact key
      · rw [if_neg (fun z => c2 ((nI_eq (by omega) (by omega)).mp z)), ch_at s hs _ (by omega), bd_e]
        rcases p2 with p2 | p2
        · exact absurd p2 c2
        · rw [p2.2, if_pos (show nI 32 = (32 : Int32) from rfl)]
          exact key
    · obtain ⟨a1, a2, a3⟩ := p1 c (by omega)
      have b1 := (nc_ch s hs (st + c) a1).2
      rw [if_neg (fun z => by have := (nI_eq (by omega) (by omega)).mp z; omega), ch_at s hs _ a1, bd_e, if_neg (show ¬ nI (chC s (st + c)) = (32 : Int32) from fun z => a3 ((nI_eq (b := 32) (by omega) (by decide)).mp z)), nI_1]
      exact ih w ws j st (c + 1) (by omega) (by omega) h3
theorem wnC_at {B : Nat → Nat} {L : Nat} {h : PH} (t : TC B L h) (s : Nat) (hs : s < 4) (q e : Nat) (he : e ≤ L) (hq : q < e) : mA_wordNumber s (nI q) (nI e) h = some (wI (blk B q e) (Wk s) 0) := by
  have sp := sp_c s hs
  have l1 := sln_lt s (by omega)
  have ne : Wk s ≠ [] := by
    have : ∀ s, s < 4 → Wk s ≠ [] := by decide
    exact this s hs
  cases eW : Wk s with
  | nil => exact absurd eW ne
  | cons w ws =>
    rw [eW] at sp
    have := wn_go t s hs q e he hq FU w ws 0 0 0 (by unfold FU; omega) (by omega) sp
    rw [Nat.add_zero, nI_0] at this
    exact this
/-- the model's tape -/
def TM (B : Nat → Nat) (L : Nat) (h : PH) : Prop := L ≤ 400 ∧ h 104 11 = nI L ∧ (∀ j, j < L → h 111 j = nI (B j) ∧ B j < 256) ∧ ∀ j, j < 141 → h 112 j = nI (chM j)
theorem wa_20 {B : Nat → Nat} {L : Nat} {h : PH} (t : TM B L h) (q e k : Nat) (he : e ≤ L) (hq : q ≤ e) (p3 : Int32) (w : List Nat) (hl : ∀ i, i < e - q → B (q + i) ≠ 32) (p1 : ∀ i, i < w.length → k + 1 + i < 140 ∧ chM (k + 1 + i) = w.getD i 0 ∧ chM (k + 1 + i) ≠ 32) (p2 : k + 1 + w.length ≤ 140 ∧ chM (k + 1 + w.length) = 32) (k0 : Int32 → Option Int32) : ∀ (n c : Nat), e - q < n + c → c ≤ e - q → c ≤ w.length → (∀ i, i < c → w.getD i 0 = B (q + i)) → ∃ x, mm_wordAt_L20 (nI q) (nI e) p3 (nI k) h k0 n (nI c) = k0 (nI x) ∧ x ≤ e - q ∧ x ≤ w.length ∧ (∀ i, i < x → w.getD i 0 = B (q + i)) ∧ (x < e - q → x < w.length → w.getD x 0 ≠ B (q + x)) := by
  intro n
  have tL := t.1
  induction n with
  | zero => intro c h1 h2; omega
  | succ n ih =>
    intro c h1 h2 h3 hm
    rw [mm_wordAt_L20, nI_add]
    by_cases c1 : c = e - q
    · rw [if_pos (nI_le (show e ≤ q + c by omega) (by omega))]
      exact ⟨c, rfl, h2, h3, hm, fun z => absurd z (by omega)⟩
    · have b2 := (t.2.2.1 (q + c) (by omega)).2
      rw [if_neg (nI_ge (show q + c < e by omega) (by omega)), nI_1, nI_add, ck_nI (show k + 1 + c < 141 by omega) (by decide), ck_nI (show q + c < 400 by omega) (by decide), show ix (nI (k + 1 + c)) = k + 1 + c from nI_clamp (by omega), show ix (nI (q + c)) = q + c from nI_clamp (by omega), t.2.2.2 (k + 1 + c) (by omega), (t.2.2.1 (q + c) (by omega)).1]
      have b1 := (wdX_n (k + 1 + c) (by omega)).2
      by_cases c2 : chM (k + 1 + c) = B (q + c)
      · rw [if_pos (by rw [c2]), lt_e, nI_1]
        have lw : c < w.length := by
          apply Classical.byContradiction
          intro z
          have : c = w.length := by omega
          rw [this, p2.2] at c2
          exact hl w.length (by omega) (by rw [← c2])
        refine ih (c + 1) (by omega) (by omega) lw (fun i hi => ?_)
        by_cases z : i = c
        · rw [z, ← (p1 c lw).2.1]; exact c2
        · exact hm i (by omega)
      · rw [if_neg (fun z => c2 ((nI_eq (by omega) (by omega)).mp z))]
        exact ⟨c, rfl, h2, h3, hm, fun _ z => by rw [← (p1 c z).2.1]; exact c2⟩
theorem wa_94 {B : Nat → Nat} {L : Nat} {h : PH} (t : TM B L h) (p1 p2 p3 : Int32) (k0 : Int32 → Option Int32) (st l : Nat) (hl : st + l ≤ 140) (a : ∀ i, i < l → chM (st + i) ≠ 32) (b : chM (st + l) = 32) : ∀ (n c : Nat), l < n + c → c ≤ l → mm_wordAt_L94 p1 p2 p3 h k0 n (nI (st + c)) = k0 (nI (st + l)) := by
  intro n
  induction n with
  | zero => intro c h1 h2; omega
  | succ n ih =>
    intro c h1 h2
    rw [mm_wordAt_L94, ck_nI (show st + c < 141 by omega) (by decide), show ix (nI (st + c)) = st + c from nI_clamp (by omega), t.2.2.2 _ (by omega)]
    by_cases z : c = l
    · subst z
      rw [b, if_pos (show nI 32 = (32 : Int32) from rfl)]
    · have b1 := (wdX_n (st + c) (by omega)).2
      rw [if_neg (show ¬ nI (chM (st + c)) = (32 : Int32) from fun q => a c (by omega) ((nI_eq (b := 32) (by omega) (by decide)).mp q)), lt_e, nI_1]
      exact ih (c + 1) (by omega) (by omega)
theorem wa_5 {B : Nat → Nat} {L : Nat} {h : PH} (t : TM B L h) (q e : Nat) (he : e ≤ L) (hq : q < e) (hl : ∀ i, i < e - q → B (q + i) ≠ 32) : ∀ (n : Nat) (ws : List (List Nat)) (j k : Nat), 141 < n + k → k ≤ 140 → chM k = 32 → spwB chM 140 ws (k + 1) = true → mm_wordAt_L5 (nI q) (nI e) h n (nI j - 1) (nI k) = some (wI (blk B q e) ws j) := by
  intro n
  have tL := t.1
  induction n with
  | zero => intro ws j k h1 h2; omega
  | succ n ih =>
    intro ws j k h1 h2 h32 h3
    rw [mm_wordAt_L5]
    cases ws with
    | nil =>
      rw [spwB] at h3
      have h3 := of_decide_eq_true h3
      rw [if_pos (show (140 : Int32) ≤ nI k from nI_le (a := 140) (by omega) (by omega)), wI]
    | cons w ws =>
      obtain ⟨p1, p2, p3⟩ := spwB_c h3
      have hk : k + 1 + w.length ≤ 140 := by omega
      have p2' : chM (k + 1 + w.length) = 32 := by
        rcases p2 with p2 | p2
        · rw [p2]; exact chM_140
        · exact p2.2
      have e1 : nI j - 1 + 1 = nI j := by rw [Int32.sub_add_cancel]
      rw [if_neg (show ¬ (140 : Int32) ≤ nI k from nI_ge (b := 140) (by omega) (by decide)), lt_e, e1]
      obtain ⟨x, q1, q2, q3, q4, q5⟩ := wa_20 t q e k he (by omega) (nI j) w hl p1 ⟨hk, p2'⟩ (fun (x3 : Int32) =>
        jn0 (lt (nI k + 1) fun x5 =>
          mm_wordAt_L94 (nI q) (nI e) (nI j) h (fun (x7 : Int32) =>
            mm_wordAt_L5 (nI q) (nI e) h n (nI j) x7) FU x5) fun j4 =>
        if (nI q + x3) = nI e then
          ck ((nI k + 1) + x3) 141 <|
          if (h 112 (ix ((nI k + 1) + x3))) = 32 then
            some (nI j)
          else
            j4
        else
          j4) FU 0 (by unfold FU; omega) (by omega) (by omega) (fun i hi => absurd hi (by omega))
      rw [nI_0] at q1
      rw [q1, jn0_e, lt_e, nI_1, nI_add, nI_add]
      have next : ¬ w = blk B q e → mm_wordAt_L94 (nI q) (nI e) (nI j) h (fun (x7 : Int32) => mm_wordAt_L5 (nI q) (nI e) h n (nI j) x7) FU (nI (k + 1)) = some (wI (blk B q e) (w :: ws) j) := fun ne => by
        have a := wa_94 t (nI q) (nI e) (nI j) (fun (x7 : Int32) => mm_wordAt_L5 (nI q) (nI e) h n (nI j) x7) (k + 1) w.length hk (fun i hi => (p1 i hi).2.2) p2' FU 0 (by unfold FU; omega) (by omega)
        rw [Nat.add_zero] at a
        rw [a]
        have := ih ws (j + 1) (k + 1 + w.length) (by omega) hk p2' p3
        rw [nI_pred] at this
        rw [this, wI, if_neg ne]
      by_cases c1 : q + x = e
      · rw [if_pos (by rw [c1]), ck_nI (show k + 1 + x < 141 by omega) (by decide), show ix (nI (k + 1 + x)) = k + 1 + x from nI_clamp (by omega), t.2.2.2 _ (by omega)]
        have b1 := (wdX_n (k + 1 + x) (by omega)).2
        by_cases c2 : x = w.length
        · rw [c2, p2', if_pos (show nI 32 = (32 : Int32) from rfl), wI, if_pos (blk_eq (by omega) (fun i hi => q4 i (by omega)))]
        · rw [if_neg (show ¬ nI (chM (k + 1 + x)) = (32 : Int32) from fun z => (p1 x (by omega)).2.2 ((nI_eq (b := 32) (by omega) (by decide)).mp z))]
          exact next (fun z => c2 (by have := blk_len B q e; rw [← z] at this; omega))
      · rw [if_neg (fun z => c1 ((nI_eq (by omega) (by omega)).mp z))]
        refine next (fun z => ?_)
        have l := blk_len B q e
        rw [← z] at l
        have := q5 (by omega) (by omega)
        rw [z, blk_at B q e x (by omega)] at this
        exact this rfl
theorem wa_at {B : Nat → Nat} {L : Nat} {h : PH} (t : TM B L h) (q e : Nat) (he : e ≤ L) (hq : q < e) (hl : ∀ i, i < e - q → B (q + i) ≠ 32) : mm_wordAt (nI q) (nI e) h = some (wI (blk B q e) W27 0) := by
  have := wa_5 t q e he hq hl FU W27 0 0 (by unfold FU; omega) (by omega) (by decide +kernel) sp_m
  rw [nI_0] at this
  exact this
/-- what the one list says, the other says -/
theorem wI_hit (b : List Nat) : ∀ (ws : List (List Nat)) (j m : Nat), m < ws.length → ws.getD m [] = b → (∀ i, i < m → ws.getD i [] ≠ b) → wI b ws j = nI (j + m) := by
  intro ws
  induction ws with
  | nil => intro j m h; simp at h
  | cons w ws ih =>
    intro j m h1 h2 h3
    rw [wI]
    cases m with
    | zero =>
      have h2 : w = b := h2
      rw [if_pos h2]; rfl
    | succ m =>
      have h30 : ¬ w = b := h3 0 (by omega)
      rw [if_neg h30, ih (j + 1) m (by simpa using h1) h2 (fun i hi => h3 (i + 1) (by omega)), show j + 1 + m = j + (m + 1) by omega]
theorem wI_miss (b : List Nat) : ∀ (ws : List (List Nat)) (j : Nat), (∀ i, i < ws.length → ws.getD i [] ≠ b) → wI b ws j = -1 := by
  intro ws
  induction ws with
  | nil => intro j h; rw [wI]
  | cons w ws ih =>
    intro j h
    have h0 : ¬ w = b := h 0 (by simp)
    rw [wI, if_neg h0, ih (j + 1) (fun i hi => h (i + 1) (by simpa using hi))]
theorem w27_d : ∀ m, m < 27 → ∀ i, i < m → W27.getD i [] ≠ W27.getD m [] := by decide +kernel
theorem wk_d : ∀ s, s < 4 → ∀ w, w < (Wk s).length → (Wk s).getD w [] = W27.getD ((wv s).getD w 99) [] ∧ (wv s).getD w 99 < 27 ∧ ∀ i, i < w → (Wk s).getD i [] ≠ (Wk s).getD w [] := by decide +kernel
theorem wk_l : ∀ s, s < 4 → (Wk s).length = (wv s).length ∧ (wv s).length < 20 := by decide +kernel
/-- a word's number on both sides: none of the 27; one that the text's own list lacks; one that it has -/
theorem word_rel (s : Nat) (hs : s < 4) (b : List Nat) : (wI b W27 0 = -1 ∧ wI b (Wk s) 0 = -1) ∨ ∃ m, m < 27 ∧ wI b W27 0 = nI m ∧ ((wI b (Wk s) 0 = -1 ∧ ∀ w, w < (wv s).length → (wv s).getD w 99 ≠ m) ∨ ∃ w, w < (wv s).length ∧ (wv s).getD w 99 = m ∧ wI b (Wk s) 0 = nI w) := by
  obtain ⟨l1, l2⟩ := wk_l s hs
  by_cases c : ∃ m, m < 27 ∧ W27.getD m [] = b
  · obtain ⟨m, m1, m2⟩ := c
    refine Or.inr ⟨m, m1, ?_, ?_⟩
    · have := wI_hit b W27 0 m m1 m2 (fun i hi => by rw [← m2]; exact w27_d m m1 i hi)
      rw [Nat.zero_add] at this
      exact this
    · by_cases d : ∃ w, w < (wv s).length ∧ (wv s).getD w 99 = m
      · obtain ⟨w, w1, w2⟩ := d
        obtain ⟨k1, k2, k3⟩ := wk_d s hs w (by omega)
        have e : (Wk s).getD w [] = b := by rw [k1, w2, m2]
        have := wI_hit b (Wk s) 0 w (by omega) e (fun i hi => by rw [← e]; exact k3 i hi)
        rw [Nat.zero_add] at this
        exact Or.inr ⟨w, w1, w2, this⟩
      · refine Or.inl ⟨wI_miss b (Wk s) 0 (fun i hi z => ?_), fun w w1 w2 => d ⟨w, w1, w2⟩⟩
        obtain ⟨k1, k2, k3⟩ := wk_d s hs i hi
        rw [k1] at z
        have u : ∀ x y, x < 27 → y < 27 → W27.getD x [] = W27.getD y [] → x = y := fun x y hx hy hz => by
          rcases Nat.lt_trichotomy x y with g | g | g
          · exact absurd hz (w27_d y hy x g)
          · exact g
          · exact absurd hz.symm (w27_d x hx y g)
        exact d ⟨i, by omega, u _ _ k2 m1 (by rw [z, m2])⟩
  · refine Or.inl ⟨wI_miss b W27 0 (fun i hi z => c ⟨i, hi, z⟩), wI_miss b (Wk s) 0 (fun i hi z => ?_)⟩
    obtain ⟨k1, k2, k3⟩ := wk_d s hs i hi
    exact c ⟨_, k2, by rw [← k1]; exact z⟩
