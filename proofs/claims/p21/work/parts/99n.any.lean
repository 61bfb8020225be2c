/-! SAFETY of the model's reader: what is pending (9 not, 10 and, 11 or, 12 a bracket; the latest first) -/
def Pd : List Int32 → PH → Prop
  | [], _ => True
  | q :: r, h => h 120 r.length = q ∧ Pd r h
def cO : List Int32 → Nat
  | [] => 0
  | q :: r => (if q = 9 ∨ q = 12 then 1 else 0) + cO r
def cB : List Int32 → Nat
  | [] => 0
  | q :: r => (if q = 12 then 1 else 0) + cB r
def cE : List Int32 → Nat
  | [] => 0
  | q :: r => (if q = 12 then 0 else 1) + cE r
def cD : List Int32 → Nat
  | [] => 0
  | q :: r => (if q = 10 ∨ q = 11 then 1 else 0) + cD r
def Gm : List Int32 → Nat → Prop
  | [], _ => True
  | q :: r, m => (q = 12 ∧ Gm r 0) ∨ (m = 0 ∧ q = 9 ∧ Gm r 0) ∨ (m = 0 ∧ q = 10 ∧ Gm r 1) ∨ (m ≤ 1 ∧ q = 11 ∧ Gm r 2)
def dr (p : Int32) : List Int32 → List Int32
  | [] => []
  | q :: r => if q = p then dr p r else q :: r
theorem gm_len : ∀ (ps : List Int32) (m : Nat), Gm ps m → ps.length ≤ 3 * cO ps + (2 - m) := by
  intro ps
  induction ps with
  | nil => intro m _; simp
  | cons q r ih =>
    intro m g
    rw [List.length_cons]
    rcases g with ⟨rfl, g⟩ | ⟨rfl, rfl, g⟩ | ⟨rfl, rfl, g⟩ | ⟨hm, rfl, g⟩
    · have := ih 0 g
      have e : cO (12 :: r) = 1 + cO r := rfl
      omega
    · have := ih 0 g
      have e : cO (9 :: r) = 1 + cO r := rfl
      omega
    · have := ih 1 g
      have e : cO (10 :: r) = 0 + cO r := rfl
      omega
    · have := ih 2 g
      have e : cO (11 :: r) = 0 + cO r := rfl
      omega
theorem gm_dr9 : ∀ ps : List Int32, Gm ps 0 → Gm (dr 9 ps) 0 ∧ ∀ r, ¬ dr 9 ps = 9 :: r := by
  intro ps
  induction ps with
  | nil => intro _; exact ⟨trivial, fun r q => by cases q⟩
  | cons q r ih =>
    intro g
    by_cases e : q = 9
    · rw [dr, if_pos e]
      rcases g with ⟨h1, g⟩ | ⟨-, -, g⟩ | ⟨-, h1, g⟩ | ⟨-, h1, g⟩
      · rw [e] at h1; exact absurd h1 (by decide)
      · exact ih g
      · rw [e] at h1; exact absurd h1 (by decide)
      · rw [e] at h1; exact absurd h1 (by decide)
    · rw [dr, if_neg e]
      exact ⟨g, fun r2 z => e (List.cons.inj z).1⟩
theorem gm_dr10 (ps : List Int32) (g : Gm ps 0) (n9 : ∀ r, ¬ ps = 9 :: r) : Gm (dr 10 ps) 1 := by
  cases ps with
  | nil => trivial
  | cons q r =>
    rcases g with ⟨rfl, g⟩ | ⟨-, rfl, g⟩ | ⟨-, rfl, g⟩ | ⟨-, rfl, g⟩
    · rw [dr, if_neg (by decide)]; exact Or.inl ⟨rfl, g⟩
    · exact absurd rfl (n9 r)
    · rw [dr, if_pos rfl]
      cases r with
      | nil => trivial
      | cons q2 r2 =>
        rcases g with ⟨rfl, g⟩ | ⟨z, -⟩ | ⟨z, -⟩ | ⟨-, rfl, g⟩
        · rw [dr, if_neg (by decide)]; exact Or.inl ⟨rfl, g⟩
        · cases z
        · cases z
        · rw [dr, if_neg (by decide)]; exact Or.inr (Or.inr (Or.inr ⟨by decide, rfl, g⟩))
    · rw [dr, if_neg (by decide)]; exact Or.inr (Or.inr (Or.inr ⟨by decide, rfl, g⟩))
theorem gm_dr11 (ps : List Int32) (g : Gm ps 1) : Gm (dr 11 ps) 2 := by
  cases ps with
  | nil => trivial
  | cons q r =>
    rcases g with ⟨rfl, g⟩ | ⟨z, -⟩ | ⟨z, -⟩ | ⟨-, rfl, g⟩
    · rw [dr, if_neg (by decide)]; exact Or.inl ⟨rfl, g⟩
    · cases z
    · cases z
    · rw [dr, if_pos rfl]
      cases r with
      | nil => trivial
      | cons q2 r2 =>
        rcases g with ⟨rfl, g⟩ | ⟨z, -⟩ | ⟨z, -⟩ | ⟨z, -⟩
        · rw [dr, if_neg (by decide)]; exact Or.inl ⟨rfl, g⟩
        · cases z
        · cases z
        · omega
theorem gm_2 (ps : List Int32) (g : Gm ps 2) : ps = [] ∨ ∃ r, ps = 12 :: r ∧ Gm r 0 := by
  cases ps with
  | nil => exact Or.inl rfl
  | cons q r =>
    rcases g with ⟨rfl, g⟩ | ⟨z, -⟩ | ⟨z, -⟩ | ⟨z, -⟩
    · exact Or.inr ⟨r, rfl, g⟩
    · cases z
    · cases z
    · omega
theorem cB_dr (p : Int32) (hp : ¬ p = 12) : ∀ ps, cB (dr p ps) = cB ps := by
  intro ps
  induction ps with
  | nil => rfl
  | cons q r ih =>
    by_cases e : q = p
    · rw [dr, if_pos e, ih, cB, if_neg (by rw [e]; exact hp), Nat.zero_add]
    · rw [dr, if_neg e]
theorem cO_dr (p : Int32) : ∀ ps, cO (dr p ps) ≤ cO ps := by
  intro ps
  induction ps with
  | nil => exact Nat.le_refl _
  | cons q r ih =>
    by_cases e : q = p
    · rw [dr, if_pos e, cO]; omega
    · rw [dr, if_neg e]; exact Nat.le_refl _
theorem cB_cO : ∀ ps, cB ps ≤ cO ps := by
  intro ps
  induction ps with
  | nil => exact Nat.le_refl _
  | cons q r ih =>
    rw [cB, cO]
    by_cases e : q = 12
    · rw [if_pos e, if_pos (Or.inr e)]; omega
    · rw [if_neg e]; split <;> omega
theorem pd_fr {h g : PH} : ∀ (ps : List Int32), (∀ j, j < ps.length → g 120 j = h 120 j) → Pd ps h → Pd ps g := by
  intro ps
  induction ps with
  | nil => intro _ _; trivial
  | cons q r ih =>
    intro hj hp
    exact ⟨by rw [hj r.length (by rw [List.length_cons]; omega)]; exact hp.1, ih (fun j hj2 => hj j (by rw [List.length_cons]; omega)) hp.2⟩
def FRa (c : Nat) (h g : PH) : Prop := (∀ b, b ≠ 104 → b ≠ 118 → b ≠ 119 → b ≠ 120 → g b = h b) ∧ (∀ q, q < c → dOp g q = dOp h q ∧ dAr g q = dAr h q) ∧ ∀ j, j ≠ 12 → j ≠ 13 → j ≠ 14 → j ≠ 15 → j ≠ 25 → j ≠ 26 → j ≠ 28 → j ≠ 29 → j ≠ 30 → g 104 j = h 104 j
theorem fra_c {c c1 : Nat} {h g : PH} (hc : c ≤ c1) (f : FRc c1 h g) : FRa c h g :=
  ⟨fun b h1 h2 h3 _ => f.1 b h1 h2 h3, fun q hq => f.2.1 q (by omega), fun j h1 h2 h3 h4 h5 _ _ h8 h9 => f.2.2 j h1 h2 h3 h4 h5 h8 h9⟩
theorem fra_tr {c : Nat} {h g f : PH} (a : FRa c h g) (b : FRa c g f) : FRa c h f :=
  ⟨fun x h1 h2 h3 h4 => by rw [b.1 x h1 h2 h3 h4]; exact a.1 x h1 h2 h3 h4, fun q hq => by
    obtain ⟨u1, u2⟩ := b.2.1 q hq
    obtain ⟨w1, w2⟩ := a.2.1 q hq
    exact ⟨u1.trans w1, u2.trans w2⟩, fun j h1 h2 h3 h4 h5 h6 h7 h8 h9 => by rw [b.2.2 j h1 h2 h3 h4 h5 h6 h7 h8 h9]; exact a.2.2 j h1 h2 h3 h4 h5 h6 h7 h8 h9⟩
theorem dOp_up {h : PH} {b j : Nat} {v : Int32} (hb : b ≠ 118) : dOp (up h b j v) = dOp h := funext fun k => up_oc (fun q => hb q.symm)
theorem dAr_up {h : PH} {b j : Nat} {v : Int32} (hb : b ≠ 119) : dAr (up h b j v) = dAr h := funext fun k => up_oc (fun q => hb q.symm)
theorem fra_104 {c : Nat} {h : PH} {j : Nat} {v : Int32} (hj : j = 26 ∨ j = 28) : FRa c h (up h 104 j v) :=
  ⟨fun b h1 _ _ _ => funext fun q => up_oc h1, fun q _ => by rw [dOp_up (by decide), dAr_up (by decide)]; exact ⟨rfl, rfl⟩, fun i h1 h2 h3 h4 h5 h6 h7 h8 h9 => up_oj (by omega)⟩
theorem fra_120 {c : Nat} {h : PH} {j : Nat} {v : Int32} : FRa c h (up h 120 j v) :=
  ⟨fun b h1 _ _ h4 => funext fun q => up_oc h4, fun q _ => by rw [dOp_up (by decide), dAr_up (by decide)]; exact ⟨rfl, rfl⟩, fun i h1 h2 h3 h4 h5 h6 h7 h8 h9 => up_oc (by decide)⟩
theorem rs_wk {c k k' : Nat} {h : PH} (st : RS c k h) (hk : k' ≤ k) : RS c k' h := ⟨st.1, st.2.1, st.2.2.1, st.2.2.2.1, st.2.2.2.2.1, by have := st.2.2.2.2.2; omega⟩
theorem rs_104 {c k : Nat} {h : PH} (st : RS c k h) {j : Nat} (hj : j = 26 ∨ j = 28) (v : Int32) : RS c k (up h 104 j v) := by
  obtain ⟨i, e, s1, s2, s3, s4⟩ := st
  have i2 : IM (up h 104 j v) := by
    rcases hj with rfl | rfl
    · exact im_put i (show sp 104 26 = (-2147483648, 2147483647) from rfl) (r_full v) (by decide)
    · exact im_put i (show sp 104 28 = (-2147483648, 2147483647) from rfl) (r_full v) (by decide)
  have q : ∀ x, x ≠ 26 → x ≠ 28 → up h 104 j v 104 x = h 104 x := fun x h1 h2 => up_oj (by omega)
  refine ⟨i2, ?_, ?_, ?_, ?_, ?_⟩
  · rw [q 25 (by decide) (by decide)]; exact e
  · rw [q 12 (by decide) (by decide), q 11 (by decide) (by decide)]; exact s1
  · rw [q 13 (by decide) (by decide), q 12 (by decide) (by decide)]; exact s2
  · rw [q 14 (by decide) (by decide), q 13 (by decide) (by decide), q 12 (by decide) (by decide)]; exact s3
  · rw [q 13 (by decide) (by decide)]; exact s4
theorem rs_120 {c k : Nat} {h : PH} (st : RS c k h) {j : Nat} (v : Int32) : RS c k (up h 120 j v) := by
  obtain ⟨i, e, s1, s2, s3, s4⟩ := st
  have i2 : IM (up h 120 j v) := im_put i (show sp 120 j = (-2147483648, 2147483647) from rfl) (r_full v) (by decide)
  have q : ∀ x, up h 120 j v 104 x = h 104 x := fun x => up_oc (by decide)
  refine ⟨i2, ?_, ?_, ?_, ?_, ?_⟩
  · rw [q]; exact e
  · rw [q, q]; exact s1
  · rw [q, q]; exact s2
  · rw [q, q, q]; exact s3
  · rw [q]; exact s4
def AS (c0 c k e : Nat) (ps : List Int32) (h0 h : PH) : Prop := RS c k h ∧ h 104 28 = nI ps.length ∧ Pd ps h ∧ h 104 26 = nI (cO ps) ∧ c0 ≤ c ∧ dep (dOp h) (dAr h) c0 (c - c0) c0 0 = some (cD ps + e) ∧ FRa c0 h0 h
theorem as_reads {c0 c k e : Nat} {ps : List Int32} {h0 h : PH} (st : AS c0 c k e ps h0 h) (nz : ¬ h 104 14 = 0) : Sf (mm_reads h) (fun g => AS c0 c (k + 1) e ps h0 g) := by
  obtain ⟨s1, s2, s3, s4, s5, s6, s7⟩ := st
  refine s_w (rs_take s1 nz) (fun g q => ?_)
  obtain ⟨q1, q2⟩ := q
  have f : FRc c h g := frc_4 q2
  refine ⟨q1, ?_, ?_, ?_, s5, ?_, fra_tr s7 (fra_c s5 f)⟩
  · rw [q2.2 28 (by decide) (by decide) (by decide) (by decide)]; exact s2
  · exact pd_fr ps (fun j _ => by rw [q2.1 120 (by decide)]) s3
  · rw [q2.2 26 (by decide) (by decide) (by decide) (by decide)]; exact s4
  · rw [dep_lo f c0 (c - c0) c0 0 (by omega)]; exact s6
theorem waits_at (h : PH) (m : Nat) (hm : m < 40) (e : h 104 28 = nI m) (p : Int32) : mm_waits p h = some (up (up h 120 m p) 104 28 (nI (m + 1))) := by
  unfold mm_waits
  rw [e, ck_nI hm (by decide), lt_e, show ix (nI m) = m from nI_clamp (by omega), lt_e]
  rw [show up h 120 m p 104 28 = h 104 28 from up_oc (by decide), e, nI_1]
theorem as_and {c0 c k : Nat} {ps : List Int32} {h0 h : PH} (st : AS c0 c k 1 ps h0 h) (p : Int32) (hp : p = 10 ∨ p = 11) (hl : ps.length < 40) : ∃ g, mm_waits p h = some g ∧ AS c0 c k 0 (p :: ps) h0 g ∧ g 104 14 = h 104 14 := by
  obtain ⟨s1, s2, s3, s4, s5, s6, s7⟩ := st
  refine ⟨_, waits_at h ps.length hl s2 p, ⟨rs_104 (rs_120 s1 p) (Or.inr rfl) _, up_same, ⟨?_, ?_⟩, ?_, s5, ?_, ?_⟩, ?_⟩
  · rw [up_oc (by decide), up_same]
  · exact pd_fr ps (fun j hj => by rw [up_oc (by decide), up_oj (by omega)]) s3
  · rw [up_oj (by decide), up_oc (by decide), s4, cO, if_neg (by rcases hp with rfl | rfl <;> decide), Nat.zero_add]
  · rw [dOp_up (by decide), dOp_up (by decide), dAr_up (by decide), dAr_up (by decide), s6, cD, if_pos hp, Nat.add_comm]
    rfl
  · exact fra_tr s7 (fra_tr fra_120 (fra_104 (Or.inr rfl)))
  · rw [up_oj (by decide), up_oc (by decide)]
theorem as_open {c0 c k : Nat} {ps : List Int32} {h0 h : PH} (st : AS c0 c k 0 ps h0 h) (p : Int32) (hp : p = 9 ∨ p = 12) (hl : ps.length < 40) : ∃ g, mm_waits p (up h 104 26 (h 104 26 + 1)) = some g ∧ AS c0 c k 0 (p :: ps) h0 g ∧ g 104 14 = h 104 14 := by
  obtain ⟨s1, s2, s3, s4, s5, s6, s7⟩ := st
  have s2' : up h 104 26 (h 104 26 + 1) 104 28 = nI ps.length := by rw [up_oj (by decide)]; exact s2
  refine ⟨_, waits_at _ ps.length hl s2' p, ⟨rs_104 (rs_120 (rs_104 s1 (Or.inl rfl) _) p) (Or.inr rfl) _, up_same, ⟨?_, ?_⟩, ?_, s5, ?_, ?_⟩, ?_⟩
  · rw [up_oc (by decide), up_same]
  · exact pd_fr ps (fun j hj => by rw [up_oc (by decide), up_oj (by omega), up_oc (by decide)]) s3
  · rw [up_oj (by decide), up_oc (by decide), up_same, s4, nI_1, cO, if_pos hp, Nat.add_comm]
  · rw [dOp_up (by decide), dOp_up (by decide), dOp_up (by decide), dAr_up (by decide), dAr_up (by decide), dAr_up (by decide), s6, cD, if_neg (by rcases hp with rfl | rfl <;> decide), Nat.zero_add]
  · exact fra_tr s7 (fra_tr (fra_104 (Or.inl rfl)) (fra_tr fra_120 (fra_104 (Or.inr rfl))))
  · rw [up_oj (by decide), up_oc (by decide), up_oj (by decide)]
def SetQ (c0 c k : Nat) (ps : List Int32) (h0 h g : PH) : Prop := ∃ c' k', c' + k' = c + k ∧ cE ps ≤ k' ∧ AS c0 c' k' 1 ps h0 g ∧ g 104 14 = h 104 14 ∧ g 104 15 = h 104 15
theorem settle_go (c0 : Nat) (h0 : PH) (p : Int32) (hp : p = 9 ∨ p = 10 ∨ p = 11) : ∀ (ps : List Int32) (n c k : Nat) (hv : PH), ps.length < n → ps.length ≤ 40 → cE ps ≤ k → AS c0 c k 1 ps h0 hv → Sf (mm_settles_L0 p n hv) (SetQ c0 c k (dr p ps) h0 hv) := by
  intro ps
  induction ps with
  | nil =>
    intro n c k hv hn hl he st
    obtain ⟨m, rfl⟩ : ∃ m, n = m + 1 := ⟨n - 1, by omega⟩
    rw [mm_settles_L0]
    have e : hv 104 28 = 0 := st.2.1
    rw [e, if_pos (by decide)]
    exact s_some ⟨c, k, rfl, he, st, rfl, rfl⟩
  | cons q r ih =>
    intro n c k hv hn hl he st
    have st0 := st
    obtain ⟨s1, s2, s3, s4, s5, s6, s7⟩ := st
    obtain ⟨m, rfl⟩ : ∃ m, n = m + 1 := ⟨n - 1, by omega⟩
    rw [List.length_cons] at hn hl s2
    rw [mm_settles_L0, s2, if_neg (by
      rw [Int32.le_iff_toInt_le, nI_toInt (by omega)]
      simp only [show (0 : Int32).toInt = 0 from rfl]
      omega), nI_pred, ck_nI (by omega) (by decide), show ix (nI r.length) = r.length from nI_clamp (by omega), s3.1]
    by_cases e : q = p
    · subst e
      rw [if_pos rfl, lt_e, dr, if_pos rfl]
      have n12 : ¬ q = 12 := by rcases hp with rfl | rfl | rfl <;> decide
      rw [cE, if_neg n12] at he
      obtain ⟨k', rfl⟩ : ∃ k', k = k' + 1 := ⟨k - 1, by omega⟩
      obtain ⟨em, st2⟩ := rs_emit (rs_104 s1 (Or.inr rfl) (nI r.length)) q 0
      rw [em, bd_e]
      have fA : FRc c (up hv 104 28 (nI r.length)) (emO (up hv 104 28 (nI r.length)) c q 0) := frc_emO
      have fr : FRa c0 h0 (emO (up hv 104 28 (nI r.length)) c q 0) := fra_tr s7 (fra_tr (fra_104 (Or.inr rfl)) (fra_c s5 fA))
      have g28 : emO (up hv 104 28 (nI r.length)) c q 0 104 28 = nI r.length := by rw [emO_104 (by decide), up_same]
      have g26 : emO (up hv 104 28 (nI r.length)) c q 0 104 26 = nI (cO (q :: r)) := by rw [emO_104 (by decide), up_oj (by decide)]; exact s4
      have gp : Pd r (emO (up hv 104 28 (nI r.length)) c q 0) := pd_fr r (fun j _ => by rw [emO_b 120 (by decide) (by decide) (by decide), up_oc (by decide)]) s3.2
      have g14 : emO (up hv 104 28 (nI r.length)) c q 0 104 14 = hv 104 14 := by rw [emO_104 (by decide), up_oj (by decide)]
      have g15 : emO (up hv 104 28 (nI r.length)) c q 0 104 15 = hv 104 15 := by rw [emO_104 (by decide), up_oj (by decide)]
      have gd : dep (dOp (emO (up hv 104 28 (nI r.length)) c q 0)) (dAr (emO (up hv 104 28 (nI r.length)) c q 0)) c0 (c + 1 - c0) c0 0 = some (cD r + 1) := by
        rw [show c + 1 - c0 = (c - c0) + 1 by omega]
        have o : dOp (emO (up hv 104 28 (nI r.length)) c q 0) c = q := emO_op.1
        refine dep_one (d1 := cD (q :: r) + 1) ?_ ?_
        · rw [dep_lo fA c0 (c - c0) c0 0 (by omega), dOp_up (by decide), dAr_up (by decide)]; exact s6
        · rw [show c0 + (c - c0) = c by omega]
          by_cases e9 : q = 9
          · unfold stC
            rw [o, if_neg (by rw [e9]; decide), if_neg (by rw [e9]; decide), if_pos e9, if_pos (by omega), cD, if_neg (by rw [e9]; decide), Nat.zero_add]
          · have h2 : q = 10 ∨ q = 11 := by
              rcases hp with z | z | z
              · exact absurd z e9
              · exact Or.inl z
              · exact Or.inr z
            rw [cD, if_pos h2, show 1 + cD r + 1 = cD r + 2 by omega]
            refine stC_bin (by rw [o]; rcases h2 with z | z <;> rw [z] <;> decide) (by rw [o]; rcases h2 with z | z <;> rw [z] <;> decide) (by rw [o]; exact e9) (fun z => ?_)
            rw [o] at z
            rcases h2 with w | w <;> rw [w] at z <;> exact absurd z (by decide)
      generalize emO (up hv 104 28 (nI r.length)) c q 0 = g at st2 fr g28 g26 gp g14 g15 gd ⊢
      by_cases e9 : q = 9
      · rw [if_pos e9, lt_e]
        rw [cO, if_pos (Or.inl e9), Nat.add_comm] at g26
        refine s_w (ih m (c + 1) k' _ (by omega) (by omega) (by omega) ⟨rs_104 st2 (Or.inl rfl) _, ?_, ?_, ?_, by omega, ?_, fra_tr fr (fra_104 (Or.inl rfl))⟩) (fun g2 w => ?_)
        · rw [up_oj (by decide)]; exact g28
        · exact pd_fr r (fun j _ => by rw [up_oc (by decide)]) gp
        · rw [up_same, g26, nI_pred]
        · rw [dOp_up (by decide), dAr_up (by decide)]; exact gd
        · obtain ⟨c', k2, w1, w2, w3, w4, w5⟩ := w
          exact ⟨c', k2, by omega, w2, w3, by rw [w4, up_oj (by decide)]; exact g14, by rw [w5, up_oj (by decide)]; exact g15⟩
      · rw [if_neg e9]
        rw [cO, if_neg (by intro z; rcases z with z | z; exact e9 z; exact n12 z), Nat.zero_add] at g26
        refine s_w (ih m (c + 1) k' _ (by omega) (by omega) (by omega) ⟨st2, g28, gp, g26, by omega, gd, fr⟩) (fun g2 w => ?_)
        obtain ⟨c', k2, w1, w2, w3, w4, w5⟩ := w
        exact ⟨c', k2, by omega, w2, w3, by rw [w4]; exact g14, by rw [w5]; exact g15⟩
    · rw [if_neg e, dr, if_neg e]
      exact s_some ⟨c, k, rfl, he, st0, rfl, rfl⟩
theorem sf_m_settles {c0 c k : Nat} {h0 hv : PH} (p : Int32) (hp : p = 9 ∨ p = 10 ∨ p = 11) {ps : List Int32} (hl : ps.length ≤ 40) (he : cE ps ≤ k) (st : AS c0 c k 1 ps h0 hv) : Sf (mm_settles p hv) (SetQ c0 c k (dr p ps) h0 hv) := by
  unfold mm_settles
  exact settle_go c0 h0 p hp ps FU c k hv (by unfold FU; omega) hl he st
