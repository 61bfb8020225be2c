/-! THE LAW TELLS alike -/
abbrev LNS : Type := List (Nat × List (Nat × Nat) × List (Nat × Nat))
def LWc (Ls : LNS) (h : PH) : Prop := h 6 1 = 5 ∧ h 6 3 = nI Ls.length ∧ h 8 1 = 2 ∧ h 8 3 = nI (cdo Ls).length ∧ CDc (cdo Ls) 0 h ∧ ∀ r w A W, Ls[r]? = some (w, A, W) → h 7 (5 * r) = nI w ∧ h 7 (5 * r + 1) = nI (cdo (Ls.take r)).length ∧ h 7 (5 * r + 2) = nI (cdo (Ls.take r) ++ A).length ∧ h 7 (5 * r + 3) = nI (cdo (Ls.take r) ++ A ++ W).length
def LWm (Ls : LNS) (h : PH) : Prop := h 113 0 = nI Ls.length ∧ CDm (cdo Ls) 0 h ∧ ∀ r w A W, Ls[r]? = some (w, A, W) → h 114 r = nI w ∧ h 115 r = nI (xp (cdo (Ls.take r))).length ∧ h 116 r = nI (xp (cdo (Ls.take r) ++ A)).length ∧ h 117 r = nI (xp (cdo (Ls.take r) ++ A ++ W)).length
/-- the law that was told, on both sides -/
def LW (Ls : LNS) (hc hm : PH) : Prop := Ls.length ≤ 16 ∧ (xp (cdo Ls)).length ≤ 400 ∧ LQ Ls ∧ LWc Ls hc ∧ LWm Ls hm
theorem lwc_of {Ls : LNS} {h g : PH} (l : LWc Ls h) (f : ∀ b, 6 ≤ b → b ≤ 9 → g b = h b) : LWc Ls g := by
  unfold LWc CDc at l ⊢
  rw [f 6 (by decide) (by decide), f 7 (by decide) (by decide), f 8 (by decide) (by decide), f 9 (by decide) (by decide)]
  exact l
theorem lwm_of {Ls : LNS} {h g : PH} (l : LWm Ls h) (f : ∀ b, 113 ≤ b → b ≤ 119 → g b = h b) : LWm Ls g := by
  unfold LWm CDm at l ⊢
  rw [f 113 (by decide) (by decide), f 114 (by decide) (by decide), f 115 (by decide) (by decide), f 116 (by decide) (by decide), f 117 (by decide) (by decide), f 118 (by decide) (by decide), f 119 (by decide) (by decide)]
  exact l
theorem cdo_at {Ls : LNS} {r w : Nat} {A W : List (Nat × Nat)} (h : Ls[r]? = some (w, A, W)) : ∃ R, cdo Ls = cdo (Ls.take r) ++ (A ++ (W ++ R)) := by
  obtain ⟨hr, e⟩ := List.getElem?_eq_some_iff.mp h
  have d : Ls = Ls.take r ++ (w, A, W) :: Ls.drop (r + 1) := by
    rw [← e, ← List.drop_eq_getElem_cons hr, List.take_append_drop]
  refine ⟨cdo (Ls.drop (r + 1)), ?_⟩
  have : cdo (Ls.take r ++ (w, A, W) :: Ls.drop (r + 1)) = cdo (Ls.take r) ++ (A ++ (W ++ cdo (Ls.drop (r + 1)))) := by
    unfold cdo
    rw [List.flatMap_append, List.flatMap_cons]
    simp only [List.append_assoc]
  rw [← d] at this
  exact this
theorem cdc_sub {P A R : List (Nat × Nat)} {h : PH} (c : CDc (P ++ (A ++ R)) 0 h) : CDc A P.length h := fun j k v hj => by
  obtain ⟨a, _⟩ := List.getElem?_eq_some_iff.mp hj
  have e : (P ++ (A ++ R))[P.length + j]? = some (k, v) := by
    rw [List.getElem?_append_right (by omega), Nat.add_sub_cancel_left, List.getElem?_append_left a]
    exact hj
  have := c (P.length + j) k v e
  rw [Nat.zero_add] at this
  exact this
theorem cdm_sub {P A R : List (Nat × Nat)} {h : PH} (c : CDm (P ++ (A ++ R)) 0 h) : CDm A (xp P).length h := fun j k v hj => by
  obtain ⟨a, _⟩ := List.getElem?_eq_some_iff.mp hj
  have e : (xp (P ++ (A ++ R)))[(xp P).length + j]? = some (k, v) := by
    rw [xp_app, xp_app, List.getElem?_append_right (by omega), Nat.add_sub_cancel_left, List.getElem?_append_left a]
    exact hj
  have := c ((xp P).length + j) k v e
  rw [Nat.zero_add] at this
  exact this
/-- what the law may ask of a house -/
def KV (h : PH) (i w v : Nat) : Int32 := if v = 0 then h 2 (11 * i + w) else if v = 1 then sm4 h i else if v = 2 then h 2 (11 * i + 4) else if v = 3 then h 2 (11 * i + 5) else if v = 4 then h 2 (11 * i + 6) else if v = 5 then h 2 (11 * i + 8) else if v = 6 then h 2 (11 * i + 7) else if v = 7 then h 2 (11 * i + 9) else if v = 8 then h 2 (11 * i + 10) else if v = 9 then h 1 2 else if v = 10 then h 1 3 else h 1 6
theorem tb35 {A : Nat → Prop} {H : Nat} {hc hm : PH} (t : TW A H hc hm) (c j : Nat) (v : Int32) (hc2 : 2 < c) : TW A H (up hc c j v) hm := tb_of t (up_cell (by omega)) (up_cell (by omega)) rfl rfl rfl rfl
theorem up35 {h : PH} {j : Nat} {v : Int32} {i : Nat} : sm4 (up h 35 j v) i = sm4 h i := by
  unfold sm4
  rw [up_oc (by decide), up_oc (by decide), up_oc (by decide), up_oc (by decide)]
theorem ga_at {H : Nat} {hc hm : PH} (t : TW AA H hc hm) {i w : Nat} (hi : i < H) (hw : w < 4) : ∃ g, mW_gather 1 (nI i) (nI w) hc = some g ∧ (∀ v, v < 12 → g 35 v = KV hc i w v) ∧ ∀ b, b ≠ 35 → g b = hc b := by
  have ckk : ∀ (k : Int32) (n : Nat) (q : Option PH), k = nI n → n < 12 → ck k 12 q = q := fun k n q e h => by rw [e, ck_nI h (by decide)]
  have x : ∀ k, k < 12 → ix (nI k) = k := fun k hk => nI_clamp (by omega)
  unfold mW_gather
  rw [rdB t hi (show w < 11 by omega), bd_e, ckk 0 0 _ rfl (by decide), lt_e, show ix (0 : Int32) = 0 from rfl]
  have t1 := tb35 t 35 0 (hc 2 (11 * i + w)) (by decide)
  rw [suB t1 hi, bd_e, ckk 1 1 _ rfl (by decide), lt_e, show ix (1 : Int32) = 1 from rfl, up35]
  have t2 := tb35 t1 35 1 (sm4 hc i) (by decide)
  rw [show mB_read 1 (nI i) 4 _ = _ from rdB t2 hi (c := 4) (by decide), bd_e, ckk 2 2 _ rfl (by decide), lt_e, show ix (2 : Int32) = 2 from rfl, up_oc (show (2 : Nat) ≠ 35 by decide), up_oc (show (2 : Nat) ≠ 35 by decide)]
  have t3 := tb35 t2 35 2 (hc 2 (11 * i + 4)) (by decide)
  rw [show mB_read 1 (nI i) 5 _ = _ from rdB t3 hi (c := 5) (by decide), bd_e, ckk 3 3 _ rfl (by decide), lt_e, show ix (3 : Int32) = 3 from rfl, up_oc (show (2 : Nat) ≠ 35 by decide), up_oc (show (2 : Nat) ≠ 35 by decide), up_oc (show (2 : Nat) ≠ 35 by decide)]
  have t4 := tb35 t3 35 3 (hc 2 (11 * i + 5)) (by decide)
  rw [show mB_read 1 (nI i) 6 _ = _ from rdB t4 hi (c := 6) (by decide), bd_e, ckk 4 4 _ rfl (by decide), lt_e, show ix (4 : Int32) = 4 from rfl, up_oc (show (2 : Nat) ≠ 35 by decide), up_oc (show (2 : Nat) ≠ 35 by decide), up_oc (show (2 : Nat) ≠ 35 by decide), up_oc (show (2 : Nat) ≠ 35 by decide)]
  have t5 := tb35 t4 35 4 (hc 2 (11 * i + 6)) (by decide)
  rw [show mB_read 1 (nI i) 8 _ = _ from rdB t5 hi (c := 8) (by decide), bd_e, ckk 5 5 _ rfl (by decide), lt_e, show ix (5 : Int32) = 5 from rfl, up_oc (show (2 : Nat) ≠ 35 by decide), up_oc (show (2 : Nat) ≠ 35 by decide), up_oc (show (2 : Nat) ≠ 35 by decide), up_oc (show (2 : Nat) ≠ 35 by decide), up_oc (show (2 : Nat) ≠ 35 by decide)]
  have t6 := tb35 t5 35 5 (hc 2 (11 * i + 8)) (by decide)
  rw [show mB_read 1 (nI i) 7 _ = _ from rdB t6 hi (c := 7) (by decide), bd_e, ckk 6 6 _ rfl (by decide), lt_e, show ix (6 : Int32) = 6 from rfl, up_oc (show (2 : Nat) ≠ 35 by decide), up_oc (show (2 : Nat) ≠ 35 by decide), up_oc (show (2 : Nat) ≠ 35 by decide), up_oc (show (2 : Nat) ≠ 35 by decide), up_oc (show (2 : Nat) ≠ 35 by decide), up_oc (show (2 : Nat) ≠ 35 by decide)]
  have t7 := tb35 t6 35 6 (hc 2 (11 * i + 7)) (by decide)
  rw [show mB_read 1 (nI i) 9 _ = _ from rdB t7 hi (c := 9) (by decide), bd_e, ckk 7 7 _ rfl (by decide), lt_e, show ix (7 : Int32) = 7 from rfl, up_oc (show (2 : Nat) ≠ 35 by decide), up_oc (show (2 : Nat) ≠ 35 by decide), up_oc (show (2 : Nat) ≠ 35 by decide), up_oc (show (2 : Nat) ≠ 35 by decide), up_oc (show (2 : Nat) ≠ 35 by decide), up_oc (show (2 : Nat) ≠ 35 by decide), up_oc (show (2 : Nat) ≠ 35 by decide)]
  have t8 := tb35 t7 35 7 (hc 2 (11 * i + 9)) (by decide)
  rw [show mB_read 1 (nI i) 10 _ = _ from rdB t8 hi (c := 10) (by decide), bd_e, ckk 8 8 _ rfl (by decide), lt_e, show ix (8 : Int32) = 8 from rfl, up_oc (show (2 : Nat) ≠ 35 by decide), up_oc (show (2 : Nat) ≠ 35 by decide), up_oc (show (2 : Nat) ≠ 35 by decide), up_oc (show (2 : Nat) ≠ 35 by decide), up_oc (show (2 : Nat) ≠ 35 by decide), up_oc (show (2 : Nat) ≠ 35 by decide), up_oc (show (2 : Nat) ≠ 35 by decide), up_oc (show (2 : Nat) ≠ 35 by decide)]
  rw [ckk 9 9 _ rfl (by decide), lt_e, ckk 10 10 _ rfl (by decide), lt_e, ckk 11 11 _ rfl (by decide), lt_e, show ix (9 : Int32) = 9 from rfl, show ix (10 : Int32) = 10 from rfl, show ix (11 : Int32) = 11 from rfl]
  refine ⟨_, rfl, fun v hv => ?_, fun b hb => ?_⟩
  · have h12 : v = 0 ∨ v = 1 ∨ v = 2 ∨ v = 3 ∨ v = 4 ∨ v = 5 ∨ v = 6 ∨ v = 7 ∨ v = 8 ∨ v = 9 ∨ v = 10 ∨ v = 11 := by omega
    rcases h12 with e | e | e | e | e | e | e | e | e | e | e | e <;> subst e <;> simp [up_at, KV]
  · rw [up_cell hb, up_cell hb, up_cell hb, up_cell hb, up_cell hb, up_cell hb, up_cell hb, up_cell hb, up_cell hb, up_cell hb, up_cell hb, up_cell hb]
theorem tb124 {A : Nat → Prop} {H : Nat} {hc hm : PH} (t : TW A H hc hm) (c j : Nat) (v : Int32) (h4 : c ≠ 104 ∧ c ≠ 105 ∧ c ≠ 108 ∧ c ≠ 109) : TW A H hc (up hm c j v) := tb_of t rfl rfl (up_oc (fun z => h4.1 z.symm)) (up_cell (fun z => h4.2.1 z.symm)) (up_cell (fun z => h4.2.2.1 z.symm)) (up_cell (fun z => h4.2.2.2 z.symm))
theorem as_at {H : Nat} {hc hm : PH} (t : TW AA H hc hm) {i w : Nat} (hi : i < H) (hw : w < 4) : ∃ g, mm_asks (nI i) (hc 2 (11 * i + w)) hm = some g ∧ (∀ v, v < 12 → g 124 v = KV hc i w v) ∧ ∀ b, b ≠ 124 → g b = hm b := by
  have h12 := t.1
  have ckk : ∀ (k : Int32) (n : Nat) (q : Option PH), k = nI n → n < 12 → ck k 12 q = q := fun k n q e h => by rw [e, ck_nI h (by decide)]
  have cki : ∀ (q : Option PH), ck (nI i) 12 q = q := fun q => ck_nI (by omega) (by decide)
  have ixi : ix (nI i) = i := nI_clamp (by omega)
  have ckc : ∀ (n : Nat) (q : Option PH), n + i < 115 → ck (nI (n + i)) 115 q = q := fun n q h => ck_nI h (by decide)
  have ixc : ∀ n : Nat, n < 104 → ix (nI (n + i)) = n + i := fun n h => nI_clamp (by omega)
  have ck5 : ∀ (k : Int32) (n : Nat) (q : Option PH), k = nI n → n < 115 → ck k 115 q = q := fun k n q e h => by rw [e, ck_nI h (by decide)]
  unfold mm_asks
  rw [ckk 0 0 _ rfl (by decide), lt_e, show ix (0 : Int32) = 0 from rfl]
  have t1 := tb124 t 124 0 (hc 2 (11 * i + w)) (by decide)
  rw [suM t1 hi, bd_e, ckk 1 1 _ rfl (by decide), lt_e, show ix (1 : Int32) = 1 from rfl, cki, ckk 2 2 _ rfl (by decide), lt_e, cki, ckk 3 3 _ rfl (by decide), lt_e, show (55 : Int32) + nI i = nI (55 + i) from nI_add 55 i, show (67 : Int32) + nI i = nI (67 + i) from nI_add 67 i, show (79 : Int32) + nI i = nI (79 + i) from nI_add 79 i, show (91 : Int32) + nI i = nI (91 + i) from nI_add 91 i, show (103 : Int32) + nI i = nI (103 + i) from nI_add 103 i, ckc 55 _ (by omega), ckk 4 4 _ rfl (by decide), lt_e, ckc 67 _ (by omega), ckk 5 5 _ rfl (by decide), lt_e, ckc 79 _ (by omega), ckk 6 6 _ rfl (by decide), lt_e, ckc 91 _ (by omega), ckk 7 7 _ rfl (by decide), lt_e, ckc 103 _ (by omega), ckk 8 8 _ rfl (by decide), lt_e, ck5 3 3 _ rfl (by decide), ckk 9 9 _ rfl (by decide), lt_e, ck5 4 4 _ rfl (by decide), ckk 10 10 _ rfl (by decide), lt_e, ck5 0 0 _ rfl (by decide), ckk 11 11 _ rfl (by decide), lt_e]
  rw [ixi, ixc 55 (by decide), ixc 67 (by decide), ixc 79 (by decide), ixc 91 (by decide), ixc 103 (by decide), show ix (2 : Int32) = 2 from rfl, show ix (3 : Int32) = 3 from rfl, show ix (4 : Int32) = 4 from rfl, show ix (5 : Int32) = 5 from rfl, show ix (6 : Int32) = 6 from rfl, show ix (7 : Int32) = 7 from rfl, show ix (8 : Int32) = 8 from rfl, show ix (9 : Int32) = 9 from rfl, show ix (10 : Int32) = 10 from rfl, show ix (11 : Int32) = 11 from rfl]
  obtain ⟨m4, m5, m6, m7, m8, m9, m10'⟩ := colM t hi
  have m10 := m10' trivial
  have f2 := t.2.2.2.1 2 (by decide) (by decide)
  have f3 := t.2.2.2.1 3 (by decide) (by decide)
  have f6 := t.2.2.2.1 6 (by decide) (by decide)
  have f2 : hc 1 2 = hm 105 3 := f2
  have f3 : hc 1 3 = hm 105 4 := f3
  have f6 : hc 1 6 = hm 105 0 := f6
  refine ⟨_, rfl, fun v hv => ?_, fun b hb => ?_⟩
  · have h12 : v = 0 ∨ v = 1 ∨ v = 2 ∨ v = 3 ∨ v = 4 ∨ v = 5 ∨ v = 6 ∨ v = 7 ∨ v = 8 ∨ v = 9 ∨ v = 10 ∨ v = 11 := by omega
    rcases h12 with e | e | e | e | e | e | e | e | e | e | e | e <;> subst e <;> simp [up_at, KV, m4, m5, m6, m7, m8, m9, m10, f2, f3, f6]
  · rw [up_cell hb, up_cell hb, up_cell hb, up_cell hb, up_cell hb, up_cell hb, up_cell hb, up_cell hb, up_cell hb, up_cell hb, up_cell hb, up_cell hb]
theorem he_e (y : Int32) (m : Nat) (hm : m = 99 ∨ m = 1000) (h g : PH) : mW_held y (nI m) h = some (imax 0 (imin (nI m) y)) ∧ mm_held y 0 (nI m) g = some (imax 0 (imin (nI m) y)) := by
  refine ⟨rfl, ?_⟩
  have mt : (nI m).toInt = (m : Int) := nI_toInt (by omega)
  have z : (0 : Int32).toInt = 0 := rfl
  unfold mm_held imax imin
  by_cases c1 : (0 : Int32) ≤ y
  · rw [if_pos c1]
    rw [Int32.le_iff_toInt_le, z] at c1
    by_cases c2 : y ≤ nI m
    · rw [if_pos c2]
      rw [Int32.le_iff_toInt_le, mt] at c2
      have e : (if y < nI m then y else nI m) = y := by
        by_cases c3 : y < nI m
        · rw [if_pos c3]
        · rw [if_neg c3]
          rw [Int32.lt_iff_toInt_lt, mt] at c3
          exact Int32.toInt_inj.mp (by rw [mt]; omega)
      rw [e]
      by_cases c4 : (0 : Int32) < y
      · rw [if_pos c4]
      · rw [if_neg c4]
        rw [Int32.lt_iff_toInt_lt, z] at c4
        have : y = 0 := Int32.toInt_inj.mp (by rw [z]; omega)
        rw [this]
    · rw [if_neg c2]
      rw [Int32.le_iff_toInt_le, mt] at c2
      have c3 : ¬ y < nI m := by rw [Int32.lt_iff_toInt_lt, mt]; omega
      rw [if_neg c3, if_pos (by rw [Int32.lt_iff_toInt_lt, mt, z]; omega)]
  · rw [if_neg c1]
    rw [Int32.le_iff_toInt_le, z] at c1
    have c3 : y < nI m := by rw [Int32.lt_iff_toInt_lt, mt]; omega
    rw [if_pos c3, if_neg (by rw [Int32.lt_iff_toInt_lt, z]; omega)]
theorem at_6 {h : PH} {m r c : Nat} (c1 : h 6 1 = 5) (c3 : h 6 3 = nI m) (hm : m ≤ 16) (hr : r < m) (hc : c < 5) : mR_at 6 (nI r) (nI c) h = some (h 7 (5 * r + c)) := by
  unfold mR_at
  rw [if_neg (nI_pos (by omega)), c3, if_neg (nI_ge hr (by omega)), if_neg (nI_pos (by omega)), c1, if_pos (show nI c < (5 : Int32) from nI_lt (b := 5) hc (by decide)), show nI r * (5 : Int32) = nI (r * 5) from nI_mul r 5, nI_add, show ln (6 + 1) = 80 from rfl, ck_nI (by omega) (by decide), show ix (nI (r * 5 + c)) = r * 5 + c from nI_clamp (by omega), Nat.mul_comm r 5]
def F3c (h g : PH) : Prop := ∀ b, b ≠ 34 → b ≠ 35 → b ≠ 36 → g b = h b
def F2m (h g : PH) : Prop := ∀ b, b ≠ 124 → b ≠ 125 → g b = h b
/-- a part of a line, run on both sides -/
theorem rn_2 {Ls : LNS} {hc hm gc gm : PH} (l : LW Ls hc hm) (fc : F3c hc gc) (fm : F2m hm gm) {K : Nat → Int32} (kc : ∀ v, v < 12 → gc 35 v = K v) (km : ∀ v, v < 12 → gm 124 v = K v) {P A R : List (Nat × Nat)} (e : cdo Ls = P ++ (A ++ R)) {T : Int32 → Prop} {n : Nat} (n64 : n ≤ 64) (q : Qv T n A) : ∃ x gc' gm', T x ∧ mW_run (nI P.length) (nI (P.length + A.length)) gc = some (x, gc') ∧ mm_runs 0 (nI (xp P).length) (nI ((xp P).length + (xp A).length)) gm = some (x, gm') ∧ F3c hc gc' ∧ gc' 35 = gc 35 ∧ F2m hm gm' ∧ gm' 124 = gm 124 := by
  obtain ⟨l1, l2, l3, ⟨a1, a2, a3, a4, a5, a6⟩, ⟨b1, b2, b3⟩⟩ := l
  obtain ⟨ok, f, f1, f2⟩ := q
  have le := xp_le (cdo Ls)
  have kk : ∀ C : List (Nat × Nat), (∀ c, c ∈ C → okC c) → ∀ K' : Nat → Int32, (∀ v, v < 12 → K' v = K v) → ∀ st, evC K' C st = evC K C st := fun C hC K' hK => by
    induction C with
    | nil => intro st; rfl
    | cons c C ih =>
      intro st
      have o := hC c List.mem_cons_self
      have e1 : s1C K' c st = s1C K c st := by
        unfold s1C
        by_cases c1 : c.1 = 1
        · rw [if_neg (show ¬ c.1 = 0 by omega), if_pos c1, if_neg (show ¬ c.1 = 0 by omega), if_pos c1, hK _ (o.2.2.1 c1)]
        · rw [if_neg c1, if_neg c1]
      rw [evC, evC, e1]
      cases s1C K c st with
      | none => rfl
      | some x => rw [bd_e, bd_e]; exact ih (fun c hc => hC c (List.mem_cons_of_mem _ hc)) x
  have km' : ∀ C : List (Nat × Nat), (∀ c, c ∈ C → okC c) → ∀ K' : Nat → Int32, (∀ v, v < 12 → K' v = K v) → ∀ st, evM K' (xp C) st = evM K (xp C) st := fun C hC K' hK => by
    have s1 : ∀ (k v : Nat) (st : List Int32), (k = 1 → v < 12) → s1M K' (k, v) st = s1M K (k, v) st := fun k v st hv => by
      unfold s1M
      by_cases c1 : k = 1
      · have c1' : (k, v).1 = 1 := c1
        rw [if_neg (by omega), if_pos c1', if_neg (by omega), if_pos c1', hK _ (hv c1)]
      · have c1' : ¬ (k, v).1 = 1 := c1
        rw [if_neg c1', if_neg c1']
    induction C with
    | nil => intro st; rfl
    | cons c C ih =>
      intro st
      obtain ⟨k, v⟩ := c
      have o := hC (k, v) List.mem_cons_self
      have ih' := ih (fun c hc => hC c (List.mem_cons_of_mem _ hc))
      rw [xp]
      split
      · rw [evM, evM, s1 0 v st (fun z => by cases z)]
        cases s1M K (0, v) st with
        | none => rfl
        | some x =>
          rw [bd_e, bd_e, evM, evM, s1 5 0 x (fun z => by cases z)]
          cases s1M K (5, 0) x with
          | none => rfl
          | some y => rw [bd_e, bd_e]; exact ih' y
      · rw [evM, evM, s1 k v st o.2.2.1]
        cases s1M K (k, v) st with
        | none => rfl
        | some x => rw [bd_e, bd_e]; exact ih' x
  have fe := f2 K [] (by simp; omega)
  have g8 : gc 8 = hc 8 := fc 8 (by decide) (by decide) (by decide)
  have g9 : gc 9 = hc 9 := fc 9 (by decide) (by decide) (by decide)
  have len : P.length + A.length ≤ (cdo Ls).length := by rw [e, List.length_append, List.length_append]; omega
  have lenx : (xp P).length + (xp A).length ≤ (xp (cdo Ls)).length := by rw [e, xp_app, xp_app, List.length_append, List.length_append]; omega
  rw [e] at a5 b2
  obtain ⟨gc', u1, u2⟩ := wrun_1 (m := (cdo Ls).length) (by omega) (C := A) (p := P.length) (h := gc) (x := f K) (by rw [g8]; exact a3) (by rw [g8]; exact a4) len ok (fun j k v hj => by rw [g9]; exact cdc_sub a5 j k v hj) (by rw [kk A ok _ kc]; exact fe.1)
  obtain ⟨gm', w1, w2⟩ := mrun_1 (C := A) (p := (xp P).length) (h := gm) (x := f K) (by omega) ok (fun j k v hj => by rw [fm 118 (by decide) (by decide), fm 119 (by decide) (by decide)]; exact cdm_sub b2 j k v hj) (by rw [km' A ok _ km]; exact fe.2)
  exact ⟨f K, gc', gm', f1 K, u1, w1, fun b b1 b2 b3 => by rw [u2 b b1 b3, fc b b1 b2 b3], u2 35 (by decide) (by decide), fun b b1 b2 => by rw [w2 b b2, fm b b1 b2], w2 124 (by decide)⟩
