/-! THE LAW TELLS alike: line after line -/
theorem xl_eq (D W : List (Nat × Nat)) : (xp (D ++ W)).length = (xp D).length + (xp W).length := by rw [xp_app, List.length_append]
theorem lo_loop {Ls : LNS} {H : Nat} {hc hm : PH} (l : LW Ls hc hm) (t : TW AA H hc hm) {i w word : Nat} (hi : i < H) (hw : w < 4) (hwd : word < 3) (p5 : Int32) : ∀ (n nM r : Nat) (fl : Int32) (gc gm : PH), 17 < n + r → 17 < nM + r → r ≤ Ls.length → (fl = 0 ∨ (fl = 1 ∧ ∀ v, v < 12 → gc 35 v = KV hc i w v)) → F3c hc gc → F2m hm gm → (∀ v, v < 12 → gm 124 v = KV hc i w v) →
    (∃ q wd A W gc' gm', Ls[q]? = some (wd, A, W) ∧ (∀ k0 k1, mW_tells_L22 1 (nI i) (nI w) (nI word) p5 k0 k1 n fl (nI r) gc = k0 (nI q) gc') ∧ mm_lineOf_L2 (nI word) nM (nI r) gm = some (nI q, gm') ∧ (∀ v, v < 12 → gc' 35 v = KV hc i w v) ∧ (∀ v, v < 12 → gm' 124 v = KV hc i w v) ∧ F3c hc gc' ∧ F2m hm gm') ∨
    (∃ gc' gm', (∀ k0 k1, mW_tells_L22 1 (nI i) (nI w) (nI word) p5 k0 k1 n fl (nI r) gc = k1 gc') ∧ mm_lineOf_L2 (nI word) nM (nI r) gm = some (-1, gm') ∧ F3c hc gc' ∧ F2m hm gm') := by
  intro n
  have l16 := l.1
  have l400 := l.2.1
  have le4 := xp_le (cdo Ls)
  induction n with
  | zero => intro nM r fl gc gm h1 h2 h3; omega
  | succ n ih =>
    intro nM r fl gc gm h1 h2 h3 hf fc fm km
    cases nM with
    | zero => omega
    | succ nM =>
    have lc := lwc_of l.2.2.2.1 (g := gc) (fun b b1 b2 => fc b (by omega) (by omega) (by omega))
    have lm := lwm_of l.2.2.2.2 (g := gm) (fun b b1 b2 => fm b (by omega) (by omega))
    have ck0 : ∀ (q : Option (Int32 × PH)), ck 0 2 q = q := fun q => ck_nI (i := 0) (by decide) (by decide)
    have ml : ∀ K : Prop, True := fun _ => trivial
    by_cases c : r = Ls.length
    · refine Or.inr ⟨gc, gm, fun k0 k1 => ?_, ?_, fc, fm⟩
      · rw [mW_tells_L22, lc.2.1, if_pos (nI_le (by omega) (by omega))]
      · rw [mm_lineOf_L2, ck0, show ix (0 : Int32) = 0 from rfl, lm.1, if_pos (nI_le (by omega) (by omega))]
    · have hr : r < Ls.length := by omega
      obtain ⟨⟨wd, A, W⟩, hl⟩ : ∃ x, Ls[r]? = some x := ⟨Ls[r], List.getElem?_eq_getElem hr⟩
      obtain ⟨c0, c1, c2, c3⟩ := lc.2.2.2.2.2 r wd A W hl
      obtain ⟨m0, m1, m2, m3⟩ := lm.2.2 r wd A W hl
      obtain ⟨R, eR⟩ := cdo_at hl
      have lq := l.2.2.1 (wd, A, W) (List.mem_of_getElem? hl)
      have wd3 : wd < 3 := lq.1
      have ckr : ∀ (q : Option (Int32 × PH)), ck (nI r) 48 q = q := fun q => ck_nI (by omega) (by decide)
      have ixr : ix (nI r) = r := nI_clamp (by omega)
      have at0 : mR_at 6 (nI r) 0 gc = some (nI wd) := by
        have := at_6 (c := 0) lc.1 lc.2.1 l16 hr (by decide)
        rw [Nat.add_zero, c0] at this
        exact this
      have lenP : (cdo (Ls.take r) ++ A ++ W).length ≤ (cdo Ls).length := by rw [eR]; simp only [List.length_append]; omega
      have lenX : (xp (cdo (Ls.take r) ++ A ++ W)).length ≤ (xp (cdo Ls)).length := by rw [eR, xl_eq, xl_eq, xl_eq, xl_eq, xl_eq]; omega
      by_cases ew : wd = word
      · -- a line of this word
        have ga : ∃ g, (∀ K : Int32 → PH → Option (Int32 × PH), (if fl = 0 then bd (mW_gather 1 (nI i) (nI w) gc) fun h9 => K 1 h9 else K fl gc) = K 1 g) ∧ (∀ v, v < 12 → g 35 v = KV hc i w v) ∧ F3c hc g := by
          rcases hf with e | ⟨e, kc⟩
          · have tg : TW AA H gc hm := tb_of t (fc 1 (by decide) (by decide) (by decide)) (fc 2 (by decide) (by decide) (by decide)) rfl rfl rfl rfl
            obtain ⟨g, g1, g2, g3⟩ := ga_at tg hi hw
            refine ⟨g, fun K => by rw [if_pos e, g1, bd_e], fun v hv => ?_, fun b b1 b2 b3 => by rw [g3 b b2, fc b b1 b2 b3]⟩
            rw [g2 v hv]
            unfold KV sm4
            rw [fc 1 (by decide) (by decide) (by decide), fc 2 (by decide) (by decide) (by decide)]
          · exact ⟨gc, fun K => by rw [e, if_neg (by decide)], kc, fc⟩
        obtain ⟨g, g1, kc, fg⟩ := ga
        have lg := lwc_of l.2.2.2.1 (g := g) (fun b b1 b2 => fg b (by omega) (by omega) (by omega))
        have at2 : mR_at 6 (nI r) 2 g = some (nI (cdo (Ls.take r) ++ A).length) := by
          have := at_6 (c := 2) lg.1 lg.2.1 l16 hr (by decide)
          rw [(lg.2.2.2.2.2 r wd A W hl).2.2.1] at this
          exact this
        have at3 : mR_at 6 (nI r) 3 g = some (nI (cdo (Ls.take r) ++ A ++ W).length) := by
          have := at_6 (c := 3) lg.1 lg.2.1 l16 hr (by decide)
          rw [(lg.2.2.2.2.2 r wd A W hl).2.2.2] at this
          exact this
        have cls : ∀ k0 k1, mW_tells_L22 1 (nI i) (nI w) (nI word) p5 k0 k1 (n + 1) fl (nI r) gc = bd2 (mW_applies (nI r) g) fun r7 h8 => if r7 = 0 then mW_tells_L22 1 (nI i) (nI w) (nI word) p5 k0 k1 n 1 (nI (r + 1)) h8 else k0 (nI r) h8 := fun k0 k1 => by
          rw [mW_tells_L22, lc.2.1, if_neg (nI_ge hr (by omega)), at0, bd_e, if_pos (by rw [ew]), jn2_e, nI_1]
          exact g1 (fun (x5 : Int32) (h6 : PH) => bd2 (mW_applies (nI r) h6) fun r7 h8 => if r7 = 0 then mW_tells_L22 1 (nI i) (nI w) (nI word) p5 k0 k1 n x5 (nI (r + 1)) h8 else k0 (nI r) h8)
        have mdl : mm_lineOf_L2 (nI word) (nM + 1) (nI r) gm = if nI (xp (cdo (Ls.take r) ++ A)).length = nI (xp (cdo (Ls.take r) ++ A ++ W)).length then some (nI r, gm) else bd2 (mm_runs 0 (nI (xp (cdo (Ls.take r) ++ A)).length) (nI (xp (cdo (Ls.take r) ++ A ++ W)).length) gm) fun r1 h2 => if r1 = 0 then mm_lineOf_L2 (nI word) nM (nI (r + 1)) h2 else some (nI r, h2) := by
          rw [mm_lineOf_L2, ck0, show ix (0 : Int32) = 0 from rfl, lm.1, if_neg (nI_ge hr (by omega)), ckr, ixr, m0, if_pos (by rw [ew]), ckr, ckr, m2, m3, ckr, ckr, nI_1]
        by_cases w0 : W = []
        · subst w0
          rw [List.append_nil] at at3 mdl
          refine Or.inl ⟨r, wd, A, [], g, gm, hl, fun k0 k1 => ?_, ?_, kc, km, fg, fm⟩
          · rw [cls]
            unfold mW_applies
            rw [at2, bd_e, at3, bd_e, if_pos (nI_le (Nat.le_refl _) (by simp only [List.append_nil] at lenP; omega)), bd2_e, if_neg no10]
          · rw [mdl, if_pos rfl]
        · have qW : Qv P01 22 W := by
            rcases lq.2.2 with z | z
            · exact absurd z w0
            · exact z.2
          have wl : 0 < W.length := by
            cases W with
            | nil => exact absurd rfl w0
            | cons a b => rw [List.length_cons]; omega
          have xwl := xp_le W
          have lp : (cdo (Ls.take r) ++ A ++ W).length = (cdo (Ls.take r) ++ A).length + W.length := List.length_append
          have lpx : (xp (cdo (Ls.take r) ++ A ++ W)).length = (xp (cdo (Ls.take r) ++ A)).length + (xp W).length := xl_eq _ _
          obtain ⟨x, gc', gm', px, u1, u2, u3, u4, u5, u6⟩ := rn_2 l fg fm kc km (P := cdo (Ls.take r) ++ A) (A := W) (R := R) (by rw [eR]; simp only [List.append_assoc]) (by decide) qW
          have ap : mW_applies (nI r) g = some (if x = 0 then 0 else 1, gc') := by
            unfold mW_applies
            rw [at2, bd_e, at3, bd_e, if_neg (nI_ge (by omega) (by omega)), lp, u1, bd2_e]
            split <;> rfl
          rw [if_neg (fun z => by have := (nI_eq (by omega) (by omega)).mp z; omega), lpx, u2, bd2_e] at mdl
          have kc' : ∀ v, v < 12 → gc' 35 v = KV hc i w v := fun v hv => by rw [u4]; exact kc v hv
          have km' : ∀ v, v < 12 → gm' 124 v = KV hc i w v := fun v hv => by rw [u6]; exact km v hv
          by_cases x0 : x = 0
          · rw [if_pos x0] at mdl
            have cls' : ∀ k0 k1, mW_tells_L22 1 (nI i) (nI w) (nI word) p5 k0 k1 (n + 1) fl (nI r) gc = mW_tells_L22 1 (nI i) (nI w) (nI word) p5 k0 k1 n 1 (nI (r + 1)) gc' := fun k0 k1 => by
              rw [cls, ap, bd2_e, if_pos x0, if_pos rfl]
            rcases ih nM (r + 1) 1 gc' gm' (by omega) (by omega) (by omega) (Or.inr ⟨rfl, kc'⟩) u3 u5 km' with ⟨q, wd', A', W', gc2, gm2, a1, a2, a3, a4, a5, a6, a7⟩ | ⟨gc2, gm2, a1, a2, a3, a4⟩
            · exact Or.inl ⟨q, wd', A', W', gc2, gm2, a1, fun k0 k1 => by rw [cls', a2], by rw [mdl, a3], a4, a5, a6, a7⟩
            · exact Or.inr ⟨gc2, gm2, fun k0 k1 => by rw [cls', a1], by rw [mdl, a2], a3, a4⟩
          · rw [if_neg x0] at mdl
            exact Or.inl ⟨r, wd, A, W, gc', gm', hl, fun k0 k1 => by rw [cls, ap, bd2_e, if_neg x0, if_neg no10], mdl, kc', km', u3, u5⟩
      · have nw : ¬ nI wd = nI word := fun z => ew ((nI_eq (by omega) (by omega)).mp z)
        rcases ih nM (r + 1) fl gc gm (by omega) (by omega) (by omega) hf fc fm km with ⟨q, wd', A', W', gc2, gm2, a1, a2, a3, a4, a5, a6, a7⟩ | ⟨gc2, gm2, a1, a2, a3, a4⟩
        · refine Or.inl ⟨q, wd', A', W', gc2, gm2, a1, fun k0 k1 => ?_, ?_, a4, a5, a6, a7⟩
          · rw [mW_tells_L22, lc.2.1, if_neg (nI_ge hr (by omega)), at0, bd_e, if_neg nw, nI_1, a2]
          · rw [mm_lineOf_L2, ck0, show ix (0 : Int32) = 0 from rfl, lm.1, if_neg (nI_ge hr (by omega)), ckr, ixr, m0, if_neg nw, nI_1, a3]
        · refine Or.inr ⟨gc2, gm2, fun k0 k1 => ?_, ?_, a3, a4⟩
          · rw [mW_tells_L22, lc.2.1, if_neg (nI_ge hr (by omega)), at0, bd_e, if_neg nw, nI_1, a1]
          · rw [mm_lineOf_L2, ck0, show ix (0 : Int32) = 0 from rfl, lm.1, if_neg (nI_ge hr (by omega)), ckr, ixr, m0, if_neg nw, nI_1, a2]
def mst2 (word : Nat) : Nat := if word = 1 then 1000 else 99
def cus (h : PH) (i word : Nat) : Int32 := if word = 0 then 4 + (2 * h 2 (11 * i + 7)) else if word = 1 then 300 - (30 * h 2 (11 * i + 6)) else h 1 2 - h 2 (11 * i + 6)
theorem r_held (m : Nat) (hm : m = 99 ∨ m = 1000) (y : Int32) : R 0 (m : Int) (imax 0 (imin (nI m) y)) := by
  have mt : (nI m).toInt = (m : Int) := nI_toInt (by omega)
  have z : (0 : Int32).toInt = 0 := rfl
  unfold imax imin R
  split
  · rename_i c
    rw [Int32.lt_iff_toInt_lt, mt] at c
    split
    · rename_i d
      rw [Int32.lt_iff_toInt_lt, z] at d
      omega
    · rw [z]; omega
  · split
    · rw [mt]; omega
    · rw [z]; omega
/-- what the law tells of a house's wall, by one word -/
theorem te_sim {Ls : LNS} {H : Nat} {hc hm : PH} (l : LW Ls hc hm) (t : TW AA H hc hm) {i w word : Nat} (hi : i < H) (hw : w < 4) (hwd : word < 3) : ∃ v gc gm, R 0 (mst2 word : Int) v ∧ mW_tells 1 (nI i) (nI w) (nI word) hc = some (v, gc) ∧ (bd (mm_asks (nI i) (hc 2 (11 * i + w)) hm) fun h2 => mm_lawTells (nI word) (cus hc i word) (nI (mst2 word)) h2) = some (v, gm) ∧ F3c hc gc ∧ F2m hm gm := by
  have m99 : mst2 word = 99 ∨ mst2 word = 1000 := by unfold mst2; split <;> omega
  have l16 := l.1
  have le4 := xp_le (cdo Ls)
  have l400 := l.2.1
  obtain ⟨ha, s1, s2, s3⟩ := as_at t hi hw
  rw [s1, bd_e]
  have fa : F2m hm ha := fun b b1 _ => s3 b b1
  have tl : mW_tells 1 (nI i) (nI w) (nI word) hc = mW_tells_L22 1 (nI i) (nI w) (nI word) (nI (mst2 word)) (fun (x10 : Int32) (h11 : PH) => bd (mR_at 6 x10 1 h11) fun r12 => bd (mR_at 6 x10 2 h11) fun r13 => bd2 (mW_run r12 r13 h11) fun r14 h15 => bd (mW_held r14 (nI (mst2 word)) h15) fun r16 => some (r16, h15)) (fun (h17 : PH) => bd (mW_customary 1 (nI i) (nI word) h17) fun r18 => bd (mW_held r18 (nI (mst2 word)) h17) fun r19 => some (r19, h17)) FU 0 (nI 0) hc := by
    unfold mW_tells
    rw [jn1_e, nI_0]
    have : word = 0 ∨ word = 1 ∨ word = 2 := by omega
    rcases this with e | e | e <;> subst e
    · rw [if_neg (by decide)]
      rfl
    · rw [if_pos (show nI 1 = (1 : Int32) from rfl)]
      rfl
    · rw [if_neg (by decide)]
      rfl
  rw [tl]
  unfold mm_lawTells mm_lineOf
  rw [← nI_0]
  rcases lo_loop l t hi hw hwd (nI (mst2 word)) FU FU 0 (nI 0) hc ha (by unfold FU; omega) (by unfold FU; omega) (Nat.zero_le _) (Or.inl nI_0) (fun _ _ _ _ => rfl) fa s2 with ⟨q, wd, A, W, gc, gm, a1, a2, a3, a4, a5, a6, a7⟩ | ⟨gc, gm, a1, a2, a3, a4⟩
  · obtain ⟨hq, _⟩ := List.getElem?_eq_some_iff.mp a1
    have lc := lwc_of l.2.2.2.1 (g := gc) (fun b b1 b2 => a6 b (by omega) (by omega) (by omega))
    have lm := lwm_of l.2.2.2.2 (g := gm) (fun b b1 b2 => a7 b (by omega) (by omega))
    obtain ⟨R, eR⟩ := cdo_at a1
    have lq := l.2.2.1 (wd, A, W) (List.mem_of_getElem? a1)
    have at1 : mR_at 6 (nI q) 1 gc = some (nI (cdo (Ls.take q)).length) := by
      have := at_6 (c := 1) lc.1 lc.2.1 l16 hq (by decide)
      rw [(lc.2.2.2.2.2 q wd A W a1).2.1] at this
      exact this
    have at2 : mR_at 6 (nI q) 2 gc = some (nI (cdo (Ls.take q) ++ A).length) := by
      have := at_6 (c := 2) lc.1 lc.2.1 l16 hq (by decide)
      rw [(lc.2.2.2.2.2 q wd A W a1).2.2.1] at this
      exact this
    obtain ⟨m0, m1, m2, m3⟩ := lm.2.2 q wd A W a1
    have ckq : ∀ (z : Option (Int32 × PH)), ck (nI q) 48 z = z := fun z => ck_nI (by omega) (by decide)
    have ixq : ix (nI q) = q := nI_clamp (by omega)
    obtain ⟨x, gc', gm', px, u1, u2, u3, u4, u5, u6⟩ := rn_2 l a6 a7 a4 a5 (P := cdo (Ls.take q)) (A := A) (R := W ++ R) eR (by decide) lq.2.1
    obtain ⟨e1, e2⟩ := he_e x (mst2 word) m99 gc' gm'
    refine ⟨imax 0 (imin (nI (mst2 word)) x), gc', gm', r_held _ m99 x, ?_, ?_, u3, u5⟩
    · rw [a2, at1, bd_e, at2, bd_e, List.length_append, u1, bd2_e, e1, bd_e]
    · rw [a3, bd2_e, jn2_e, if_neg (nI_nm1 (by omega)), ckq, ckq, ixq, m1, m2, xl_eq, nI_0, u2, bd2_e]
      try dsimp only
      rw [e2, bd_e]
  · have tg : TW AA H gc hm := tb_of t (a3 1 (by decide) (by decide) (by decide)) (a3 2 (by decide) (by decide) (by decide)) rfl rfl rfl rfl
    have g1 := a3 1 (by decide) (by decide) (by decide)
    have g2 := a3 2 (by decide) (by decide) (by decide)
    have cu : mW_customary 1 (nI i) (nI word) gc = some (cus hc i word) := by
      unfold mW_customary cus
      have : word = 0 ∨ word = 1 ∨ word = 2 := by omega
      rcases this with e | e | e <;> subst e
      · rw [if_pos (show nI 0 = (0 : Int32) from rfl), show mB_read 1 (nI i) 7 gc = _ from rdB tg hi (c := 7) (by decide), bd_e, g2]
        rfl
      · rw [if_neg (by decide), if_pos (show nI 1 = (1 : Int32) from rfl), show mB_read 1 (nI i) 6 gc = _ from rdB tg hi (c := 6) (by decide), bd_e, g2]
        rfl
      · rw [if_neg (by decide), if_neg (by decide), show mB_read 1 (nI i) 6 gc = _ from rdB tg hi (c := 6) (by decide), bd_e, g2, g1]
        rfl
    obtain ⟨e1, e2⟩ := he_e (cus hc i word) (mst2 word) m99 gc gm
    refine ⟨imax 0 (imin (nI (mst2 word)) (cus hc i word)), gc, gm, r_held _ m99 _, ?_, ?_, a3, a4⟩
    · rw [a1, cu, bd_e, e1, bd_e]
    · rw [a2, bd2_e, jn2_e, if_pos rfl]
      try dsimp only
      rw [nI_0, e2, bd_e]
/-- rent, rats, rain of a house -/
theorem te_rent {Ls : LNS} {H : Nat} {hc hm : PH} (l : LW Ls hc hm) (t : TW AA H hc hm) {i w : Nat} (hi : i < H) (hw : w < 4) (th : mm_thickest (nI i) hm = some (nI w)) : ∃ v gc gm, R 0 99 v ∧ mW_tells 1 (nI i) (nI w) 0 hc = some (v, gc) ∧ mm_rentOf (nI i) hm = some (v, gm) ∧ F3c hc gc ∧ F2m hm gm := by
  have h12 := t.1
  obtain ⟨v, gc, gm, r1, r2, r3, r4, r5⟩ := te_sim l t hi hw (word := 0) (by decide)
  refine ⟨v, gc, gm, r1, r2, ?_, r4, r5⟩
  obtain ⟨ha, s1, s2, s3⟩ := as_at t hi hw
  rw [s1, bd_e] at r3
  unfold mm_rentOf
  rw [th, bd_e, wlM t hi hw, bd_e, s1, bd_e, show (79 : Int32) + nI i = nI (79 + i) from nI_add 79 i, ck_nI (by omega) (by decide), show ix (nI (79 + i)) = 79 + i from nI_clamp (by omega), s3 105 (by decide), (colM t hi).2.2.2.1]
  rw [show mm_lawTells 0 (4 + 2 * hc 2 (11 * i + 7)) 99 ha = _ from r3, bd2_e]
theorem te_gnaw {Ls : LNS} {H : Nat} {hc hm : PH} (l : LW Ls hc hm) (t : TW AA H hc hm) {i w : Nat} (hi : i < H) (hw : w < 4) : ∃ v gc gm, R 0 1000 v ∧ mW_tells 1 (nI i) (nI w) 1 hc = some (v, gc) ∧ mm_gnawsOf (nI i) (nI w) hm = some (v, gm) ∧ F3c hc gc ∧ F2m hm gm := by
  have h12 := t.1
  obtain ⟨v, gc, gm, r1, r2, r3, r4, r5⟩ := te_sim l t hi hw (word := 1) (by decide)
  refine ⟨v, gc, gm, r1, r2, ?_, r4, r5⟩
  obtain ⟨ha, s1, s2, s3⟩ := as_at t hi hw
  rw [s1, bd_e] at r3
  unfold mm_gnawsOf
  rw [wlM t hi hw, bd_e, s1, bd_e, show (55 : Int32) + nI i = nI (55 + i) from nI_add 55 i, ck_nI (by omega) (by decide), show ix (nI (55 + i)) = 55 + i from nI_clamp (by omega), s3 105 (by decide), (colM t hi).2.2.1]
  rw [show mm_lawTells 1 (300 - 30 * hc 2 (11 * i + 6)) 1000 ha = _ from r3, bd2_e]
theorem te_melt {Ls : LNS} {H : Nat} {hc hm : PH} (l : LW Ls hc hm) (t : TW AA H hc hm) {i w : Nat} (hi : i < H) (hw : w < 4) : ∃ v gc gm, R 0 99 v ∧ mW_tells 1 (nI i) (nI w) 2 hc = some (v, gc) ∧ mm_meltsOf (nI i) (nI w) hm = some (v, gm) ∧ F3c hc gc ∧ F2m hm gm := by
  have h12 := t.1
  obtain ⟨v, gc, gm, r1, r2, r3, r4, r5⟩ := te_sim l t hi hw (word := 2) (by decide)
  refine ⟨v, gc, gm, r1, r2, ?_, r4, r5⟩
  obtain ⟨ha, s1, s2, s3⟩ := as_at t hi hw
  have f2 : hc 1 2 = hm 105 3 := t.2.2.2.1 2 (by decide) (by decide)
  rw [s1, bd_e] at r3
  unfold mm_meltsOf
  rw [wlM t hi hw, bd_e, s1, bd_e, show ck 3 115 _ = _ from ck_nI (i := 3) (by decide) (by decide), show (55 : Int32) + nI i = nI (55 + i) from nI_add 55 i, ck_nI (by omega) (by decide), show ix (nI (55 + i)) = 55 + i from nI_clamp (by omega), show ix (3 : Int32) = 3 from rfl, s3 105 (by decide), (colM t hi).2.2.1, ← f2]
  rw [show mm_lawTells 2 (hc 1 2 - hc 2 (11 * i + 6)) 99 ha = _ from r3, bd2_e]
