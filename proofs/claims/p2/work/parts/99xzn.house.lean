/-! A HOUSE MORE; what is set: both sides -/
def vv (p1 p2 p3 : Int32) (c : Nat) : Int32 := if c < 4 then p1 else if c = 4 then p2 else if c = 5 then p3 else if c = 7 then 1 else 0
/-- slots written one after the other -/
def WG (q : Nat → Nat × Nat) (v : Nat → Int32) : List Nat → PH → PH
  | [], h => h
  | c :: l, h => WG q v l (up h (q c).1 (q c).2 (v c))
theorem wg_o {q : Nat → Nat × Nat} {v : Nat → Int32} : ∀ (l : List Nat) (h : PH) (b j : Nat), (∀ c, c ∈ l → b ≠ (q c).1 ∨ j ≠ (q c).2) → WG q v l h b j = h b j := by
  intro l
  induction l with
  | nil => intro h b j _; rfl
  | cons c l ih =>
    intro h b j n
    rw [WG, ih _ b j (fun d hd => n d (List.mem_cons_of_mem _ hd)), up_ne (n c List.mem_cons_self)]
theorem wg_v {q : Nat → Nat × Nat} {v : Nat → Int32} : ∀ (l : List Nat) (h : PH) (c : Nat), c ∈ l → (∀ d, d ∈ l → q d = q c → d = c) → WG q v l h (q c).1 (q c).2 = v c := by
  intro l
  induction l with
  | nil => intro h c hc; cases hc
  | cons d l ih =>
    intro h c hc inj
    rw [WG]
    by_cases z : c ∈ l
    · exact ih _ c z (fun e he => inj e (List.mem_cons_of_mem _ he))
    · have e : c = d := by
        rcases List.mem_cons.mp hc with y | y
        · exact y
        · exact absurd y z
      subst e
      rw [wg_o l _ _ _ (fun e he => ?_), up_same]
      by_cases y : (q c).1 = (q e).1
      · refine Or.inr (fun x => z ?_)
        have := inj e (List.mem_cons_of_mem _ he) (Prod.ext y.symm x.symm)
        rw [← this]
        exact he
      · exact Or.inl y
theorem wrC {H : Nat} {h : PH} (h12 : H ≤ 12) (e : h 1 1 = nI H) {i c : Nat} (hi : i < H) (hcc : c < 11) (v : Int32) : mB_write 1 (nI i) (nI c) v h = some (up h 2 (11 * i + c) v) := by
  unfold mB_write
  rw [if_neg (nI_pos (by omega)), e, if_neg (nI_ge hi (by omega)), if_neg (nI_pos (by omega)), if_neg (show ¬ (11 : Int32) ≤ nI c from nI_ge (b := 11) hcc (by decide)), show nI i * (11 : Int32) = nI (i * 11) from nI_mul i 11, nI_add, ck_nI (by omega) (by decide), lt_e, show ix (nI (i * 11 + c)) = i * 11 + c from nI_clamp (by omega), Nat.mul_comm i 11]
def qC (H : Nat) (c : Nat) : Nat × Nat := (2, 11 * H + c)
def qM (H : Nat) (c : Nat) : Nat × Nat := (mc c, mi H c)
def l11 : List Nat := [0, 1, 2, 3, 4, 5, 6, 7, 8, 9, 10]
def l11m : List Nat := [0, 1, 2, 3, 6, 8, 7, 9, 10, 4, 5]
theorem l11_in : ∀ c, c < 11 → c ∈ l11 ∧ c ∈ l11m := by decide
theorem l11_lt : ∀ c, (c ∈ l11 → c < 11) ∧ (c ∈ l11m → c < 11) := fun c => ⟨fun h => by unfold l11 at h; simp only [List.mem_cons, List.not_mem_nil, or_false] at h; omega, fun h => by unfold l11m at h; simp only [List.mem_cons, List.not_mem_nil, or_false] at h; omega⟩
/-- the class builds -/
theorem bu_c {H : Nat} {h : PH} (hH : H < 12) (e : h 1 1 = nI H) (p1 p2 p3 : Int32) : mB_build 1 p1 p2 p3 h = some (nI H, WG (qC H) (vv p1 p2 p3) l11 (up h 1 1 (nI (H + 1)))) := by
  unfold mB_build
  have k1 : ∀ j x, ∀ q : PH, up q 2 j x 1 1 = q 1 1 := fun j x q => up_oc (by decide)
  have w : ∀ (g : PH) (c : Nat) (v : Int32), g 1 1 = nI (H + 1) → c < 11 → mB_write 1 (nI H) (nI c) v g = some (up g 2 (11 * H + c) v) := fun g c v eg hc => wrC (H := H + 1) (by omega) eg (Nat.lt_succ_self H) hc v
  rw [lt_e, lt_e, e, nI_1, show FU = 99995 + 1 + 1 + 1 + 1 + 1 from rfl]
  have b1 : up h 1 1 (nI (H + 1)) 1 1 = nI (H + 1) := up_same
  rw [mB_build_L19, if_neg (by decide), show mB_write 1 (nI H) 0 p1 _ = _ from w _ 0 p1 b1 (by decide), bd_e, show (0 : Int32) + 1 = 1 from rfl]
  rw [mB_build_L19, if_neg (by decide), show mB_write 1 (nI H) 1 p1 _ = _ from w _ 1 p1 (by rw [k1]; exact b1) (by decide), bd_e, show (1 : Int32) + 1 = 2 from rfl]
  rw [mB_build_L19, if_neg (by decide), show mB_write 1 (nI H) 2 p1 _ = _ from w _ 2 p1 (by rw [k1, k1]; exact b1) (by decide), bd_e, show (2 : Int32) + 1 = 3 from rfl]
  rw [mB_build_L19, if_neg (by decide), show mB_write 1 (nI H) 3 p1 _ = _ from w _ 3 p1 (by rw [k1, k1, k1]; exact b1) (by decide), bd_e, show (3 : Int32) + 1 = 4 from rfl]
  rw [mB_build_L19, if_pos (by decide)]
  try dsimp only
  rw [show mB_write 1 (nI H) 4 p2 _ = _ from w _ 4 p2 (by rw [k1, k1, k1, k1]; exact b1) (by decide), bd_e]
  rw [show mB_write 1 (nI H) 5 p3 _ = _ from w _ 5 p3 (by rw [k1, k1, k1, k1, k1]; exact b1) (by decide), bd_e]
  rw [show mB_write 1 (nI H) 6 0 _ = _ from w _ 6 0 (by rw [k1, k1, k1, k1, k1, k1]; exact b1) (by decide), bd_e]
  rw [show mB_write 1 (nI H) 7 1 _ = _ from w _ 7 1 (by rw [k1, k1, k1, k1, k1, k1, k1]; exact b1) (by decide), bd_e]
  rw [show mB_write 1 (nI H) 8 0 _ = _ from w _ 8 0 (by rw [k1, k1, k1, k1, k1, k1, k1, k1]; exact b1) (by decide), bd_e]
  rw [show mB_write 1 (nI H) 9 0 _ = _ from w _ 9 0 (by rw [k1, k1, k1, k1, k1, k1, k1, k1, k1]; exact b1) (by decide), bd_e]
  rw [show mB_write 1 (nI H) 10 0 _ = _ from w _ 10 0 (by rw [k1, k1, k1, k1, k1, k1, k1, k1, k1, k1]; exact b1) (by decide), bd_e]
  rfl
/-- the model builds -/
theorem bu_m {H : Nat} {h : PH} (hH : H < 12) (e : h 104 6 = nI H) (p1 p2 p3 : Int32) : mm_house_L52 p1 p2 p3 (fun (h6 : PH) => ck (55 + (h6 104 6)) 115 <| lt (up h6 105 (ix (55 + (h6 104 6))) 0) fun h7 => ck (67 + (h7 104 6)) 115 <| lt (up h7 105 (ix (67 + (h7 104 6))) 0) fun h8 => ck (79 + (h8 104 6)) 115 <| lt (up h8 105 (ix (79 + (h8 104 6))) 1) fun h9 => ck (91 + (h9 104 6)) 115 <| lt (up h9 105 (ix (91 + (h9 104 6))) 0) fun h10 => ck (103 + (h10 104 6)) 115 <| lt (up h10 105 (ix (103 + (h10 104 6))) 0) fun h11 => ck (h11 104 6) 12 <| lt (up h11 108 (ix (h11 104 6)) p2) fun h12 => ck (h12 104 6) 12 <| lt (up h12 109 (ix (h12 104 6)) p3) fun h13 => lt (up h13 104 6 ((h13 104 6) + 1)) fun h14 => lt (up h14 104 3 0) fun h15 => some ((h15 104 6) - 1, h15)) FU 0 h = some (nI H, up (up (WG (qM H) (vv p1 p2 p3) l11m h) 104 6 (nI (H + 1))) 104 3 0) := by
  have k5 : ∀ j x, ∀ q : PH, up q 105 j x 104 6 = q 104 6 := fun j x q => up_oc (by decide)
  have k8 : ∀ j x, ∀ q : PH, up q 108 j x 104 6 = q 104 6 := fun j x q => up_oc (by decide)
  have k9 : ∀ j x, ∀ q : PH, up q 109 j x 104 6 = q 104 6 := fun j x q => up_oc (by decide)
  have t4 : (4 : Int32) * nI H = nI (4 * H) := nI_mul 4 H
  have t7 : (7 : Int32) + nI (4 * H) = nI (7 + 4 * H) := nI_add 7 _
  have tw : ∀ w, nI (7 + 4 * H) + nI w = nI (7 + 4 * H + w) := fun w => nI_add _ w
  have cw : ∀ w, w < 4 → ∀ (z : Option (Int32 × PH)), ck (nI (7 + 4 * H + w)) 115 z = z := fun w hw z => ck_nI (by omega) (by decide)
  have xw : ∀ w, w < 4 → ix (nI (7 + 4 * H + w)) = 7 + 4 * H + w := fun w hw => nI_clamp (by omega)
  have cN : ∀ n, n < 104 → ∀ (z : Option (Int32 × PH)), ck (nI (n + H)) 115 z = z := fun n hn z => ck_nI (by omega) (by decide)
  have xN : ∀ n, n < 104 → ix (nI (n + H)) = n + H := fun n hn => nI_clamp (by omega)
  have c12 : ∀ (z : Option (Int32 × PH)), ck (nI H) 12 z = z := fun z => ck_nI hH (by decide)
  have xH : ix (nI H) = H := nI_clamp (by omega)
  rw [show FU = 99995 + 1 + 1 + 1 + 1 + 1 from rfl]
  rw [mm_house_L52, if_neg (by decide), e, t4, t7, show nI (7 + 4 * H) + (0 : Int32) = nI (7 + 4 * H + 0) from tw 0, cw 0 (by decide), lt_e, xw 0 (by decide), show (0 : Int32) + 1 = 1 from rfl]
  rw [mm_house_L52, if_neg (by decide), k5, e, t4, t7, show nI (7 + 4 * H) + (1 : Int32) = nI (7 + 4 * H + 1) from tw 1, cw 1 (by decide), lt_e, xw 1 (by decide), show (1 : Int32) + 1 = 2 from rfl]
  rw [mm_house_L52, if_neg (by decide), k5, k5, e, t4, t7, show nI (7 + 4 * H) + (2 : Int32) = nI (7 + 4 * H + 2) from tw 2, cw 2 (by decide), lt_e, xw 2 (by decide), show (2 : Int32) + 1 = 3 from rfl]
  rw [mm_house_L52, if_neg (by decide), k5, k5, k5, e, t4, t7, show nI (7 + 4 * H) + (3 : Int32) = nI (7 + 4 * H + 3) from tw 3, cw 3 (by decide), lt_e, xw 3 (by decide), show (3 : Int32) + 1 = 4 from rfl]
  rw [mm_house_L52, if_pos (by decide)]
  try dsimp only
  rw [k5, k5, k5, k5, e, show (55 : Int32) + nI H = nI (55 + H) from nI_add 55 H, cN 55 (by decide), lt_e, xN 55 (by decide)]
  rw [k5, k5, k5, k5, k5, e, show (67 : Int32) + nI H = nI (67 + H) from nI_add 67 H, cN 67 (by decide), lt_e, xN 67 (by decide)]
  rw [k5, k5, k5, k5, k5, k5, e, show (79 : Int32) + nI H = nI (79 + H) from nI_add 79 H, cN 79 (by decide), lt_e, xN 79 (by decide)]
  rw [k5, k5, k5, k5, k5, k5, k5, e, show (91 : Int32) + nI H = nI (91 + H) from nI_add 91 H, cN 91 (by decide), lt_e, xN 91 (by decide)]
  rw [k5, k5, k5, k5, k5, k5, k5, k5, e, show (103 : Int32) + nI H = nI (103 + H) from nI_add 103 H, cN 103 (by decide), lt_e, xN 103 (by decide)]
  rw [k5, k5, k5, k5, k5, k5, k5, k5, k5, e, c12, lt_e, xH]
  rw [k8, k5, k5, k5, k5, k5, k5, k5, k5, k5, e, c12, lt_e, xH]
  rw [k9, k8, k5, k5, k5, k5, k5, k5, k5, k5, k5, e, lt_e, lt_e, up_oj (by decide), up_same, nI_1, show nI (H + 1) - 1 = nI H from nI_pred H]
  rfl
/-- a house more -/
theorem hs_tn {H N M b : Nat} {Ls : LNS} {h hm : PH} (t : TNt H N M b Ls h hm) (hH : H < 12) (hb : b + 1 < 1000000) {p1 : Int32} (r1 : R 0 99 p1) (p2 p3 : Int32) : TNt (H + 1) N M (b + 1) Ls (WG (qC H) (vv p1 p2 p3) l11 (up h 1 1 (nI (H + 1)))) (up (up (WG (qM H) (vv p1 p2 p3) l11m hm) 104 6 (nI (H + 1))) 104 3 0) := by
  obtain ⟨⟨⟨q1, q2, q3, q4, q5, q6⟩, lw, bk, nx, re, th, ld⟩, s, o, e37⟩ := t
  have mr := fun c (hc : c < 11) => mi_r H (by omega) c hc
  have co : ∀ x, x ≠ 1 → x ≠ 2 → WG (qC H) (vv p1 p2 p3) l11 (up h 1 1 (nI (H + 1))) x = h x := fun x x1 x2 => by
    funext j
    rw [wg_o _ _ _ _ (fun c _ => Or.inl x2), up_oc x1]
  have c1 : ∀ j, WG (qC H) (vv p1 p2 p3) l11 (up h 1 1 (nI (H + 1))) 1 j = up h 1 1 (nI (H + 1)) 1 j := fun j => wg_o _ _ _ _ (fun c _ => Or.inl (show 1 ≠ 2 by decide))
  have c2 : ∀ j, j < 11 * H → WG (qC H) (vv p1 p2 p3) l11 (up h 1 1 (nI (H + 1))) 2 j = h 2 j := fun j hj => by
    rw [wg_o _ _ _ _ (fun c hc => Or.inr (show j ≠ 11 * H + c by omega)), up_oc (by decide)]
  have cv : ∀ c, c < 11 → WG (qC H) (vv p1 p2 p3) l11 (up h 1 1 (nI (H + 1))) 2 (11 * H + c) = vv p1 p2 p3 c := fun c hc => wg_v l11 _ c (l11_in c hc).1 (fun d _ e => by
    have : 11 * H + d = 11 * H + c := congrArg Prod.snd e
    omega)
  have mo : ∀ x, x ≠ 105 → x ≠ 108 → x ≠ 109 → WG (qM H) (vv p1 p2 p3) l11m hm x = hm x := fun x x1 x2 x3 => by
    funext j
    exact wg_o _ _ _ _ (fun c hc => Or.inl (show x ≠ mc c by have := (mr c ((l11_lt c).2 hc)).2.2; omega))
  have m5 : ∀ j, j < 7 → WG (qM H) (vv p1 p2 p3) l11m hm 105 j = hm 105 j := fun j hj => wg_o _ _ _ _ (fun c hc => by
    have := (mr c ((l11_lt c).2 hc)).2.1
    by_cases z : mc c = 105
    · exact Or.inr (show j ≠ mi H c by have := this z; omega)
    · exact Or.inl (show 105 ≠ mc c from fun y => z y.symm))
  have mk : ∀ i c, i < H → c < 11 → WG (qM H) (vv p1 p2 p3) l11m hm (mc c) (mi i c) = hm (mc c) (mi i c) := fun i c hi hc => wg_o _ _ _ _ (fun d hd => by
    by_cases z : mc c = mc d
    · exact Or.inr (fun y => by have := (mi_inj i (by omega) c hc H (by omega) d ((l11_lt d).2 hd) z y).1; omega)
    · exact Or.inl z)
  have mv : ∀ c, c < 11 → WG (qM H) (vv p1 p2 p3) l11m hm (mc c) (mi H c) = vv p1 p2 p3 c := fun c hc => wg_v l11m _ c (l11_in c hc).2 (fun d hd e => by
    exact (mi_inj H (by omega) d ((l11_lt d).2 hd) H (by omega) c hc (congrArg Prod.fst e) (congrArg Prod.snd e)).2)
  have um : ∀ x, x ≠ 104 → up (up (WG (qM H) (vv p1 p2 p3) l11m hm) 104 6 (nI (H + 1))) 104 3 0 x = WG (qM H) (vv p1 p2 p3) l11m hm x := fun x hx => by rw [up_cell hx, up_cell hx]
  have u4 : ∀ j, j ≠ 3 → j ≠ 6 → up (up (WG (qM H) (vv p1 p2 p3) l11m hm) 104 6 (nI (H + 1))) 104 3 0 104 j = hm 104 j := fun j j3 j6 => by rw [up_oj j3, up_oj j6, mo 104 (by decide) (by decide) (by decide)]
  have umc : ∀ c, c < 11 → up (up (WG (qM H) (vv p1 p2 p3) l11m hm) 104 6 (nI (H + 1))) 104 3 0 (mc c) = WG (qM H) (vv p1 p2 p3) l11m hm (mc c) := fun c hc => um _ (by have := (mr c hc).2.2; omega)
  have lo : lsm (WG (qC H) (vv p1 p2 p3) l11 (up h 1 1 (nI (H + 1)))) H = lsm h H := lsm_of H (fun i hi => c2 _ (by omega))
  have v7 : (vv p1 p2 p3 7).toInt = 1 := rfl
  refine ⟨⟨⟨by omega, by rw [c1, up_same], by rw [up_oj (by decide), up_same], fun f f1 f2 => ?_, fun i c hi hc _ => ?_, fun i c hi hc => ?_⟩, ⟨lw.1, lw.2.1, lw.2.2.1, lwc_of lw.2.2.2.1 (fun x x1 x2 => co x (by omega) (by omega)), lwm_of lw.2.2.2.2 (fun x x1 x2 => by rw [um x (by omega)]; exact mo x (by omega) (by omega) (by omega))⟩, bk_of bk (co 16 (by decide) (by decide)) (co 17 (by decide) (by decide)) (by rw [um 105 (by decide)]; exact m5 2 (by decide)) (by rw [um 110 (by decide)]; exact mo 110 (by decide) (by decide) (by decide)), fun k hk => ?_, by rw [co 68 (by decide) (by decide)]; exact re, by rw [u4 5 (by decide) (by decide)]; exact th, ⟨fun i hi => ?_, ?_, hb⟩⟩, sk_of s (co 10 (by decide) (by decide)) (co 11 (by decide) (by decide)) (u4 33 (by decide) (by decide)) (by rw [um 121 (by decide)]; exact mo 121 (by decide) (by decide) (by decide)), ?_, by rw [co 14 (by decide) (by decide), u4 37 (by decide) (by decide)]; exact e37⟩
  · rw [c1, up_oj (by omega), um 105 (by decide), m5 _ (sf_r f f2 f1).1]
    exact q4 f f1 f2
  · rw [umc c hc]
    by_cases z : i = H
    · rw [z, cv c hc, mv c hc]
    · rw [c2 _ (by omega), mk i c (by omega) hc]
      exact q5 i c (by omega) hc (fun _ => trivial)
  · by_cases z : i = H
    · rw [z, cv c (by omega)]
      unfold vv
      rw [if_pos hc]
      exact r1
    · rw [c2 _ (by omega)]
      exact q6 i c (by omega) hc
  · rw [nx_fr (co 14 (by decide) (by decide)) (co 15 (by decide) (by decide)), um 123 (by decide), mo 123 (by decide) (by decide) (by decide)]
    exact nx k hk
  · by_cases z : i = H
    · rw [z, cv 7 (by decide), v7]; decide
    · rw [c2 _ (by omega)]
      exact ld.1 i (by omega)
  · rw [lsm, lo, cv 7 (by decide), v7]
    have := ld.2.1
    omega
  · have o' := of_of o (co 12 (by decide) (by decide)) (co 13 (by decide) (by decide)) (u4 35 (by decide) (by decide)) (show up (up (WG (qM H) (vv p1 p2 p3) l11m hm) 104 6 (nI (H + 1))) 104 3 0 122 = hm 122 by rw [um 122 (by decide)]; exact mo 122 (by decide) (by decide) (by decide))
    obtain ⟨o1, o2, o3, o4, o5⟩ := o'
    refine ⟨o1, o2, o3, o4, fun r hr => ?_⟩
    obtain ⟨z1, z2, ⟨a, a1, a2, a3⟩, z4⟩ := o5 r hr
    exact ⟨z1, z2, ⟨a, by omega, a2, a3⟩, z4⟩
