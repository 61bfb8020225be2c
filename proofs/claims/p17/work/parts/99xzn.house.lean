section
/-! A HOUSE MORE; what is set: both sides -/
def vv (p1 p2 p3 : Int32) (c : Nat) : Int32 := if c < 4 then p1 else if c = 4 then p2 else if c = 5 then p3 else if c = 7 then 1 else 0
/-- slots written one after the other -/
def WG (q : Nat → Nat × Nat) (v : Nat → Int32) : List Nat → PH → PH
  | [], h => h
  | c :: l, h => WG q v l (up h (q c).1 (q c).2 (v c))
theorem wg_o {q : Nat → Nat × Nat} {v : Nat → Int32} : ∀ (l : List Nat) (h : PH) (b j : Nat), (∀ c, c ∈ l → b ≠ (q c).1 ∨ j ≠ (q c).2) → WG q v l h b j = h b j := by
  intro l
  induction l with
  | nil => intro h b j _; rfl
  | cons c l ih =>
    intro h b j n
    rw [WG, ih _ b j (fun d hd => n d (List.mem_cons_of_mem _ hd)), up_ne (n c List.mem_cons_self)]
theorem wg_v {q : Nat → Nat × Nat} {v : Nat → Int32} : ∀ (l : List Nat) (h : PH) (c : Nat), c ∈ l → (∀ d, d ∈ l → q d = q c → d = c) → WG q v l h (q c).1 (q c).2 = v c := by
  intro l
  induction l with
  | nil => intro h c hc; cases hc
  | cons d l ih =>
    intro h c hc inj
    rw [WG]
    by_cases z : c ∈ l
    · exact ih _ c z (fun e he => inj e (List.mem_cons_of_mem _ he))
    · have e : c = d := by
        rcases List.mem_cons.mp hc with y | y
        · exact y
        · exact absurd y z
      subst e
      rw [wg_o l _ _ _ (fun e he => ?_), up_same]
      by_cases y : (q c).1 = (q e).1
      · refine Or.inr (fun x => z ?_)
        have := inj e (List.mem_cons_of_mem _ he) (Prod.ext y.symm x.symm)
        rw [← this]
        exact he
      · exact Or.inl y
theorem wrC {H : Nat} {h : PH} (h12 : H ≤ 12) (e : h 1 1 = nI H) {i c : Nat} (hi : i < H) (hcc : c < 11) (v : Int32) : mB_write 1 (nI i) (nI c) v h = some (up h 2 (11 * i + c) v) := by
  unfold mB_write
  rw [if_neg (nI_pos (by omega)), e, if_neg (nI_ge hi (by omega)), if_neg (nI_pos (by omega)), if_neg (show ¬ (11 : Int32) ≤ nI c from nI_ge (b := 11) hcc (by decide)), show nI i * (11 : Int32) = nI (i * 11) from nI_mul i 11, nI_add, ck_nI (by omega) (by decide), lt_e, show ix (nI (i * 11 + c)) = i * 11 + c from nI_clamp (by omega), Nat.mul_comm i 11]
def qC (H : Nat) (c : Nat) : Nat × Nat := (2, 11 * H + c)
def qM (H : Nat) (c : Nat) : Nat × Nat := (mc c, mi H c)
def l11 : List Nat := [0, 1, 2, 3, 4, 5, 6, 7, 8, 9, 10]
def l11m : List Nat := [0, 1, 2, 3, 6, 8, 7, 9, 10, 4, 5]
theorem l11_in : ∀ c, c < 11 → c ∈ l11 ∧ c ∈ l11m := by decide
theorem l11_lt : ∀ c, (c ∈ l11 → c < 11) ∧ (c ∈ l11m → c < 11) := fun c => ⟨fun h => by unfold l11 at h; simp only [List.mem_cons, List.not_mem_nil, or_false] at h; omega, fun h => by unfold l11m at h; simp only [List.mem_cons, List.not_mem_nil, or_false] at h; omega⟩
/-- the class builds -/
theorem bu_c {H : Nat} {h : PH} (hH : H < 12) (e : h 1 1 = nI H) (p1 p2 p3 : Int32) : mB_build 1 p1 p2 p3 h = some (nI H, WG (qC H) (vv p1 p2 p3) l11 (up h 1 1 (nI (H + 1)))) := by
  unfold mB_build
  have k1 : ∀ j x, ∀ q : PH, up q 2 j x 1 1 = q 1 1 := fun j x q => up_oc (by decide)
  have w : ∀ (g : PH) (c : Nat) (v : Int32), g 1 1 = nI (H + 1) → c < 11 → mB_write 1 (nI H) (nI c) v g = some (up g 2 (11 * H + c) v) := fun g c v eg hc => wrC (H := H + 1) (by omega) eg (Nat.lt_succ_self H) hc v
  rw [lt_e, lt_e, e, nI_1, show FU = 99995 + 1 + 1 + 1 + 1 + 1 from rfl]
  have b1 : up h 1 1 (nI (H + 1)) 1 1 = nI (H + 1) := up_same
  rw [mB_build_L19, if_neg (by decide), show mB_write 1 (nI H) 0 p1 _ = _ from w _ 0 p1 b1 (by decide), bd_e, show (0 : Int32) + 1 = 1 from rfl]
  rw [mB_build_L19, if_neg (by decide), show mB_write 1 (nI H) 1 p1 _ = _ from w _ 1 p1 (by rw [k1]; exact b1) (by decide), bd_e, show (1 : Int32) + 1 = 2 from rfl]
  rw [mB_build_L19, if_neg (by decide), show mB_write 1 (nI H) 2 p1 _ = _ from w _ 2 p1 (by rw [k1, k1]; exact b1) (by decide), bd_e, show (2 : Int32) + 1 = 3 from rfl]
  rw [mB_build_L19, if_neg (by decide), show mB_write 1 (nI H) 3 p1 _ = _ from w _ 3 p1 (by rw [k1, k1, k1]; exact b1) (by decide), bd_e, show (3 : Int32) + 1 = 4 from rfl]
  rw [mB_build_L19, if_pos (by decide)]
  try dsimp only
  rw [show mB_write 1 (nI H) 4 p2 _ = _ from w _ 4 p2 (by rw [k1, k1, k1, k1]; exact b1) (by decide), bd_e]
  rw [show mB_write 1 (nI H) 5 p3 _ = _ from w _ 5 p3 (by rw [k1, k1, k1, k1, k1]; exact b1) (by decide), bd_e]
  rw [show mB_write 1 (nI H) 6 0 _ = _ from w _ 6 0 (by rw [k1, k1, k1, k1, k1, k1]; exact b1) (by decide), bd_e]
  rw [show mB_write 1 (nI H) 7 1 _ = _ from w _ 7 1 (by rw [k1, k1, k1, k1, k1, k1, k1]; exact b1) (by decide), bd_e]
  rw [show mB_write 1 (nI H) 8 0 _ = _ from w _ 8 0 (by rw [k1, k1, k1, k1, k1, k1, k1, k1]; exact b1) (by decide), bd_e]
  rw [show mB_write 1 (nI H) 9 0 _ = _ from w _ 9 0 (by rw [k1, k1, k1, k1, k1, k1, k1, k1, k1]; exact b1) (by decide), bd_e]
  rw [show mB_write 1 (nI H) 10 0 _ = _ from w _ 10 0 (by rw [k1, k1, k1, k1, k1, k1, k1, k1, k1, k1]; exact b1) (by decide), bd_e]
  rfl
/-- the model builds -/
theorem bu_m {H : Nat} {h : PH} (hH : H < 12) (e : h 104 6 = nI H) (p1 p2 p3 : Int32) : mm_house_L52 p1 p2 p3 (fun (h6 : PH) => ck (55 + (h6 104 6)) 115 <| lt (up h6 105 (ix (55 + (h6 104 6))) 0) fun h7 => ck (67 + (h7 104 6)) 115 <| lt (up h7 105 (ix (67 + (h7 104 6))) 0) fun h8 => ck (79 + (h8 104 6)) 115 <| lt (up h8 105 (ix (79 + (h8 104 6))) 1) fun h9 => ck (91 + (h9 104 6)) 115 <| lt (up h9 105 (ix (91 + (h9 104 6))) 0) fun h10 => ck (103 + (h10 104 6)) 115 <| lt (up h10 105 (ix (103 + (h10 104 6))) 0) fun h11 => ck (h11 104 6) 12 <| lt (up h11 108 (ix (h11 104 6)) p2) fun h12 => ck (h12 104 6) 12 <| lt (up h12 109 (ix (h12 104 6)) p3) fun h13 => lt (up h13 104 6 ((h13 104 6) + 1)) fun h14 => lt (up h14 104 3 0) fun h15 => some ((h15 104 6) - 1, h15)) FU 0 h = some (nI H, up (up (WG (qM H) (vv p1 p2 p3) l11m h) 104 6 (nI (H + 1))) 104 3 0) := by
  have k5 : ∀ j x, ∀ q : PH, up q 105 j x 104 6 = q 104 6 := fun j x q => up_oc (by decide)
  have k8 : ∀ j x, ∀ q : PH, up q 108 j x 104 6 = q 104 6 := fun j x q => up_oc (by decide)
  have k9 : ∀ j x, ∀ q : PH, up q 109 j x 104 6 = q 104 6 := fun j x q => up_oc (by decide)
  have t4 : (4 : Int32) * nI H = nI (4 * H) := nI_mul 4 H
  have t7 : (7 : Int32) + nI (4 * H) = nI (7 + 4 * H) := nI_add 7 _
  have tw : ∀ w, nI (7 + 4 * H) + nI w = nI (7 + 4 * H + w) := fun w => nI_add _ w
  have cw : ∀ w, w < 4 → ∀ (z : Option (Int32 × PH)), ck (nI (7 + 4 * H + w)) 115 z = z := fun w hw z => ck_nI (by omega) (by decide)
  have xw : ∀ w, w < 4 → ix (nI (7 + 4 * H + w)) = 7 + 4 * H + w := fun w hw => nI_clamp (by omega)
  have cN : ∀ n, n < 104 → ∀ (z : Option (Int32 × PH)), ck (nI (n + H)) 115 z = z := fun n hn z => ck_nI (by omega) (by decide)
  have xN : ∀ n, n < 104 → ix (nI (n + H)) = n + H := fun n hn => nI_clamp (by omega)
  have c12 : ∀ (z : Option (Int32 × PH)), ck (nI H) 12 z = z := fun z => ck_nI hH (by decide)
  have xH : ix (nI H) = H := nI_clamp (by omega)
  rw [show FU = 99995 + 1 + 1 + 1 + 1 + 1 from rfl]
  rw [mm_house_L52, if_neg (by decide), e, t4, t7, show nI (7 + 4 * H) + (0 : Int32) = nI (7 + 4 * H + 0) from tw 0, cw 0 (by decide), lt_e, xw 0 (by decide), show (0 : Int32) + 1 = 1 from rfl]
  rw [mm_house_L52, if_neg (by decide), k5, e, t4, t7, show nI (7 + 4 * H) + (1 : Int32) = nI (7 + 4 * H + 1) from tw 1, cw 1 (by decide), lt_e, xw 1 (by decide), show (1 : Int32) + 1 = 2 from rfl]
  rw [mm_house_L52, if_neg (by decide), k5, k5, e, t4, t7, show nI (7 + 4 * H) + (2 : Int32) = nI (7 + 4 * H + 2) from tw 2, cw 2 (by decide), lt_e, xw 2 (by decide), show (2 : Int32) + 1 = 3 from rfl]
  rw [mm_house_L52, if_neg (by decide), k5, k5, k5, e, t4, t7, show nI (7 + 4 * H) + (3 : Int32) = nI (7 + 4 * H + 3) from tw 3, cw 3 (by decide), lt_e, xw 3 (by decide), show (3 : Int32) + 1 = 4 from rfl]
  rw [mm_house_L52, if_pos (by decide)]
  try dsimp only
  rw [k5, k5, k5, k5, e, show (55 : Int32) + nI H = nI (55 + H) from nI_add 55 H, cN 55 (by decide), lt_e, xN 55 (by decide)]
  rw [k5, k5, k5, k5, k5, e, show (67 : Int32) + nI H = nI (67 + H) from nI_add 67 H, cN 67 (by decide), lt_e, xN 67 (by decide)]
  rw [k5, k5, k5, k5, k5, k5, e, show (79 : Int32) + nI H = nI (79 + H) from nI_add 79 H, cN 79 (by decide), lt_e, xN 79 (by decide)]
  rw [k5, k5, k5, k5, k5, k5, k5, e, show (91 : Int32) + nI H = nI (91 + H) from nI_add 91 H, cN 91 (by decide), lt_e, xN 91 (by decide)]
  rw [k5, k5, k5, k5, k5, k5, k5, k5, e, show (103 : Int32) + nI H = nI (103 + H) from nI_add 103 H, cN 103 (by decide), lt_e, xN 103 (by decide)]
  rw [k5, k5, k5, k5, k5, k5, k5, k5, k5, e, c12, lt_e, xH]
  rw [k8, k5, k5, k5, k5, k5, k5, k5, k5, k5, e, c12, lt_e, xH]
  rw [k9, k8, k5, k5, k5, k5, k5, k5, k5, k5, k5, e, lt_e, lt_e, up_oj (by decide), up_same, nI_1, show nI (H + 1) - 1 = nI H from nI_pred H]
  rfl
/-- a house more -/
theorem hs_tn {H N M b : Nat} {Ls : LNS} {h hm : PH} (t : TNt H N M b Ls h hm) (hH : H < 12) (hb : b + 1 < 1000000) {p1 : Int32} (r1 : R 0 99 p1) (p2 p3 : Int32) : TNt (H + 1) N M (b + 1) Ls (WG (qC H) (vv p1 p2 p3) l11 (up h 1 1 (nI (H + 1)))) (up (up (WG (qM H) (vv p1 p2 p3) l11m hm) 104 6 (nI (H + 1))) 104 3 0) := by
  obtain ⟨⟨⟨q1, q2, q3, q4, q5, q6⟩, lw, bk, nx, re, th, ld⟩, s, o, e37⟩ := t
  have mr := fun c (hc : c < 11) => mi_r H (by omega) c hc
  have co : ∀ x, x ≠ 1 → x ≠ 2 → WG (qC H) (vv p1 p2 p3) l11 (up h 1 1 (nI (H + 1))) x = h x := fun x x1 x2 => by
    funext j
    rw [wg_o _ _ _ _ (fun c _ => Or.inl x2), up_oc x1]
  have c1 : ∀ j, WG (qC H) (vv p1 p2 p3) l11 (up h 1 1 (nI (H + 1))) 1 j = up h 1 1 (nI (H + 1)) 1 j := fun j => wg_o _ _ _ _ (fun c _ => Or.inl (show 1 ≠ 2 by decide))
  have c2 : ∀ j, j < 11 * H → WG (qC H) (vv p1 p2 p3) l11 (up h 1 1 (nI (H + 1))) 2 j = h 2 j := fun j hj => by
    rw [wg_o _ _ _ _ (fun c hc => Or.inr (show j ≠ 11 * H + c by omega)), up_oc (by decide)]
  have cv : ∀ c, c < 11 → WG (qC H) (vv p1 p2 p3) l11 (up h 1 1 (nI (H + 1))) 2 (11 * H + c) = vv p1 p2 p3 c := fun c hc => wg_v l11 _ c (l11_in c hc).1 (fun d _ e => by
    have : 11 * H + d = 11 * H + c := congrArg Prod.snd e
    omega)
  have mo : ∀ x, x ≠ 105 → x ≠ 108 → x ≠ 109 → WG (qM H) (vv p1 p2 p3) l11m hm x = hm x := fun x x1 x2 x3 => by
    funext j
    exact wg_o _ _ _ _ (fun c hc => Or.inl (show x ≠ mc c by have := (mr c ((l11_lt c).2 hc)).2.2; omega))
  have m5 : ∀ j, j < 7 → WG (qM H) (vv p1 p2 p3) l11m hm 105 j = hm 105 j := fun j hj => wg_o _ _ _ _ (fun c hc => by
    have := (mr c ((l11_lt c).2 hc)).2.1
    by_cases z : mc c = 105
    · exact Or.inr (show j ≠ mi H c by have := this z; omega)
    · exact Or.inl (show 105 ≠ mc c from fun y => z y.symm))
  have mk : ∀ i c, i < H → c < 11 → WG (qM H) (vv p1 p2 p3) l11m hm (mc c) (mi i c) = hm (mc c) (mi i c) := fun i c hi hc => wg_o _ _ _ _ (fun d hd => by
    by_cases z : mc c = mc d
    · exact Or.inr (fun y => by have := (mi_inj i (by omega) c hc H (by omega) d ((l11_lt d).2 hd) z y).1; omega)
    · exact Or.inl z)
  have mv : ∀ c, c < 11 → WG (qM H) (vv p1 p2 p3) l11m hm (mc c) (mi H c) = vv p1 p2 p3 c := fun c hc => wg_v l11m _ c (l11_in c hc).2 (fun d hd e => by
    exact (mi_inj H (by omega) d ((l11_lt d).2 hd) H (by omega) c hc (congrArg Prod.fst e) (congrArg Prod.snd e)).2)
  have um : ∀ x, x ≠ 104 → up (up (WG (qM H) (vv p1 p2 p3) l11m hm) 104 6 (nI (H + 1))) 104 3 0 x = WG (qM H) (vv p1 p2 p3) l11m hm x := fun x hx => by rw [up_cell hx, up_cell hx]
  have u4 : ∀ j, j ≠ 3 → j ≠ 6 → up (up (WG (qM H) (vv p1 p2 p3) l11m hm) 104 6 (nI (H + 1))) 104 3 0 104 j = hm 104 j := fun j j3 j6 => by rw [up_oj j3, up_oj j6, mo 104 (by decide) (by decide) (by decide)]
  have umc : ∀ c, c < 11 → up (up (WG (qM H) (vv p1 p2 p3) l11m hm) 104 6 (nI (H + 1))) 104 3 0 (mc c) = WG (qM H) (vv p1 p2 p3) l11m hm (mc c) := fun c hc => um _ (by have := (mr c hc).2.2; omega)
  have lo : lsm (WG (qC H) (vv p1 p2 p3) l11 (up h 1 1 (nI (H + 1)))) H = lsm h H := lsm_of H (fun i hi => c2 _ (by omega))
  have v7 : (vv p1 p2 p3 7).toInt = 1 := rfl
  refine ⟨⟨⟨by omega, by rw [c1, up_same], by rw [up_oj (by decide), up_same], fun f f1 f2 => ?_, fun i c hi hc _ => ?_, fun i c hi hc => ?_⟩, ⟨lw.1, lw.2.1, lw.2.2.1, lwc_of lw.2.2.2.1 (fun x x1 x2 => co x (by omega) (by omega)), lwm_of lw.2.2.2.2 (fun x x1 x2 => by rw [um x (by omega)]; exact mo x (by omega) (by omega) (by omega))⟩, bk_of bk (co 16 (by decide) (by decide)) (co 17 (by decide) (by decide)) (by rw [um 105 (by decide)]; exact m5 2 (by decide)) (by rw [um 110 (by decide)]; exact mo 110 (by decide) (by decide) (by decide)), fun k hk => ?_, by rw [co 68 (by decide) (by decide)]; exact re, by rw [u4 5 (by decide) (by decide)]; exact th, ⟨fun i hi => ?_, ?_, hb⟩⟩, sk_of s (co 10 (by decide) (by decide)) (co 11 (by decide) (by decide)) (u4 33 (by decide) (by decide)) (by rw [um 121 (by decide)]; exact mo 121 (by decide) (by decide) (by decide)), ?_, by rw [co 14 (by decide) (by decide), u4 37 (by decide) (by decide)]; exact e37⟩
  · rw [c1, up_oj (by omega), um 105 (by decide), m5 _ (sf_r f f2 f1).1]
    exact q4 f f1 f2
  · rw [umc c hc]
    by_cases z : i = H
    · rw [z, cv c hc, mv c hc]
    · rw [c2 _ (by omega), mk i c (by omega) hc]
      exact q5 i c (by omega) hc (fun _ => trivial)
  · by_cases z : i = H
    · rw [z, cv c (by omega)]
      unfold vv
      rw [if_pos hc]
      exact r1
    · rw [c2 _ (by omega)]
      exact q6 i c (by omega) hc
  · rw [nx_fr (co 14 (by decide) (by decide)) (co 15 (by decide) (by decide)), um 123 (by decide), mo 123 (by decide) (by decide) (by decide)]
    exact nx k hk
  · by_cases z : i = H
    · rw [z, cv 7 (by decide), v7]; decide
    · rw [c2 _ (by omega)]
      exact ld.1 i (by omega)
  · rw [lsm, lo, cv 7 (by decide), v7]
    have := ld.2.1
    omega
  · have o' := of_of o (co 12 (by decide) (by decide)) (co 13 (by decide) (by decide)) (u4 35 (by decide) (by decide)) (show up (up (WG (qM H) (vv p1 p2 p3) l11m hm) 104 6 (nI (H + 1))) 104 3 0 122 = hm 122 by rw [um 122 (by decide)]; exact mo 122 (by decide) (by decide) (by decide))
    obtain ⟨o1, o2, o3, o4, o5⟩ := o'
    refine ⟨o1, o2, o3, o4, fun r hr => ?_⟩
    obtain ⟨z1, z2, ⟨a, a1, a2, a3⟩, z4⟩ := o5 r hr
    exact ⟨z1, z2, ⟨a, by omega, a2, a3⟩, z4⟩
end
section
/-! THE CALLS house and set -/
theorem tw_house (k : Nat) (a1 a2 a3 : Int32) (h : PH) (i : IM h) (t : TWN k h) (hk : k < 512) {rX rm : Int32} {h1 h2 : PH} (e1 : mX_house a1 a2 a3 h = some (rX, h1)) (e2 : mm_house a1 a2 a3 h1 = some (rm, h2)) (cs : CS h h1 h2) : TWN (k + 1) h2 := by
  have xx := cs.2.2.2.1
  have ss := cs.2.2.2.2
  obtain ⟨t1, t2, t3, ⟨H, N, M, u, s, Ls, t4, t5⟩, t6⟩ := id t
  have h12 : H ≤ 12 := t4.1.1.1
  have eH : h 1 1 = nI H := t4.1.1.2.1
  have eM : up h1 104 0 0 104 6 = nI H := by rw [up_oj (by decide), xx 104 (by decide)]; exact t4.1.1.2.2.1
  unfold mX_house at e1
  unfold mm_house at e2
  rw [lt_e] at e2
  by_cases f1 : 0 ≤ a1 ∧ a1 ≤ 99
  · by_cases f2 : 0 ≤ a2 ∧ a2 ≤ 9
    · by_cases f3 : 0 ≤ a3 ∧ a3 ≤ 9
      · rw [within_y f1, bd_e, jn1_e, if_neg no10, within_y f2, bd_e, if_neg no10, within_y f3, bd_e, if_neg no10] at e1
        rw [isIn_y f1, bd_e, if_neg no10, isIn_y f2, bd_e, if_neg no10, isIn_y f3, bd_e, if_neg no10, eM] at e2
        change (if (1 : Int32) = 0 then some (-1, h) else if (h 1 1) < 12 then bd (mP_forget h) fun h4 => bd2 (mB_build 1 a1 a2 a3 h4) fun r5 h6 => some (r5, h6) else some (-1, h)) = some (rX, h1) at e1
        rw [if_neg no10, eH] at e1
        by_cases c : H = 12
        · rw [if_neg (by rw [c]; decide)] at e1
          rw [if_pos (by rw [c]; rfl)] at e2
          cases e1
          cases e2
          exact twn_id t hk rfl
        · have hH : H < 12 := by omega
          rw [if_pos (show nI H < (12 : Int32) from nI_lt (b := 12) hH (by decide)), show mP_forget h = some (up h 70 3 0) from rfl, bd_e, bu_c hH (show up h 70 3 0 1 1 = nI H by rw [up_oc (by decide)]; exact eH) a1 a2 a3, bd2_e] at e1
          rw [if_neg (show ¬ nI H = (12 : Int32) from fun z => c ((nI_eq (b := 12) (by omega) (by decide)).mp z)), bu_m hH eM a1 a2 a3] at e2
          have e1' := (Prod.mk.inj (Option.some.inj e1)).2
          have e2' := (Prod.mk.inj (Option.some.inj e2)).2
          have t4' : TNt H N M (1000 * k) Ls (up h 70 3 0) (up h1 104 0 0) := tn_tr (tn_in xx t4) (fun x hx => up_cell (by omega)) (fun _ _ => rfl) (fun _ _ => rfl) (fun _ _ => rfl)
          have tn := hs_tn t4' hH (by omega) (rng_of (x := 0) (y := 99) rfl rfl f1) a2 a3
          rw [e1', e2'] at tn
          have co : ∀ x, x ≠ 1 → x ≠ 2 → x < 104 → h2 x = up h 70 3 0 x := fun x x1 x2 x3 => by
            rw [ss x x3, ← e1']
            funext j
            rw [wg_o _ _ _ _ (fun c _ => Or.inl x2), up_oc x1]
          have c1 : ∀ j, j ≠ 1 → h2 1 j = h 1 j := fun j hj => by
            rw [ss 1 (by decide), ← e1', wg_o _ _ _ _ (fun c _ => Or.inl (show 1 ≠ 2 by decide)), up_oj hj, up_oc (by decide)]
          have mr := fun c (hc : c < 11) => mi_r H (by omega) c hc
          have mo : ∀ x, x ≠ 105 → x ≠ 108 → x ≠ 109 → WG (qM H) (vv a1 a2 a3) l11m (up h1 104 0 0) x = up h1 104 0 0 x := fun x x1 x2 x3 => by
            funext j
            exact wg_o _ _ _ _ (fun c hc => Or.inl (show x ≠ mc c by have := (mr c ((l11_lt c).2 hc)).2.2; omega))
          have m4 : ∀ j, j ≠ 0 → j ≠ 3 → j ≠ 6 → h2 104 j = h 104 j := fun j j0 j3 j6 => by
            rw [← e2', up_oj j3, up_oj j6, mo 104 (by decide) (by decide) (by decide), up_oj j0, xx 104 (by decide)]
          refine ⟨by omega, fun x hx => ?_, ?_, ⟨H + 1, N, M, 0, s, Ls, tn_mono (tn_one ss (fun _ _ => rfl) tn) (by omega) (by omega), pk_0 t5.2.1 ?_ ?_ ?_⟩, fun nz => tni_st t hk i.1 (fun x hx => ?_) (m4 72 (by decide) (by decide) (by decide)) (m4 5 (by decide) (by decide) (by decide)) ?_ nz⟩
          · by_cases z : x = 1
            · rw [z, c1 6 (by decide)]; exact t2 1 (Or.inl rfl)
            · have : x ≠ 2 ∧ x < 104 ∧ x ≠ 70 := by
                rcases hx with y | y | ⟨e, y1, y2⟩ <;> omega
              rw [co x z this.1 this.2.1, up_cell this.2.2]
              exact t2 x hx
          · rw [co 69 (by decide) (by decide) (by decide), up_oc (by decide)]; exact t3
          · rw [co 70 (by decide) (by decide) (by decide), up_oj (by decide)]; exact t5.2.2.1
          · rw [co 70 (by decide) (by decide) (by decide), up_same]
          · rw [← e2', up_same]
          · rw [co x (by omega) (by omega) (by omega), up_cell (by omega)]
          · rw [← e2', up_cell (by decide), up_cell (by decide), mo 148 (by decide) (by decide) (by decide), up_cell (by decide), xx 148 (by decide)]
      · rw [within_y f1, bd_e, jn1_e, if_neg no10, within_y f2, bd_e, if_neg no10, within_n f3, bd_e, if_pos rfl] at e1
        rw [isIn_y f1, bd_e, if_neg no10, isIn_y f2, bd_e, if_neg no10, isIn_n f3, bd_e, if_pos rfl] at e2
        cases e1
        cases e2
        exact twn_id t hk rfl
    · rw [within_y f1, bd_e, jn1_e, if_neg no10, within_n f2, bd_e, if_pos rfl] at e1
      rw [isIn_y f1, bd_e, if_neg no10, isIn_n f2, bd_e, if_pos rfl] at e2
      cases e1
      cases e2
      exact twn_id t hk rfl
  · rw [within_n f1, bd_e, jn1_e, if_pos rfl] at e1
    rw [isIn_n f1, bd_e, if_pos rfl] at e2
    cases e1
    cases e2
    exact twn_id t hk rfl
/-- lodgers are set -/
theorem rt_w7 {B : BKT} {A : Nat → Prop} {H b : Nat} {Ls : LNS} {hc hm : PH} (r : RTT A H b Ls B hc hm) {i : Nat} (hi : i < H) {v : Int32} (hv : R 0 99 v) (hb : b + 99 < 1000000) : RTT A H (b + 99) Ls B (up hc 2 (11 * i + 7) v) (up hm 105 (79 + i) v) := by
  have r' := rt_mono r (b' := b + 99) (by omega) hb
  have ld := r.2.2.2.2.2.2
  refine rt_of r' (tb_wr r.1 hi (c := 7) (by decide) v (fun z => by omega)) (bk_of r.2.2.1 (up_cell (by decide)) (up_cell (by decide)) (up_oj (by omega)) (up_cell (by decide))) ⟨fun j hj => ?_, ?_, hb⟩ (fun x _ x2 _ _ _ _ _ => up_cell x2) (fun x x1 _ _ _ => up_cell x1)
  · by_cases z : j = i
    · rw [z, up_same]; exact hv.1
    · rw [up_oj (by omega)]; exact ld.1 j hj
  · rw [lsm_up H hi]
    have a := ld.1 i hi
    have b := ld.2.1
    have c := hv.2
    omega
/-- after what was set: the past is forgotten -/
theorem twn_st {k H N M : Nat} {Ls : LNS} {h h1 h2 gc gm : PH} (t : TWN k h) (hk : k < 512) (i : Inv h) {u s : Nat} (t4 : TNt H N M (1000 * k) Ls h h) (t5 : PK H (1000 * k) Ls u s h h) (xx : ∀ b, 104 ≤ b → h1 b = h b) (ss : ∀ b, b < 104 → h2 b = h1 b) (r : RTT AA H (1000 * (k + 1)) Ls B0 gc gm) (eg : h1 = up gc 70 3 0) (em : h2 = up gm 104 3 0) (c : ∀ x, x ≠ 1 → x ≠ 2 → gc x = h x) (c6 : gc 1 6 = h 1 6) (m : ∀ x, x ≠ 105 → x ≠ 108 → x ≠ 109 → gm x = up h1 104 0 0 x) : TWN (k + 1) h2 := by
  have co : ∀ x, x ≠ 70 → x < 104 → h2 x = gc x := fun x x1 x2 => by rw [ss x x2, eg, up_cell x1]
  have m4 : ∀ j, j ≠ 3 → h2 104 j = gm 104 j := fun j hj => by rw [em, up_oj hj]
  have mo : ∀ x, 105 ≤ x → h2 x = gm x := fun x hx => by rw [em, up_cell (by omega)]
  have tt := tn_in xx t4
  have g4 := m 104 (by decide) (by decide) (by decide)
  have r2 : RTT AA H (1000 * (k + 1)) Ls B0 h2 h2 := rt_tr r (fun x hx => co x (by omega) (by omega)) (fun j hj => m4 j (by omega)) (fun j hj => by rw [mo 105 (by decide)]) (fun x hx => mo x (by omega))
  refine ⟨by omega, fun x hx => ?_, ?_, ⟨H, N, M, 0, s, Ls, ⟨r2, ?_, ?_, ?_⟩, pk_0 t5.2.1 ?_ ?_ ?_⟩, fun nz => tni_st t hk i (fun x hx => ?_) ?_ ?_ ?_ nz⟩
  · have y : x ≠ 70 ∧ x < 104 ∧ x ≠ 2 := by
      rcases hx with y | y | ⟨e, y1, y2⟩ <;> omega
    rw [co x y.1 y.2.1]
    by_cases z : x = 1
    · rw [z, c6]; exact t.2.1 1 (Or.inl rfl)
    · rw [c x z y.2.2]; exact t.2.1 x hx
  · rw [co 69 (by decide) (by decide), c 69 (by decide) (by decide)]; exact t.2.2.1
  · exact sk_of tt.2.1 (by rw [co 10 (by decide) (by decide), c 10 (by decide) (by decide)]) (by rw [co 11 (by decide) (by decide), c 11 (by decide) (by decide)]) (by rw [m4 33 (by decide), g4]) (by rw [mo 121 (by decide), m 121 (by decide) (by decide) (by decide)])
  · exact of_of tt.2.2.1 (by rw [co 12 (by decide) (by decide), c 12 (by decide) (by decide)]) (by rw [co 13 (by decide) (by decide), c 13 (by decide) (by decide)]) (by rw [m4 35 (by decide), g4]) (by rw [mo 122 (by decide), m 122 (by decide) (by decide) (by decide)])
  · rw [co 14 (by decide) (by decide), c 14 (by decide) (by decide), m4 37 (by decide), g4]; exact tt.2.2.2
  · rw [ss 70 (by decide), eg, up_oj (by decide), c 70 (by decide) (by decide)]; exact t5.2.2.1
  · rw [ss 70 (by decide), eg, up_same]
  · rw [em, up_same]
  · rw [co x (by omega) (by omega), c x (by omega) (by omega)]
  · rw [m4 72 (by decide), g4, up_oj (by decide), xx 104 (by decide)]
  · rw [m4 5 (by decide), g4, up_oj (by decide), xx 104 (by decide)]
  · rw [mo 148 (by decide), m 148 (by decide) (by decide) (by decide), up_cell (by decide), xx 148 (by decide)]
theorem tw_set (k : Nat) (a1 a2 a3 : Int32) (h : PH) (i : IM h) (t : TWN k h) (hk : k < 512) {rX rm : Int32} {h1 h2 : PH} (e1 : mX_set a1 a2 a3 h = some (rX, h1)) (e2 : mm_set a1 a2 a3 h1 = some (rm, h2)) (cs : CS h h1 h2) : TWN (k + 1) h2 := by
  have xx := cs.2.2.2.1
  have ss := cs.2.2.2.2
  obtain ⟨t1, t2, t3, ⟨H, N, M, u, s, Ls, t4, t5⟩, t6⟩ := id t
  have h12 : H ≤ 12 := t4.1.1.1
  have tt := tn_in xx t4
  unfold mX_set at e1
  unfold mm_set mm_canSet at e2
  rw [lt_e] at e2
  rw [jn1_e] at e1
  by_cases c8 : a1 = 8
  · subst c8
    rw [if_pos rfl] at e1
    rw [if_pos rfl] at e2
    by_cases f : 0 ≤ a3 ∧ a3 ≤ 9
    · rw [within_y f, bd_e, if_neg no10, lt_e] at e1
      rw [isIn_y f, bd_e, bd_e, show nb (1 : Int32) = 1 from rfl, if_neg no10] at e2
      simp only [jn1_e] at e2
      have c3 : ∀ (z : Option (Int32 × PH)), ck 3 115 z = z := fun z => ck_nI (i := 3) (by decide) (by decide)
      rw [if_pos (show (4 : Int32) ≤ 8 by decide), if_neg (show ¬ (8 : Int32) = 4 by decide), if_neg (show ¬ (8 : Int32) = 5 by decide), if_neg (show ¬ (8 : Int32) = 6 by decide), if_neg (show ¬ (8 : Int32) = 7 by decide)] at e2
      have e2b : (ck 3 115 <| lt (up (up h1 104 0 0) 105 (ix 3) a3) fun h16 => lt (up h16 104 3 0) fun h15 => some ((1 : Int32), h15)) = some (rm, h2) := by
        rcases ite_or e2 with ⟨_, q⟩ | ⟨q, _⟩
        · exact q
        · exact absurd (by first | rfl | trivial) q
      rw [c3, lt_e, lt_e, show ix (3 : Int32) = 3 from rfl] at e2b
      change (bd (mP_forget (up h 1 2 a3)) fun h3 => some ((1 : Int32), h3)) = some (rX, h1) at e1
      rw [show mP_forget (up h 1 2 a3) = some (up (up h 1 2 a3) 70 3 0) from rfl, bd_e] at e1
      have e1' := (Prod.mk.inj (Option.some.inj e1)).2
      have e2' := (Prod.mk.inj (Option.some.inj e2b)).2
      exact twn_st t hk i.1 t4 t5 xx ss (rt_mono (rt_f tt.1 (f := 2) (by decide) (by decide) a3) (by omega) (by omega)) e1'.symm e2'.symm (fun x x1 _ => up_cell x1) (up_oj (by decide)) (fun x x1 _ _ => up_cell x1)
    · rw [within_n f, bd_e, if_pos rfl] at e1
      rw [isIn_n f, bd_e, bd_e, show nb (0 : Int32) = 0 from rfl, if_pos rfl] at e2
      cases e1
      cases e2
      exact twn_id t hk rfl
  · rw [if_neg c8] at e1
    rw [if_neg c8] at e2
    by_cases f : 0 ≤ a1 ∧ a1 ≤ 7
    · rw [within_y f, bd_e, if_neg no10] at e1
      rw [isIn_y f, bd_e, if_neg no10, hs_m h (up h1 104 0 0) H t4.1.1.2.1 tt.1.1.2.2.1 a2] at e2
      rcases hs_c h H t4.1.1.2.1 h12 a2 with ⟨j, hj, ej, hh⟩ | ⟨_, hh⟩
      · rw [hh, bd_e, if_neg no10] at e1
        rw [hh, bd_e, if_neg no10] at e2
        obtain ⟨c, cx, c2, ec⟩ := nat_of (rng_of (x := 0) (y := 7) rfl rfl f) (by decide)
        have hc : c < 8 := by omega
        subst ec ej
        have most : ∃ m, m ≤ 99 ∧ mX_mostToSet (nI c) h = some (nI m) ∧ ∀ (K : Int32 → Option Int32), (bd (mm_isIn (nI c) 4 6 (up h1 104 0 0)) fun r4 => jn1 K fun j5 => if r4 = 0 then j5 99 else j5 9) = K (nI m) := by
          by_cases z : c < 4 ∨ c = 7
          · refine ⟨99, by decide, ?_, fun K => ?_⟩
            · unfold mX_mostToSet
              rcases z with z | z
              · rw [if_pos (show nI c < (4 : Int32) from nI_lt (b := 4) z (by decide))]; rfl
              · rw [z]; rfl
            · rw [isIn_n (fun y => ?_), bd_e, jn1_e, if_pos rfl]
              · rfl
              · have y1 : 4 ≤ c := (nI_leI (a := 4) (by decide) (by omega)).mp y.1
                have y2 : c ≤ 6 := (nI_leI (b := 6) (by omega) (by decide)).mp y.2
                omega
          · refine ⟨9, by decide, ?_, fun K => ?_⟩
            · unfold mX_mostToSet
              rw [if_neg (show ¬ nI c < (4 : Int32) from fun y => absurd (nI_le (a := 4) (b := c) (by omega) (by omega)) (Int32.not_le.mpr y)), if_neg (show ¬ nI c = (7 : Int32) from fun y => z (Or.inr ((nI_eq (b := 7) (by omega) (by decide)).mp y)))]
              rfl
            · rw [isIn_y (show (4 : Int32) ≤ nI c ∧ nI c ≤ 6 from ⟨nI_le (a := 4) (by omega) (by omega), nI_le (b := 6) (by omega) (by decide)⟩), bd_e, jn1_e, if_neg no10]
              rfl
        obtain ⟨m, m1, m2, m3⟩ := most
        rw [m2, bd_e] at e1
        rw [m3] at e2
        have m99 : (nI m).toInt = m := nI_toInt (by omega)
        by_cases g : 0 ≤ a3 ∧ a3 ≤ nI m
        · have rv : R 0 99 a3 := by
            have := rng_of (x := 0) (y := (m : Int)) rfl m99 g
            exact ⟨this.1, by have := this.2; omega⟩
          rw [within_y g, bd_e, if_neg no10, wrB t4.1.1 hj (show c < 11 by omega) a3, bd_e] at e1
          rw [isIn_y g, bd_e, if_neg no10, bd_e, if_neg no10] at e2
          change (bd (mP_forget (up h 2 (11 * j + c) a3)) fun h3 => some ((1 : Int32), h3)) = some (rX, h1) at e1
          rw [show mP_forget (up h 2 (11 * j + c) a3) = some (up (up h 2 (11 * j + c) a3) 70 3 0) from rfl, bd_e] at e1
          have e1' := (Prod.mk.inj (Option.some.inj e1)).2
          simp only [jn1_e] at e2
          have e2' : up (up (up h1 104 0 0) (mc c) (mi j c) a3) 104 3 0 = h2 := by
            have n8 : ∀ d, d ≠ c → d < 100 → ¬ nI c = nI d := fun d hd hd2 y => hd ((nI_eq (by omega) (by omega)).mp y).symm
            have n4 := fun (z : c ≠ 4) => (show ¬ nI c = (4 : Int32) from n8 4 (Ne.symm z) (by decide))
            have n5 := fun (z : c ≠ 5) => (show ¬ nI c = (5 : Int32) from n8 5 (Ne.symm z) (by decide))
            have n6 := fun (z : c ≠ 6) => (show ¬ nI c = (6 : Int32) from n8 6 (Ne.symm z) (by decide))
            have n7 := fun (z : c ≠ 7) => (show ¬ nI c = (7 : Int32) from n8 7 (Ne.symm z) (by decide))
            have n8' := (show ¬ nI c = (8 : Int32) from n8 8 (by omega) (by decide))
            by_cases w4 : c < 4
            · rw [if_neg (show ¬ (4 : Int32) ≤ nI c from nI_ge (b := 4) w4 (by decide)), hwM tt.1.1 hj w4 a3 rv, bd_e, if_neg (n4 (by omega)), if_neg (n5 (by omega)), if_neg (n6 (by omega)), if_neg (n7 (by omega)), if_neg n8', lt_e] at e2
              exact (Prod.mk.inj (Option.some.inj e2)).2
            · rw [if_pos (show (4 : Int32) ≤ nI c from nI_le (a := 4) (by omega) (by omega))] at e2
              have cc : c = 4 ∨ c = 5 ∨ c = 6 ∨ c = 7 := by omega
              rcases cc with z | z | z | z
              · rw [if_pos (show nI c = (4 : Int32) by rw [z]; rfl), ck_nI (show j < 12 by omega) (by decide), lt_e, show ix (nI j) = j from nI_clamp (by omega), if_neg (n5 (by omega)), if_neg (n6 (by omega)), if_neg (n7 (by omega)), if_neg n8', lt_e] at e2
                rw [z]
                exact (Prod.mk.inj (Option.some.inj e2)).2
              · rw [if_neg (n4 (by omega)), if_pos (show nI c = (5 : Int32) by rw [z]; rfl), ck_nI (show j < 12 by omega) (by decide), lt_e, show ix (nI j) = j from nI_clamp (by omega), if_neg (n6 (by omega)), if_neg (n7 (by omega)), if_neg n8', lt_e] at e2
                rw [z]
                exact (Prod.mk.inj (Option.some.inj e2)).2
              · rw [if_neg (n4 (by omega)), if_neg (n5 (by omega)), if_pos (show nI c = (6 : Int32) by rw [z]; rfl), show (55 : Int32) + nI j = nI (55 + j) from nI_add 55 j, ck_nI (show 55 + j < 115 by omega) (by decide), lt_e, show ix (nI (55 + j)) = 55 + j from nI_clamp (by omega), if_neg (n7 (by omega)), if_neg n8', lt_e] at e2
                rw [z]
                exact (Prod.mk.inj (Option.some.inj e2)).2
              · rw [if_neg (n4 (by omega)), if_neg (n5 (by omega)), if_neg (n6 (by omega)), if_pos (show nI c = (7 : Int32) by rw [z]; rfl), show (79 : Int32) + nI j = nI (79 + j) from nI_add 79 j, ck_nI (show 79 + j < 115 by omega) (by decide), lt_e, show ix (nI (79 + j)) = 79 + j from nI_clamp (by omega), if_neg n8', lt_e] at e2
                rw [z]
                exact (Prod.mk.inj (Option.some.inj e2)).2
          have mcr := (mi_r j (by omega) c (by omega)).2.2
          have r2 : RTT AA H (1000 * (k + 1)) Ls B0 (up h 2 (11 * j + c) a3) (up (up h1 104 0 0) (mc c) (mi j c) a3) := by
            by_cases z : c = 7
            · subst z
              exact rt_mono (rt_w7 tt.1 hj rv (by omega)) (by omega) (by omega)
            · exact rt_mono (rt_wr tt.1 hj (c := c) (by omega) z a3 (fun _ => rv)) (by omega) (by omega)
          exact twn_st t hk i.1 t4 t5 xx ss r2 e1'.symm e2'.symm (fun x _ x2 => up_cell x2) (up_oc (by decide)) (fun x x1 x2 x3 => up_cell (by omega))
        · rw [within_n g, bd_e, if_pos rfl] at e1
          rw [isIn_n g, bd_e, if_pos rfl, bd_e, if_pos rfl] at e2
          cases e1
          cases e2
          exact twn_id t hk rfl
      · rw [hh, bd_e, if_pos rfl] at e1
        rw [hh, bd_e, if_pos rfl, bd_e, if_pos rfl] at e2
        cases e1
        cases e2
        exact twn_id t hk rfl
    · rw [within_n f, bd_e, if_pos rfl] at e1
      rw [isIn_n f, bd_e, if_pos rfl, bd_e, if_pos rfl] at e2
      cases e1
      cases e2
      exact twn_id t hk rfl
end
section
/-! THE CALL image -/
theorem pm_hi : ∀ p, p < 1850 → 104 ≤ (pm p).1 := by decide +kernel
theorem wid_rw : ∀ k, k < 6 → widT k = rwT k := by decide
theorem tni_s2 {k : Nat} {h g : PH} (t : TWN k h) (hk : k < 512) (i : Inv h) (c : ∀ x, x = 37 ∨ x = 38 ∨ (40 ≤ x ∧ x ≤ 51) ∨ x = 68 → g x = h x) (nz : ¬ h 104 72 = 0) (m5 : g 104 5 = h 104 5) (e : g 148 = h 148) : ∃ H N M Ls, TNt H N M (1000 * (k + 1)) Ls (iC g) (iM g) := by
  obtain ⟨H, N, M, Ls, t7⟩ := t.2.2.2.2 nz
  refine ⟨H, N, M, Ls, tn_mono (tn_cg2 t7 (fun j _ _ => ?_) (fun j _ => ?_) (fun k hk => ?_) ?_ ?_ ?_ ?_ ⟨?_, fun p hp => ?_⟩) (by omega) (by omega)⟩
  · rw [iC_1, iC_1, c 37 (by omega)]
  · rw [iC_2, iC_2, c 38 (by omega)]
  · rw [iC_r g (show 6 ≤ 6 + 2 * k by omega) (by omega), iC_r h (show 6 ≤ 6 + 2 * k by omega) (by omega), iC_r g (show 6 ≤ 7 + 2 * k by omega) (by omega), iC_r h (show 6 ≤ 7 + 2 * k by omega) (by omega), c (6 + 2 * k + 34) (by omega), c (7 + 2 * k + 34) (by omega)]
    exact ⟨rfl, rfl, fun _ _ => rfl⟩
  · rw [iC_r g (by decide) (by decide), iC_r h (by decide) (by decide), c (16 + 34) (by omega)]
  · rw [iC_o g (by decide), iC_o h (by decide), c 68 (by omega)]
  · rw [iC_r h (by decide) (by decide)]
    exact inv_rng i rfl
  · rw [iC_r h (by decide) (by decide)]
    exact ((rows_t i).1 4 (by decide)).2
  · rw [iM_5, iM_5, m5]
  · rw [iM_at g hp (show pm p = ((pm p).1, (pm p).2) from rfl), iM_at h hp (show pm p = ((pm p).1, (pm p).2) from rfl), e]
theorem tw_image (k : Nat) (a1 : Int32) (h : PH) (i : IM h) (rl : RLA h) (t : TWN k h) (hk : k < 512) {rX rm : Int32} {h1 h2 : PH} (e1 : mX_image (if a1 = 0 then 0 else 1) h = some (rX, h1)) (e2 : mm_image (if a1 = 0 then 0 else 1) h1 = some (rm, h2)) (cs : CS h h1 h2) : TWN (k + 1) h2 := by
  have xx := cs.2.2.2.1
  have ss := cs.2.2.2.2
  have i2 : Inv h2 := cs.1.1
  obtain ⟨t1, t2, t3, ⟨H, N, M, u, s, Ls, t4, t5⟩, t6⟩ := id t
  have rw2 := rows_t i2
  have rw0 := rows_t i.1
  by_cases c : a1 = 0
  · rw [if_pos c] at e1 e2
    by_cases cz : h 0 13 = 0
    · unfold mX_image at e1
      rw [if_pos rfl, if_pos cz] at e1
      cases e1
      unfold mm_image at e2
      rw [lt_e, jn0_e, if_pos rfl, if_pos (by rw [up_oj (by decide), ← rl.2.2.1]; exact cz)] at e2
      cases e2
      exact twn_id t hk rfl
    · have nz : ¬ h 104 72 = 0 := by rw [← rl.2.2.1]; exact cz
      have m5 : h2 104 5 = h1 104 5 := fkm_image 0 h1 e2 104 5 (show kk 104 5 ∉ FKdm_image _ from (by decide : 1005 ∉ FKdm_image 0))
      obtain ⟨g, eg, w, d1, d2, t7, -, z70⟩ := xi_back h i.1 cz
      rw [eg] at e1
      cases e1
      obtain ⟨g', eg', g72, -, v⟩ := kc_image 0 (Or.inl rfl) h1 (Or.inr (by rw [xx 104 (by decide)]; exact nz))
      rw [eg'] at e2
      cases e2
      obtain ⟨v1, v2, v3⟩ := v rfl
      obtain ⟨H', N', M', Ls', t8⟩ := t6 nz
      obtain ⟨s', s1, s2, es⟩ := nat_of (show R 0 5 (h2 70 2) from inv_rng i2 rfl) (by decide)
      have hi : ∀ x, 33 < x → x ≠ 70 → x < 104 → h2 x = h x := fun x x1 x2 x3 => by rw [ss x x3]; exact t7 x x1 x2
      refine ⟨by omega, fun x hx => ?_, by rw [hi 69 (by decide) (by decide) (by decide)]; exact t3, ⟨H', N', M', 0, s', Ls', tn_mono (tn_cg2 t8 (fun j j1 j2 => ?_) (fun j hj => ?_) (fun q hq => ?_) ?_ ?_ ?_ ?_ ⟨?_, fun p hp => ?_⟩) (by omega) (by omega), pk_0 (by omega) es (by rw [ss 70 (by decide)]; exact z70) v3⟩, fun _ => tni_s2 t hk i.1 (fun x hx => hi x (by omega) (by omega) (by omega)) nz (by rw [m5, xx 104 (by decide)]) (by rw [v2, xx 148 (by decide)])⟩
      · by_cases z : x = 1
        · rw [z, ss 1 (by decide), d1 6 (by decide) (by decide)]; exact t2 37 (Or.inr (Or.inl rfl))
        · rw [hi x (by rcases hx with y | y | ⟨e, y1, y2⟩ <;> omega) (by rcases hx with y | y | ⟨e, y1, y2⟩ <;> omega) (by rcases hx with y | y | ⟨e, y1, y2⟩ <;> omega)]
          exact t2 x hx
      · rw [ss 1 (by decide), iC_1]; exact d1 j j1 j2
      · rw [ss 2 (by decide), iC_2]; exact d2 j hj
      · have q14 : q < 14 := by omega
        rw [iC_r h (show 6 ≤ 6 + 2 * q by omega) (by omega), iC_r h (show 6 ≤ 7 + 2 * q by omega) (by omega), ss (6 + 2 * q) (by omega), ss (7 + 2 * q) (by omega), show 6 + 2 * q + 34 = 40 + 2 * q by omega, show 7 + 2 * q + 34 = 41 + 2 * q by omega, ← ss (6 + 2 * q) (by omega), (rw2.1 q hq).1, (rw0.1 q hq).2, ss (6 + 2 * q) (by omega)]
        refine ⟨(w q q14).1, rfl, fun j hj => (w q q14).2 j ?_⟩
        rw [wid_rw q hq]
        exact hj
      · rw [iC_r h (by decide) (by decide), rw2.2.1]; exact rw0.2.2.symm
      · rw [iC_o h (by decide), hi 68 (by decide) (by decide) (by decide)]
      · rw [iC_r h (by decide) (by decide)]; exact inv_rng i.1 rfl
      · rw [iC_r h (by decide) (by decide)]; exact (rw0.1 4 (by decide)).2
      · rw [iM_5, m5, xx 104 (by decide)]
      · rw [iM_at h hp (show pm p = ((pm p).1, (pm p).2) from rfl), v1 p hp, xx 148 (by decide)]
  · rw [if_neg c] at e1 e2
    obtain ⟨g, eg, w, d1, d2, t7, -⟩ := xi_take 1 (by decide) h i.1
    rw [eg] at e1
    cases e1
    obtain ⟨g', eg', g72, v, -⟩ := kc_image 1 (Or.inr rfl) h1 (Or.inl rfl)
    rw [eg'] at e2
    cases e2
    obtain ⟨v1, v2⟩ := v rfl
    have hi : ∀ x, x ≠ 0 → x < 37 ∨ 67 < x → x < 104 → h2 x = h x := fun x x1 x2 x3 => by rw [ss x x3]; exact t7 x x1 x2
    have mo : ∀ x, 105 ≤ x → x ≠ 148 → h2 x = h x := fun x x1 x2 => by
      rw [← xx x (by omega)]
      funext j
      exact v2 x j x2 (fun z => by omega)
    have m4 : ∀ j, j ≠ 73 → j ≠ 72 → j ≠ 71 → j ≠ 0 → h2 104 j = h 104 j := fun j j1 j2 j3 j4 => by
      rw [← xx 104 (by decide)]
      exact v2 104 j (by decide) (fun _ => ⟨j1, j2, j3, j4⟩)
    refine ⟨by omega, fun x hx => ?_, by rw [hi 69 (by decide) (by decide) (by decide)]; exact t3, ⟨H, N, M, u, s, Ls, tn_mono (tn_tr t4 (fun x hx => hi x (by omega) (by omega) (by omega)) (fun j hj => m4 j (by omega) (by omega) (by omega) (by omega)) (fun j _ => by rw [mo 105 (by decide) (by decide)]) (fun x hx => mo x (by omega) (by omega))) (by omega) (by omega), pk_mono (pk_tr t5 (fun x hx => hi x (by omega) (by omega) (by omega)) (fun j hj => m4 j (by omega) (by omega) (by omega) (by omega)) (fun x hx => mo x (by omega) (by omega))) (by omega) (by omega)⟩, fun _ => ⟨H, N, M, Ls, tn_mono (tn_cg2 t4 (fun j j1 j2 => ?_) (fun j hj => ?_) (fun q hq => ?_) ?_ ?_ ?_ ?_ ⟨?_, fun p hp => ?_⟩) (by omega) (by omega)⟩⟩
    · by_cases z : x = 37
      · rw [z, ss 37 (by decide), d1 6 (by decide) (by decide)]; exact t2 1 (Or.inl rfl)
      · rw [hi x (by rcases hx with y | y | ⟨e, y1, y2⟩ <;> omega) (by rcases hx with y | y | ⟨e, y1, y2⟩ <;> omega) (by rcases hx with y | y | ⟨e, y1, y2⟩ <;> omega)]
        exact t2 x hx
    · rw [iC_1, ss 37 (by decide)]; exact d1 j j1 j2
    · rw [iC_2, ss 38 (by decide)]; exact d2 j hj
    · have q14 : q < 14 := by omega
      rw [iC_r h2 (show 6 ≤ 6 + 2 * q by omega) (by omega), iC_r h2 (show 6 ≤ 7 + 2 * q by omega) (by omega), show 6 + 2 * q + 34 = 40 + 2 * q by omega, show 7 + 2 * q + 34 = 41 + 2 * q by omega, (rw2.1 q hq).2, (rw0.1 q hq).1, ss (40 + 2 * q) (by omega), ss (41 + 2 * q) (by omega)]
      refine ⟨(w q q14).1, rfl, fun j hj => (w q q14).2 j ?_⟩
      rw [wid_rw q hq]
      exact hj
    · rw [iC_r h2 (by decide) (by decide), rw0.2.1]; exact rw2.2.2
    · rw [iC_o h2 (by decide), hi 68 (by decide) (by decide) (by decide)]
    · exact inv_rng i.1 rfl
    · exact (rw0.1 4 (by decide)).1
    · rw [iM_5, m4 5 (by decide) (by decide) (by decide) (by decide)]
    · rw [iM_at h2 hp (show pm p = ((pm p).1, (pm p).2) from rfl), v1 p hp, xx _ (pm_hi p hp)]
end
section
/-! WHAT THE MODEL'S READER leaves alone. Printed by wip/gen/flo.py -/
def LOW (b j : Nat) : Prop := b < 1000 ∧ b ≠ 104 ∧ b ≠ 120 ∧ ¬ (114 ≤ b ∧ b ≤ 117 ∧ 16 ≤ j) ∧ ¬ ((b = 118 ∨ b = 119) ∧ 400 ≤ j) ∧ ¬ (b = 121 ∧ 48 ≤ j) ∧ ¬ (b = 122 ∧ 80 ≤ j) ∧ ¬ (b = 123 ∧ 12 ≤ j)
def Flo (h g : PH) : Prop := 0 ≤ (g 104 25).toInt → 0 ≤ (h 104 25).toInt ∧ ∀ b j, LOW b j → h b j = g b j
theorem flo_r (h : PH) : Flo h h := fun z => ⟨z, fun _ _ _ => rfl⟩
theorem flo_tr {h k g : PH} (f : Flo h g) (e : Flo k h) : Flo k g := fun z => ⟨(e (f z).1).1, fun b j l => ((e (f z).1).2 b j l).trans ((f z).2 b j l)⟩
theorem flo_fr {T : List Nat} {h k g : PH} (f : Flo h g) (e : Fk T k h) (n : ∀ b, b ∈ T → b = 120 ∨ (1000 ≤ b ∧ b ≠ 1025)) : Flo k g := flo_tr f (fun z => ⟨by
  rw [e 104 25 (fun q => by have := n _ q; rw [show kk 104 25 = 1025 from rfl] at this; omega)]
  exact z, fun b j l => e b j (fun q => by
    have y := n _ q
    unfold LOW at l
    unfold kk at y
    rw [if_neg l.2.1] at y
    omega)⟩)
theorem up_lo {h g : PH} {a j : Nat} {x : Int32} (f : Flo h g) (h4 : a ≠ 104) (n : ¬ LOW a j) : Flo (up h a j x) g := flo_tr f (fun z => ⟨by rw [up_oc (Ne.symm h4)]; exact z, fun b q l => up_ne (by
  by_cases y : b = a
  · subst y
    exact Or.inr (fun w => n (by rw [← w]; exact l))
  · exact Or.inl y)⟩)
theorem up_flo {h g : PH} {a j : Nat} {x : Int32} (f : Flo h g) (n : a = 120) : Flo (up h a j x) g := up_lo f (by omega) (fun l => l.2.2.1 n)
theorem up_flo4 {h g : PH} {j : Nat} {x : Int32} (f : Flo h g) (n : j ≠ 25) : Flo (up h 104 j x) g := flo_tr f (fun z => ⟨by rw [up_oj (Ne.symm n)]; exact z, fun b q l => up_oc l.2.1⟩)
theorem ixs {a v : Int32} {n : Nat} (c : vp_in (a + v) n) (ha : 0 ≤ a.toInt) (ha2 : a.toInt ≤ 10000) (hv : 0 ≤ v.toInt) : ((ix (a + v) : Nat) : Int) = a.toInt + v.toInt ∧ a.toInt + v.toInt < (n : Int) := by
  have c' : ¬ (a + v < 0 ∨ n ≤ ix (a + v)) := c
  have c1 : 0 ≤ (a + v).toInt := by
    have : ¬ a + v < 0 := fun q => c' (Or.inl q)
    rw [Int32.lt_iff_toInt_lt, show (0 : Int32).toInt = 0 from rfl] at this
    omega
  have c2 : ((ix (a + v) : Nat) : Int) = (a + v).toInt := clamp_int c1
  have c3 : ¬ n ≤ ix (a + v) := fun q => c' (Or.inr q)
  have vl : v.toInt < 2147483648 := by have := Int32.toInt_lt v; simpa using this
  have ad : (a + v).toInt = (a.toInt + v.toInt).bmod 4294967296 := Int32.toInt_add a v
  rw [Int.bmod_def] at ad
  split at ad
  · omega
  · omega
theorem lo_b {p v : Int32} {n t c : Nat} (h1 : (t : Int) ≤ p.toInt) (h2 : p.toInt ≤ (c : Int)) (k : vp_in (p + v) n) (hv : 0 ≤ v.toInt := by decide) (hc : c ≤ 10000 := by decide) (b : Nat := 121) (hb : (b = 121 ∧ t = 48) ∨ (b = 122 ∧ t = 80) := by decide) : ¬ LOW b (ix (p + v)) := fun l => by
  obtain ⟨a, _⟩ := ixs k (by omega) (by omega) hv
  unfold LOW at l
  omega
theorem lo_a {p : Int32} {n t : Nat} (h1 : (t : Int) ≤ p.toInt) (k : vp_in p n) (b : Nat := 121) (hb : (b = 121 ∧ t = 48) ∨ (b = 122 ∧ t = 80) := by decide) : ¬ LOW b (ix p) := fun l => by
  have : ((ix p : Nat) : Int) = p.toInt := clamp_int (by omega)
  unfold LOW at l
  omega
theorem flom_emits (p1 : Int32) (p2 : Int32) (h0 : PH) {r : PH} (hS : True) (hm : mm_emits p1 p2 h0 = some r) : Flo r h0 := by
  unfold mm_emits at hm
  obtain ⟨c1, hm⟩ := ck_s hm
  obtain ⟨h1, e1, hm⟩ := lt_some hm
  obtain ⟨c2, hm⟩ := ck_s hm
  obtain ⟨h2, e2, hm⟩ := lt_some hm
  obtain ⟨h3, e3, hm⟩ := lt_some hm
  cases hm
  have q1 : h1 104 25 = h0 104 25 := by rw [e1, up_oc (by decide)]
  have q2 : h2 104 25 = h0 104 25 := by rw [e2, up_oc (by decide), q1]
  intro z
  obtain ⟨a1, a2⟩ := ixs c1 (by decide) (by decide) z
  rw [show (800 : Int32).toInt = 800 from rfl] at a1 a2
  have ad : (h0 104 25 + 1).toInt = (h0 104 25).toInt + 1 := i_add (a := 0) (b := 1000) (c := 1) (d := 1) ⟨z, by omega⟩ ⟨by decide, by decide⟩ (by decide)
  refine ⟨by rw [e3, up_same, q2, ad]; omega, fun b j l => ?_⟩
  unfold LOW at l
  rw [e3, up_oc l.2.1, e2, q1, up_ne (by omega), e1, up_ne (by omega)]
theorem flom_readUnit (h0 : PH) {r : Int32 × PH} (hS : True) (hm : mm_readUnit h0 = some r) : Flo r.2 h0 := by
  generalize hge : h0 = g at ⊢
  have f : Flo h0 g := by rw [hge]; exact flo_r _
  unfold mm_readUnit at hm
  refine v_j1 (fun (x2 : Int32) => Flo r.2 g) hm (fun x2 hm => ?_) (fun j1 kj1 hm => ?_)
  · refine v_j0 (Flo r.2 g) hm (fun hm => ?_) (fun j3 kj3 hm => ?_)
    · refine v_j1 (fun (x5 : Int32) => Flo r.2 g) hm (fun x5 hm => ?_) (fun j4 kj4 hm => ?_)
      · refine v_j1 (fun (x7 : Int32) => Flo r.2 g) hm (fun x7 hm => ?_) (fun j6 kj6 hm => ?_)
        · obtain ⟨h8, he, hm⟩ := bd_s hm
          replace f := flo_tr f (flom_emits _ _ _ hS he)
          obtain ⟨h9, he, hm⟩ := bd_s hm
          replace f := flo_fr f (fkm_reads _ he) (by unfold FKdm_reads; decide)
          cases hm
          exact f
        · rcases ite_or hm with ⟨hc, hm⟩ | ⟨hc, hm⟩
          · exact kj6 _ hm
          · exact kj6 _ hm
      · rcases ite_or hm with ⟨hc, hm⟩ | ⟨hc, hm⟩
        · exact kj4 _ hm
        · exact kj4 _ hm
    · rcases ite_or hm with ⟨hc, hm⟩ | ⟨hc, hm⟩
      · rcases ite_or hm with ⟨hc, hm⟩ | ⟨hc, hm⟩
        · exact kj3 hm
        · obtain ⟨r10, h11, he, hm⟩ := bd2_s hm
          replace f := flo_fr f (fkm_errs _ _ he) (by unfold FKdm_errs; decide)
          cases hm
          exact f
      · exact kj3 hm
  · rcases ite_or hm with ⟨hc, hm⟩ | ⟨hc, hm⟩
    · obtain ⟨r12, -, hm⟩ := bd_s hm
      rcases ite_or hm with ⟨hc, hm⟩ | ⟨hc, hm⟩
      · exact kj1 _ hm
      · exact kj1 _ hm
    · exact kj1 _ hm
theorem wlo_m_readProduct_L10 (k0 : PH → Option (Int32 × PH)) (k1 : PH → Option (Int32 × PH)) (g : PH) (r : Int32 × PH) (hS : True) (kk0 : ∀ (y0 : PH), k0 y0 = some r → Flo y0 g → Flo r.2 g) (kk1 : ∀ (y0 : PH), k1 y0 = some r → Flo y0 g → Flo r.2 g) : ∀ (n : Nat) (hv : PH), mm_readProduct_L10 k0 k1 n hv = some r → Flo hv g → Flo r.2 g := by
  intro n
  induction n with
  | zero => intro hv hm; cases hm
  | succ n ih =>
    intro hv hm f
    unfold mm_readProduct_L10 at hm
    obtain ⟨r3, -, hm⟩ := bd_s hm
    refine v_j0 (Flo r.2 g) hm (fun hm => ?_) (fun j4 kj4 hm => ?_)
    · obtain ⟨r5, -, hm⟩ := bd_s hm
      obtain ⟨h6, he, hm⟩ := bd_s hm
      replace f := flo_fr f (fkm_reads _ he) (by unfold FKdm_reads; decide)
      refine v_j0 (Flo r.2 g) hm (fun hm => ?_) (fun j7 kj7 hm => ?_)
      · refine v_j0 (Flo r.2 g) hm (fun hm => ?_) (fun j8 kj8 hm => ?_)
        · obtain ⟨r9, h10, he, hm⟩ := bd2_s hm
          replace f := flo_tr f (flom_readUnit _ hS he)
          rcases ite_or hm with ⟨hc, hm⟩ | ⟨hc, hm⟩
          · cases hm
            exact f
          · refine v_j1 (fun (x12 : Int32) => Flo r.2 g) hm (fun x12 hm => ?_) (fun j11 kj11 hm => ?_)
            · obtain ⟨h13, he, hm⟩ := bd_s hm
              replace f := flo_tr f (flom_emits _ _ _ hS he)
              exact ih _ hm f
            · rcases ite_or hm with ⟨hc, hm⟩ | ⟨hc, hm⟩
              · exact kj11 _ hm
              · exact kj11 _ hm
        · rcases ite_or hm with ⟨hc, hm⟩ | ⟨hc, hm⟩
          · rcases ite_or hm with ⟨hc, hm⟩ | ⟨hc, hm⟩
            · exact kk1 _ hm f
            · exact kj8 hm
          · exact kj8 hm
      · rcases ite_or hm with ⟨hc, hm⟩ | ⟨hc, hm⟩
        · rcases ite_or hm with ⟨hc, hm⟩ | ⟨hc, hm⟩
          · exact kj7 hm
          · exact kk0 _ hm f
        · exact kj7 hm
    · rcases ite_or hm with ⟨hc, hm⟩ | ⟨hc, hm⟩
      · obtain ⟨r14, -, hm⟩ := bd_s hm
        rcases ite_or hm with ⟨hc, hm⟩ | ⟨hc, hm⟩
        · cases hm
          exact f
        · exact kj4 hm
      · exact kj4 hm
theorem flom_readProduct (h0 : PH) {r : Int32 × PH} (hS : True) (hm : mm_readProduct h0 = some r) : Flo r.2 h0 := by
  generalize hge : h0 = g at ⊢
  have f : Flo h0 g := by rw [hge]; exact flo_r _
  unfold mm_readProduct at hm
  obtain ⟨r1, h2, he, hm⟩ := bd2_s hm
  replace f := flo_tr f (flom_readUnit _ hS he)
  rcases ite_or hm with ⟨hc, hm⟩ | ⟨hc, hm⟩
  · cases hm
    exact f
  · refine wlo_m_readProduct_L10 _ _ g _ hS (fun h15 hm f => ?_) (fun h18 hm f => ?_) _ _ hm f
    · obtain ⟨r16, h17, he, hm⟩ := bd2_s hm
      replace f := flo_fr f (fkm_errs _ _ he) (by unfold FKdm_errs; decide)
      cases hm
      exact f
    · obtain ⟨r19, h20, he, hm⟩ := bd2_s hm
      replace f := flo_fr f (fkm_errs _ _ he) (by unfold FKdm_errs; decide)
      cases hm
      exact f
theorem wlo_m_readSum_L10  (g : PH) (r : Int32 × PH) (hS : True) : ∀ (n : Nat) (hv : PH), mm_readSum_L10  n hv = some r → Flo hv g → Flo r.2 g := by
  intro n
  induction n with
  | zero => intro hv hm; cases hm
  | succ n ih =>
    intro hv hm f
    unfold mm_readSum_L10 at hm
    obtain ⟨r3, -, hm⟩ := bd_s hm
    refine v_j0 (Flo r.2 g) hm (fun hm => ?_) (fun j4 kj4 hm => ?_)
    · refine v_j1 (fun (x6 : Int32) => Flo r.2 g) hm (fun x6 hm => ?_) (fun j5 kj5 hm => ?_)
      · obtain ⟨h7, he, hm⟩ := bd_s hm
        replace f := flo_fr f (fkm_reads _ he) (by unfold FKdm_reads; decide)
        obtain ⟨r8, h9, he, hm⟩ := bd2_s hm
        replace f := flo_tr f (flom_readProduct _ hS he)
        rcases ite_or hm with ⟨hc, hm⟩ | ⟨hc, hm⟩
        · cases hm
          exact f
        · obtain ⟨h10, he, hm⟩ := bd_s hm
          replace f := flo_tr f (flom_emits _ _ _ hS he)
          exact ih _ hm f
      · rcases ite_or hm with ⟨hc, hm⟩ | ⟨hc, hm⟩
        · exact kj5 _ hm
        · exact kj5 _ hm
    · rcases ite_or hm with ⟨hc, hm⟩ | ⟨hc, hm⟩
      · obtain ⟨r11, -, hm⟩ := bd_s hm
        rcases ite_or hm with ⟨hc, hm⟩ | ⟨hc, hm⟩
        · cases hm
          exact f
        · exact kj4 hm
      · exact kj4 hm
theorem flom_readSum (h0 : PH) {r : Int32 × PH} (hS : True) (hm : mm_readSum h0 = some r) : Flo r.2 h0 := by
  generalize hge : h0 = g at ⊢
  have f : Flo h0 g := by rw [hge]; exact flo_r _
  unfold mm_readSum at hm
  obtain ⟨r1, h2, he, hm⟩ := bd2_s hm
  replace f := flo_tr f (flom_readProduct _ hS he)
  rcases ite_or hm with ⟨hc, hm⟩ | ⟨hc, hm⟩
  · cases hm
    exact f
  · exact wlo_m_readSum_L10 g _ hS _ _ hm f
theorem flom_readCompared (h0 : PH) {r : Int32 × PH} (hS : True) (hm : mm_readCompared h0 = some r) : Flo r.2 h0 := by
  generalize hge : h0 = g at ⊢
  have f : Flo h0 g := by rw [hge]; exact flo_r _
  unfold mm_readCompared at hm
  obtain ⟨r1, h2, he, hm⟩ := bd2_s hm
  replace f := flo_tr f (flom_readSum _ hS he)
  rcases ite_or hm with ⟨hc, hm⟩ | ⟨hc, hm⟩
  · cases hm
    exact f
  · obtain ⟨r3, -, hm⟩ := bd_s hm
    refine v_j0 (Flo r.2 g) hm (fun hm => ?_) (fun j4 kj4 hm => ?_)
    · refine v_j1 (fun (x6 : Int32) => Flo r.2 g) hm (fun x6 hm => ?_) (fun j5 kj5 hm => ?_)
      · obtain ⟨h7, he, hm⟩ := bd_s hm
        replace f := flo_fr f (fkm_reads _ he) (by unfold FKdm_reads; decide)
        obtain ⟨r8, h9, he, hm⟩ := bd2_s hm
        replace f := flo_tr f (flom_readSum _ hS he)
        rcases ite_or hm with ⟨hc, hm⟩ | ⟨hc, hm⟩
        · cases hm
          exact f
        · obtain ⟨h10, he, hm⟩ := bd_s hm
          replace f := flo_tr f (flom_emits _ _ _ hS he)
          cases hm
          exact f
      · rcases ite_or hm with ⟨hc, hm⟩ | ⟨hc, hm⟩
        · exact kj5 _ hm
        · rcases ite_or hm with ⟨hc, hm⟩ | ⟨hc, hm⟩
          · exact kj5 _ hm
          · exact kj5 _ hm
    · rcases ite_or hm with ⟨hc, hm⟩ | ⟨hc, hm⟩
      · obtain ⟨r11, -, hm⟩ := bd_s hm
        rcases ite_or hm with ⟨hc, hm⟩ | ⟨hc, hm⟩
        · obtain ⟨r12, -, hm⟩ := bd_s hm
          rcases ite_or hm with ⟨hc, hm⟩ | ⟨hc, hm⟩
          · obtain ⟨r13, h14, he, hm⟩ := bd2_s hm
            replace f := flo_fr f (fkm_errs _ _ he) (by unfold FKdm_errs; decide)
            cases hm
            exact f
          · exact kj4 hm
        · exact kj4 hm
      · exact kj4 hm
theorem wlo_m_settles_L0 (p1 : Int32) (g : PH) (r : PH) (hS : True) : ∀ (n : Nat) (hv : PH), mm_settles_L0 p1 n hv = some r → Flo hv g → Flo r g := by
  intro n
  induction n with
  | zero => intro hv hm; cases hm
  | succ n ih =>
    intro hv hm f
    unfold mm_settles_L0 at hm
    rcases ite_or hm with ⟨hc, hm⟩ | ⟨hc, hm⟩
    · cases hm
      exact f
    · obtain ⟨-, hm⟩ := ck_s hm
      rcases ite_or hm with ⟨hc, hm⟩ | ⟨hc, hm⟩
      · obtain ⟨h1, e1, hm⟩ := lt_some hm
        replace f : Flo h1 g := by rw [e1]; exact up_flo4 f (by decide)
        obtain ⟨h2, he, hm⟩ := bd_s hm
        replace f := flo_tr f (flom_emits _ _ _ hS he)
        rcases ite_or hm with ⟨hc, hm⟩ | ⟨hc, hm⟩
        · obtain ⟨h3, e1, hm⟩ := lt_some hm
          replace f : Flo h3 g := by rw [e1]; exact up_flo4 f (by decide)
          exact ih _ hm f
        · exact ih _ hm f
      · cases hm
        exact f
theorem flom_settles (p1 : Int32) (h0 : PH) {r : PH} (hS : True) (hm : mm_settles p1 h0 = some r) : Flo r h0 := by
  generalize hge : h0 = g at ⊢
  have f : Flo h0 g := by rw [hge]; exact flo_r _
  unfold mm_settles at hm
  exact wlo_m_settles_L0 _ g _ hS _ _ hm f
theorem wlo_m_readAny_L9 (k0 : PH → Option (Int32 × PH)) (k1 : PH → Option (Int32 × PH)) (g : PH) (r : Int32 × PH) (hS : True) (kk0 : ∀ (y0 : PH), k0 y0 = some r → Flo y0 g → Flo r.2 g) (kk1 : ∀ (y0 : PH), k1 y0 = some r → Flo y0 g → Flo r.2 g) : ∀ (n : Nat) (v1 : Int32) (v2 : Int32) (hv : PH), mm_readAny_L9 k0 k1 n v1 v2 hv = some r → Flo hv g → Flo r.2 g := by
  intro n
  induction n with
  | zero => intro v1 v2 hv hm; cases hm
  | succ n ih =>
    intro v1 v2 hv hm f
    unfold mm_readAny_L9 at hm
    rcases ite_or hm with ⟨hc, hm⟩ | ⟨hc, hm⟩
    · obtain ⟨r2, -, hm⟩ := bd_s hm
      rcases ite_or hm with ⟨hc, hm⟩ | ⟨hc, hm⟩
      · obtain ⟨r3, -, hm⟩ := bd_s hm
        rcases ite_or hm with ⟨hc, hm⟩ | ⟨hc, hm⟩
        · obtain ⟨h4, he, hm⟩ := bd_s hm
          replace f := flo_tr f (flom_settles _ _ hS he)
          obtain ⟨h5, he, hm⟩ := bd_s hm
          replace f := flo_tr f (flom_settles _ _ hS he)
          rcases ite_or hm with ⟨hc, hm⟩ | ⟨hc, hm⟩
          · cases hm
            exact f
          · obtain ⟨r6, -, hm⟩ := bd_s hm
            rcases ite_or hm with ⟨hc, hm⟩ | ⟨hc, hm⟩
            · exact kk1 _ hm f
            · obtain ⟨h7, e1, hm⟩ := lt_some hm
              replace f : Flo h7 g := by rw [e1]; exact up_flo4 f (by decide)
              obtain ⟨x8, -, hm⟩ := lt_some hm
              obtain ⟨h9, e1, hm⟩ := lt_some hm
              replace f : Flo h9 g := by rw [e1]; exact up_flo4 f (by decide)
              obtain ⟨h10, he, hm⟩ := bd_s hm
              replace f := flo_tr f (flom_settles _ _ hS he)
              obtain ⟨h11, he, hm⟩ := bd_s hm
              replace f := flo_fr f (fkm_reads _ he) (by unfold FKdm_reads; decide)
              exact ih _ _ _ hm f
        · obtain ⟨h12, he, hm⟩ := bd_s hm
          replace f := flo_tr f (flom_settles _ _ hS he)
          obtain ⟨h13, he, hm⟩ := bd_s hm
          replace f := flo_tr f (flom_settles _ _ hS he)
          obtain ⟨h14, he, hm⟩ := bd_s hm
          replace f := flo_fr f (fkm_waits _ _ he) (by unfold FKdm_waits; decide)
          obtain ⟨h15, he, hm⟩ := bd_s hm
          replace f := flo_fr f (fkm_reads _ he) (by unfold FKdm_reads; decide)
          exact ih _ _ _ hm f
      · obtain ⟨h16, he, hm⟩ := bd_s hm
        replace f := flo_tr f (flom_settles _ _ hS he)
        obtain ⟨h17, he, hm⟩ := bd_s hm
        replace f := flo_fr f (fkm_waits _ _ he) (by unfold FKdm_waits; decide)
        obtain ⟨h18, he, hm⟩ := bd_s hm
        replace f := flo_fr f (fkm_reads _ he) (by unfold FKdm_reads; decide)
        exact ih _ _ _ hm f
    · obtain ⟨r19, -, hm⟩ := bd_s hm
      refine v_j0 (Flo r.2 g) hm (fun hm => ?_) (fun j20 kj20 hm => ?_)
      · rcases ite_or hm with ⟨hc, hm⟩ | ⟨hc, hm⟩
        · exact kk0 _ hm f
        · obtain ⟨h21, e1, hm⟩ := lt_some hm
          replace f : Flo h21 g := by rw [e1]; exact up_flo4 f (by decide)
          refine v_j1 (fun (x23 : Int32) => Flo r.2 g) hm (fun x23 hm => ?_) (fun j22 kj22 hm => ?_)
          · refine v_j1 (fun (x25 : Int32) => Flo r.2 g) hm (fun x25 hm => ?_) (fun j24 kj24 hm => ?_)
            · obtain ⟨h26, he, hm⟩ := bd_s hm
              replace f := flo_fr f (fkm_waits _ _ he) (by unfold FKdm_waits; decide)
              obtain ⟨h27, he, hm⟩ := bd_s hm
              replace f := flo_fr f (fkm_reads _ he) (by unfold FKdm_reads; decide)
              exact ih _ _ _ hm f
            · rcases ite_or hm with ⟨hc, hm⟩ | ⟨hc, hm⟩
              · exact kj24 _ hm
              · exact kj24 _ hm
          · rcases ite_or hm with ⟨hc, hm⟩ | ⟨hc, hm⟩
            · obtain ⟨x28, -, hm⟩ := lt_some hm
              exact kj22 _ hm
            · exact kj22 _ hm
      · rcases ite_or hm with ⟨hc, hm⟩ | ⟨hc, hm⟩
        · obtain ⟨r29, -, hm⟩ := bd_s hm
          rcases ite_or hm with ⟨hc, hm⟩ | ⟨hc, hm⟩
          · obtain ⟨r30, h31, he, hm⟩ := bd2_s hm
            replace f := flo_tr f (flom_readCompared _ hS he)
            rcases ite_or hm with ⟨hc, hm⟩ | ⟨hc, hm⟩
            · cases hm
              exact f
            · obtain ⟨h32, he, hm⟩ := bd_s hm
              replace f := flo_tr f (flom_settles _ _ hS he)
              exact ih _ _ _ hm f
          · exact kj20 hm
        · exact kj20 hm
theorem flom_readAny (h0 : PH) {r : Int32 × PH} (hS : True) (hm : mm_readAny h0 = some r) : Flo r.2 h0 := by
  generalize hge : h0 = g at ⊢
  have f : Flo h0 g := by rw [hge]; exact flo_r _
  unfold mm_readAny at hm
  obtain ⟨h1, e1, hm⟩ := lt_some hm
  replace f : Flo h1 g := by rw [e1]; exact up_flo4 f (by decide)
  refine wlo_m_readAny_L9 _ _ g _ hS (fun h33 hm f => ?_) (fun h36 hm f => ?_) _ _ _ _ hm f
  · obtain ⟨r34, h35, he, hm⟩ := bd2_s hm
    replace f := flo_fr f (fkm_errs _ _ he) (by unfold FKdm_errs; decide)
    cases hm
    exact f
  · obtain ⟨r37, h38, he, hm⟩ := bd2_s hm
    replace f := flo_fr f (fkm_errs _ _ he) (by unfold FKdm_errs; decide)
    cases hm
    exact f
theorem flom_readSkyLine (p1 : Int32) (h0 : PH) {r : Int32 × PH} (hS : 48 ≤ p1.toInt ∧ p1.toInt ≤ 96) (hm : mm_readSkyLine p1 h0 = some r) : Flo r.2 h0 := by
  generalize hge : h0 = g at ⊢
  have f : Flo h0 g := by rw [hge]; exact flo_r _
  unfold mm_readSkyLine at hm
  obtain ⟨r1, h2, he, hm⟩ := bd2_s hm
  replace f := flo_fr f (fkm_readTold _ _ _ _ he) (by unfold FKdm_readTold; decide)
  obtain ⟨hck, hm⟩ := ck_s hm
  obtain ⟨h3, e1, hm⟩ := lt_some hm
  replace f : Flo h3 g := by rw [e1]; exact up_lo f (by decide) (by first | exact lo_a (t := 48) hS.1 hck 121 | exact lo_b (t := 48) (c := 96) hS.1 hS.2 hck (by decide) (by decide) 121)
  obtain ⟨hck, hm⟩ := ck_s hm
  rcases ite_or hm with ⟨hc, hm⟩ | ⟨hc, hm⟩
  · cases hm
    exact f
  · obtain ⟨r4, -, hm⟩ := bd_s hm
    refine v_j1 (fun (x6 : Int32) => Flo r.2 g) hm (fun x6 hm => ?_) (fun j5 kj5 hm => ?_)
    · rcases ite_or hm with ⟨hc, hm⟩ | ⟨hc, hm⟩
      · obtain ⟨r7, h8, he, hm⟩ := bd2_s hm
        replace f := flo_fr f (fkm_errs _ _ he) (by unfold FKdm_errs; decide)
        cases hm
        exact f
      · obtain ⟨h9, he, hm⟩ := bd_s hm
        replace f := flo_fr f (fkm_reads _ he) (by unfold FKdm_reads; decide)
        obtain ⟨hck, hm⟩ := ck_s hm
        obtain ⟨h10, e1, hm⟩ := lt_some hm
        replace f : Flo h10 g := by rw [e1]; exact up_lo f (by decide) (by first | exact lo_a (t := 48) hS.1 hck 121 | exact lo_b (t := 48) (c := 96) hS.1 hS.2 hck (by decide) (by decide) 121)
        refine v_j2 (fun (x12 : Int32) (h13 : PH) => Flo h13 g → Flo r.2 g) hm (fun x12 h13 hm f => ?_) (fun j11 kj11 hm => ?_)
        · obtain ⟨hck, hm⟩ := ck_s hm
          obtain ⟨h14, e1, hm⟩ := lt_some hm
          replace f : Flo h14 g := by rw [e1]; exact up_lo f (by decide) (by first | exact lo_a (t := 48) hS.1 hck 121 | exact lo_b (t := 48) (c := 96) hS.1 hS.2 hck (by decide) (by decide) 121)
          obtain ⟨hck, hm⟩ := ck_s hm
          rcases ite_or hm with ⟨hc, hm⟩ | ⟨hc, hm⟩
          · cases hm
            exact f
          · obtain ⟨r15, h16, he, hm⟩ := bd2_s hm
            replace f := flo_fr f (fkm_readMark _ _ he) (by unfold FKdm_readMark; decide)
            cases hm
            exact f
        · rcases ite_or hm with ⟨hc, hm⟩ | ⟨hc, hm⟩
          · obtain ⟨r17, h18, he, hm⟩ := bd2_s hm
            replace f := flo_fr f (fkm_readNumber _ _ _ he) (by unfold FKdm_readNumber; decide)
            exact kj11 _ _ hm f
          · exact kj11 _ _ hm f
    · rcases ite_or hm with ⟨hc, hm⟩ | ⟨hc, hm⟩
      · obtain ⟨r19, -, hm⟩ := bd_s hm
        rcases ite_or hm with ⟨hc, hm⟩ | ⟨hc, hm⟩
        · obtain ⟨r20, -, hm⟩ := bd_s hm
          rcases ite_or hm with ⟨hc, hm⟩ | ⟨hc, hm⟩
          · exact kj5 _ hm
          · exact kj5 _ hm
        · exact kj5 _ hm
      · exact kj5 _ hm
theorem flom_readDeed (p1 : Int32) (h0 : PH) {r : Int32 × PH} (hS : 80 ≤ p1.toInt ∧ p1.toInt ≤ 160) (hm : mm_readDeed p1 h0 = some r) : Flo r.2 h0 := by
  generalize hge : h0 = g at ⊢
  have f : Flo h0 g := by rw [hge]; exact flo_r _
  unfold mm_readDeed at hm
  obtain ⟨r1, h2, he, hm⟩ := bd2_s hm
  replace f := flo_fr f (fkm_readTold _ _ _ _ he) (by unfold FKdm_readTold; decide)
  obtain ⟨hck, hm⟩ := ck_s hm
  obtain ⟨h3, e1, hm⟩ := lt_some hm
  replace f : Flo h3 g := by rw [e1]; exact up_lo f (by decide) (by first | exact lo_a (t := 80) hS.1 hck 122 | exact lo_b (t := 80) (c := 160) hS.1 hS.2 hck (by decide) (by decide) 122)
  obtain ⟨hck, hm⟩ := ck_s hm
  rcases ite_or hm with ⟨hc, hm⟩ | ⟨hc, hm⟩
  · cases hm
    exact f
  · refine v_j0 (Flo r.2 g) hm (fun hm => ?_) (fun j4 kj4 hm => ?_)
    · obtain ⟨r5, h6, he, hm⟩ := bd2_s hm
      replace f := flo_fr f (fkm_errs _ _ he) (by unfold FKdm_errs; decide)
      cases hm
      exact f
    · rcases ite_or hm with ⟨hc, hm⟩ | ⟨hc, hm⟩
      · obtain ⟨r7, -, hm⟩ := bd_s hm
        rcases ite_or hm with ⟨hc, hm⟩ | ⟨hc, hm⟩
        · exact kj4 hm
        · obtain ⟨x8, -, hm⟩ := lt_some hm
          obtain ⟨h9, he, hm⟩ := bd_s hm
          replace f := flo_fr f (fkm_reads _ he) (by unfold FKdm_reads; decide)
          obtain ⟨hck, hm⟩ := ck_s hm
          obtain ⟨h10, e1, hm⟩ := lt_some hm
          replace f : Flo h10 g := by rw [e1]; exact up_lo f (by decide) (by first | exact lo_a (t := 80) hS.1 hck 122 | exact lo_b (t := 80) (c := 160) hS.1 hS.2 hck (by decide) (by decide) 122)
          obtain ⟨r11, h12, he, hm⟩ := bd2_s hm
          replace f := flo_fr f (fkm_readNumber _ _ _ he) (by unfold FKdm_readNumber; decide)
          obtain ⟨hck, hm⟩ := ck_s hm
          obtain ⟨h13, e1, hm⟩ := lt_some hm
          replace f : Flo h13 g := by rw [e1]; exact up_lo f (by decide) (by first | exact lo_a (t := 80) hS.1 hck 122 | exact lo_b (t := 80) (c := 160) hS.1 hS.2 hck (by decide) (by decide) 122)
          obtain ⟨hck, hm⟩ := ck_s hm
          rcases ite_or hm with ⟨hc, hm⟩ | ⟨hc, hm⟩
          · cases hm
            exact f
          · refine v_j2 (fun (x15 : Int32) (h16 : PH) => Flo h16 g → Flo r.2 g) hm (fun x15 h16 hm f => ?_) (fun j14 kj14 hm => ?_)
            · obtain ⟨hck, hm⟩ := ck_s hm
              obtain ⟨h17, e1, hm⟩ := lt_some hm
              replace f : Flo h17 g := by rw [e1]; exact up_lo f (by decide) (by first | exact lo_a (t := 80) hS.1 hck 122 | exact lo_b (t := 80) (c := 160) hS.1 hS.2 hck (by decide) (by decide) 122)
              obtain ⟨hck, hm⟩ := ck_s hm
              rcases ite_or hm with ⟨hc, hm⟩ | ⟨hc, hm⟩
              · cases hm
                exact f
              · refine v_j2 (fun (x19 : Int32) (h20 : PH) => Flo h20 g → Flo r.2 g) hm (fun x19 h20 hm f => ?_) (fun j18 kj18 hm => ?_)
                · obtain ⟨hck, hm⟩ := ck_s hm
                  obtain ⟨h21, e1, hm⟩ := lt_some hm
                  replace f : Flo h21 g := by rw [e1]; exact up_lo f (by decide) (by first | exact lo_a (t := 80) hS.1 hck 122 | exact lo_b (t := 80) (c := 160) hS.1 hS.2 hck (by decide) (by decide) 122)
                  obtain ⟨hck, hm⟩ := ck_s hm
                  rcases ite_or hm with ⟨hc, hm⟩ | ⟨hc, hm⟩
                  · cases hm
                    exact f
                  · obtain ⟨r22, h23, he, hm⟩ := bd2_s hm
                    replace f := flo_fr f (fkm_readMark _ _ he) (by unfold FKdm_readMark; decide)
                    cases hm
                    exact f
                · refine v_j0 (Flo r.2 g) hm (fun hm => ?_) (fun j24 kj24 hm => ?_)
                  · obtain ⟨r25, h26, he, hm⟩ := bd2_s hm
                    replace f := flo_fr f (fkm_readNumber _ _ _ he) (by unfold FKdm_readNumber; decide)
                    exact kj18 _ _ hm f
                  · rcases ite_or hm with ⟨hc, hm⟩ | ⟨hc, hm⟩
                    · exact kj24 hm
                    · rcases ite_or hm with ⟨hc, hm⟩ | ⟨hc, hm⟩
                      · exact kj24 hm
                      · exact kj18 _ _ hm f
            · rcases ite_or hm with ⟨hc, hm⟩ | ⟨hc, hm⟩
              · obtain ⟨r27, h28, he, hm⟩ := bd2_s hm
                replace f := flo_fr f (fkm_readNumber _ _ _ he) (by unfold FKdm_readNumber; decide)
                exact kj14 _ _ hm f
              · exact kj14 _ _ hm f
      · exact kj4 hm
theorem er_lo (p : Int32) {g : PH} {r : Int32 × PH} (e : (bd2 (mm_errs p g) fun r h => some (r, h)) = some r) : Flo r.2 g := by
  obtain ⟨a, b, he, e⟩ := bd2_s e
  cases e
  exact flo_fr (flo_r g) (fkm_errs _ _ he) (by unfold FKdm_errs; decide)
theorem ke_lo (x : Int32) {g : PH} {r : Int32 × PH} (e : (if (g 104 14) = 0 then some (x, g) else bd2 (mm_errs 1 g) fun r h => some (r, h)) = some r) : Flo r.2 g := by
  rcases ite_or e with ⟨_, e⟩ | ⟨_, e⟩
  · cases e
    exact flo_r g
  · exact er_lo 1 e
theorem v_1 {v : Int32} (h1 : 0 ≤ v.toInt) (h2 : v.toInt ≤ 16) (h3 : ¬ v = 16) : 0 ≤ (v + 1).toInt ∧ (v + 1).toInt ≤ 16 ∧ v.toInt < 16 := by
  have ad : (v + 1).toInt = v.toInt + 1 := i_add (a := 0) (b := 1000) (c := 1) (d := 1) ⟨h1, by omega⟩ ⟨by decide, by decide⟩ (by decide)
  have : v.toInt ≠ 16 := fun z => h3 (Int32.toInt_inj.mp (by rw [z]; rfl))
  omega
theorem lo_law (k0 k1 : PH → Option (Int32 × PH)) (k2 : Int32 → PH → Option (Int32 × PH)) (q0 : ∀ g r, k0 g = some r → Flo r.2 g) (q1 : ∀ g r, k1 g = some r → Flo r.2 g) (q2 : ∀ x g r, k2 x g = some r → Flo r.2 g) : ∀ (n : Nat) (v1 : Int32) (hv : PH) (r : Int32 × PH), 0 ≤ v1.toInt → v1.toInt ≤ 16 → mm_readLaw_L2 k0 k1 k2 n v1 hv = some r → Flo r.2 hv := by
  intro n
  induction n with
  | zero => intro v1 hv r _ _ hm; cases hm
  | succ n ih =>
    intro v1 hv r w1 w2 hm
    unfold mm_readLaw_L2 at hm
    obtain ⟨r1, -, hm⟩ := bd_s hm
    rcases ite_or hm with ⟨hc, hm⟩ | ⟨hc, hm⟩
    · exact q2 _ _ _ hm
    · rcases ite_or hm with ⟨c16, hm⟩ | ⟨c16, hm⟩
      · exact q0 _ _ hm
      · obtain ⟨w3, w4, w5⟩ := v_1 w1 w2 c16
        obtain ⟨x2, ex, hm⟩ := lt_some hm
        subst ex
        obtain ⟨hck, hm⟩ := ck_s hm
        obtain ⟨a1, a2⟩ := ixs hck (by decide) (by decide) w1
        rw [show (32 : Int32).toInt = 32 from rfl] at a1 a2
        have lo : ∀ b, 114 ≤ b → b ≤ 117 → ¬ LOW b (ix (32 + v1)) := fun b b1 b2 l => by
          unfold LOW at l
          omega
        obtain ⟨h3, e3, hm⟩ := lt_some hm
        have f : Flo h3 hv := by rw [e3]; exact up_lo (flo_r hv) (by decide) (lo 114 (by decide) (by decide))
        obtain ⟨h4, he, hm⟩ := bd_s hm
        replace f := flo_fr f (fkm_reads _ he) (by unfold FKdm_reads; decide)
        obtain ⟨-, hm⟩ := ck_s hm
        obtain ⟨h5, e5, hm⟩ := lt_some hm
        replace f : Flo h5 hv := by rw [e5]; exact up_lo f (by decide) (lo 115 (by decide) (by decide))
        obtain ⟨r6, h7, he, hm⟩ := bd2_s hm
        replace f := flo_tr f (flom_readSum _ trivial he)
        rcases ite_or hm with ⟨hc, hm⟩ | ⟨hc, hm⟩
        · cases hm
          exact f
        · obtain ⟨-, hm⟩ := ck_s hm
          obtain ⟨h8, e8, hm⟩ := lt_some hm
          replace f : Flo h8 hv := by rw [e8]; exact up_lo f (by decide) (lo 116 (by decide) (by decide))
          obtain ⟨r9, -, hm⟩ := bd_s hm
          refine v_j1 (fun (h11 : PH) => Flo h11 hv → Flo r.2 hv) hm (fun h11 hm f => ?_) (fun j10 kj10 hm => ?_)
          · obtain ⟨-, hm⟩ := ck_s hm
            obtain ⟨h12, e12, hm⟩ := lt_some hm
            replace f : Flo h12 hv := by rw [e12]; exact up_lo f (by decide) (lo 117 (by decide) (by decide))
            obtain ⟨r13, -, hm⟩ := bd_s hm
            rcases ite_or hm with ⟨hc, hm⟩ | ⟨hc, hm⟩
            · exact flo_tr f (q1 _ _ hm)
            · obtain ⟨h14, he, hm⟩ := bd_s hm
              replace f := flo_fr f (fkm_reads _ he) (by unfold FKdm_reads; decide)
              obtain ⟨x15, ex, hm⟩ := lt_some hm
              subst ex
              exact flo_tr f (ih _ _ _ w3 w4 hm)
          · rcases ite_or hm with ⟨hc, hm⟩ | ⟨hc, hm⟩
            · exact kj10 _ hm f
            · obtain ⟨h16, he, hm⟩ := bd_s hm
              replace f := flo_fr f (fkm_reads _ he) (by unfold FKdm_reads; decide)
              obtain ⟨r17, h18, he, hm⟩ := bd2_s hm
              replace f := flo_tr f (flom_readAny _ trivial he)
              rcases ite_or hm with ⟨hc, hm⟩ | ⟨hc, hm⟩
              · cases hm
                exact f
              · exact kj10 _ hm f
theorem m_sc {v : Int32} {a b : Nat} (h1 : 0 ≤ v.toInt) (h2 : v.toInt < 16) (ha : a < 100) (hb : b < 10) : (nI a + nI b * v).toInt = a + b * v.toInt := by
  obtain ⟨k, k1, k2, ek⟩ := nat_of (a := 0) (b := 15) (x := v) ⟨h1, by omega⟩ (by decide)
  have hbk : b * k ≤ 9 * 15 := Nat.mul_le_mul (by omega) (by omega)
  subst ek
  rw [nI_mul, nI_add, nI_toInt (by omega), nI_toInt k2, Int.natCast_add, Int.natCast_mul]
theorem lo_sky (k0 : PH → Option (Int32 × PH)) (k1 : Int32 → PH → Option (Int32 × PH)) (q0 : ∀ g r, k0 g = some r → Flo r.2 g) (q1 : ∀ x g r, k1 x g = some r → Flo r.2 g) : ∀ (n : Nat) (v1 : Int32) (hv : PH) (r : Int32 × PH), 0 ≤ v1.toInt → v1.toInt ≤ 16 → mm_readSky_L2 k0 k1 n v1 hv = some r → Flo r.2 hv := by
  intro n
  induction n with
  | zero => intro v1 hv r _ _ hm; cases hm
  | succ n ih =>
    intro v1 hv r w1 w2 hm
    unfold mm_readSky_L2 at hm
    obtain ⟨r1, -, hm⟩ := bd_s hm
    rcases ite_or hm with ⟨hc, hm⟩ | ⟨hc, hm⟩
    · exact q1 _ _ _ hm
    · rcases ite_or hm with ⟨c16, hm⟩ | ⟨c16, hm⟩
      · exact q0 _ _ hm
      · obtain ⟨w3, w4, w5⟩ := v_1 w1 w2 c16
        have ms : (48 + 3 * v1 : Int32).toInt = 48 + 3 * v1.toInt := m_sc (a := 48) (b := 3) w1 w5 (by decide) (by decide)
        obtain ⟨r2, h3, he, hm⟩ := bd2_s hm
        have f := flom_readSkyLine _ hv (by rw [ms]; omega) he
        rcases ite_or hm with ⟨hc, hm⟩ | ⟨hc, hm⟩
        · cases hm
          exact f
        · obtain ⟨x4, ex, hm⟩ := lt_some hm
          subst ex
          exact flo_tr f (ih _ _ _ w3 w4 hm)
theorem lo_off (k0 : PH → Option (Int32 × PH)) (k1 : Int32 → PH → Option (Int32 × PH)) (q0 : ∀ g r, k0 g = some r → Flo r.2 g) (q1 : ∀ x g r, k1 x g = some r → Flo r.2 g) : ∀ (n : Nat) (v1 : Int32) (hv : PH) (r : Int32 × PH), 0 ≤ v1.toInt → v1.toInt ≤ 16 → mm_readOffice_L2 k0 k1 n v1 hv = some r → Flo r.2 hv := by
  intro n
  induction n with
  | zero => intro v1 hv r _ _ hm; cases hm
  | succ n ih =>
    intro v1 hv r w1 w2 hm
    unfold mm_readOffice_L2 at hm
    obtain ⟨r1, -, hm⟩ := bd_s hm
    rcases ite_or hm with ⟨hc, hm⟩ | ⟨hc, hm⟩
    · exact q1 _ _ _ hm
    · rcases ite_or hm with ⟨c16, hm⟩ | ⟨c16, hm⟩
      · exact q0 _ _ hm
      · obtain ⟨w3, w4, w5⟩ := v_1 w1 w2 c16
        have ms : (80 + 5 * v1 : Int32).toInt = 80 + 5 * v1.toInt := m_sc (a := 80) (b := 5) w1 w5 (by decide) (by decide)
        obtain ⟨r2, h3, he, hm⟩ := bd2_s hm
        have f := flom_readDeed _ hv (by rw [ms]; omega) he
        rcases ite_or hm with ⟨hc, hm⟩ | ⟨hc, hm⟩
        · cases hm
          exact f
        · obtain ⟨x4, ex, hm⟩ := lt_some hm
          subst ex
          exact flo_tr f (ih _ _ _ w3 w4 hm)
theorem rn_ge {p1 p2 : Int32} {h : PH} {r : Int32} {g : PH} (e : mm_readNumber p1 p2 h = some (r, g)) : r = -1 ∨ p1 ≤ r := by
  unfold mm_readNumber at e
  rcases ite_or e with ⟨_, e⟩ | ⟨_, e⟩
  · by_cases f : p1 ≤ h 104 15 ∧ h 104 15 ≤ p2
    · rw [isIn_y f, bd_e, if_neg no10] at e
      obtain ⟨x4, ex, e⟩ := lt_some e
      obtain ⟨h5, -, e⟩ := bd_s e
      cases e
      rw [ex]
      exact Or.inr f.1
    · rw [isIn_n f, bd_e, if_pos rfl] at e
      cases e
      exact Or.inl rfl
  · cases e
    exact Or.inl rfl
theorem rt_ge {p0 p1 p2 : Int32} {h : PH} {r : Int32} {g : PH} (e : mm_readTold p0 p1 p2 h = some (r, g)) : r = -1 ∨ p1 ≤ r := by
  unfold mm_readTold at e
  obtain ⟨r1, -, e⟩ := bd_s e
  rcases ite_or e with ⟨_, e⟩ | ⟨_, e⟩
  · cases e
    exact Or.inl rfl
  · obtain ⟨h4, -, e⟩ := bd_s e
    obtain ⟨r5, h6, he, e⟩ := bd2_s e
    cases e
    exact rn_ge he
theorem lo_next {h : PH} {r : Int32 × PH} (hm : mm_readNext h = some r) : Flo r.2 h := by
  unfold mm_readNext at hm
  have lo : ∀ v : Int32, (v = -1 ∨ (0 : Int32) ≤ v) → ¬ v = -1 → vp_in (12 + v) 24 → ¬ LOW 123 (ix (12 + v)) := fun v hv n k l => by
    have v0 : 0 ≤ v.toInt := by
      rcases hv with z | z
      · exact absurd z n
      · rw [Int32.le_iff_toInt_le] at z; exact z
    obtain ⟨a1, _⟩ := ixs k (by decide) (by decide) v0
    rw [show (12 : Int32).toInt = 12 from rfl] at a1
    unfold LOW at l
    omega
  obtain ⟨r1, h2, he, hm⟩ := bd2_s hm
  have g1 := rt_ge he
  have f := flo_fr (flo_r h) (fkm_readTold _ _ _ _ he) (by unfold FKdm_readTold; decide)
  rcases ite_or hm with ⟨n1, hm⟩ | ⟨n1, hm⟩
  · cases hm
    exact f
  · obtain ⟨r3, -, hm⟩ := bd_s hm
    rcases ite_or hm with ⟨hc, hm⟩ | ⟨hc, hm⟩
    · exact flo_tr f (er_lo 1 hm)
    · obtain ⟨h6, he, hm⟩ := bd_s hm
      replace f := flo_fr f (fkm_reads _ he) (by unfold FKdm_reads; decide)
      rw [jn0_e] at hm
      have fin : (bd2 (mm_readNumber 0 ((h6 104 6) - 1) h6) fun r8 h9 => if r8 = (-1) then some ((-1 : Int32), h9) else ck (12 + r1) 24 <| ck (12 + r1) 24 <| lt (up h9 123 (ix (12 + r1)) ((h9 123 (ix (12 + r1))) ||| (1 <<< (r8 &&& 31)))) fun h10 => ck (12 + r8) 24 <| ck (12 + r8) 24 <| lt (up h10 123 (ix (12 + r8)) ((h10 123 (ix (12 + r8))) ||| (1 <<< (r1 &&& 31)))) fun h11 => bd2 (mm_readMark 59 h11) fun r12 h13 => some (r12, h13)) = some r → Flo r.2 h := fun hm => by
        obtain ⟨r8, h9, he, hm⟩ := bd2_s hm
        have g8 := rn_ge he
        have f := flo_fr f (fkm_readNumber _ _ _ he) (by unfold FKdm_readNumber; decide)
        rcases ite_or hm with ⟨n8, hm⟩ | ⟨n8, hm⟩
        · cases hm
          exact f
        · obtain ⟨-, hm⟩ := ck_s hm
          obtain ⟨k1, hm⟩ := ck_s hm
          obtain ⟨h10, e10, hm⟩ := lt_some hm
          replace f : Flo h10 h := by rw [e10]; exact up_lo f (by decide) (lo r1 g1 n1 k1)
          obtain ⟨-, hm⟩ := ck_s hm
          obtain ⟨k2, hm⟩ := ck_s hm
          obtain ⟨h11, e11, hm⟩ := lt_some hm
          replace f : Flo h11 h := by rw [e11]; exact up_lo f (by decide) (lo r8 g8 n8 k2)
          obtain ⟨r12, h13, he, hm⟩ := bd2_s hm
          cases hm
          exact flo_fr f (fkm_readMark _ _ he) (by unfold FKdm_readMark; decide)
      rcases ite_or hm with ⟨hc, hm⟩ | ⟨hc, hm⟩
      · rcases ite_or hm with ⟨hc, hm⟩ | ⟨hc, hm⟩
        · exact flo_tr f (er_lo 2 hm)
        · exact fin hm
      · exact fin hm
theorem lo_nx (k0 : PH → Option (Int32 × PH)) (k1 : Int32 → PH → Option (Int32 × PH)) (q0 : ∀ g r, k0 g = some r → Flo r.2 g) (q1 : ∀ x g r, k1 x g = some r → Flo r.2 g) : ∀ (n : Nat) (v1 : Int32) (hv : PH) (r : Int32 × PH), mm_readNexts_L26 k0 k1 n v1 hv = some r → Flo r.2 hv := by
  intro n
  induction n with
  | zero => intro v1 hv r hm; cases hm
  | succ n ih =>
    intro v1 hv r hm
    unfold mm_readNexts_L26 at hm
    obtain ⟨r3, -, hm⟩ := bd_s hm
    rcases ite_or hm with ⟨hc, hm⟩ | ⟨hc, hm⟩
    · exact q1 _ _ _ hm
    · rcases ite_or hm with ⟨hc, hm⟩ | ⟨hc, hm⟩
      · exact q0 _ _ hm
      · obtain ⟨r4, h5, he, hm⟩ := bd2_s hm
        have f := lo_next he
        rcases ite_or hm with ⟨hc, hm⟩ | ⟨hc, hm⟩
        · cases hm
          exact f
        · obtain ⟨x6, -, hm⟩ := lt_some hm
          exact flo_tr f (ih _ _ _ hm)
theorem lo_z (k0 : PH → Option (Int32 × PH)) (q0 : ∀ g r, k0 g = some r → Flo r.2 g) : ∀ (n : Nat) (v1 : Int32) (hv : PH) (r : Int32 × PH), 0 ≤ v1.toInt → v1.toInt ≤ 12 → mm_readNexts_L2 k0 n v1 hv = some r → Flo r.2 hv := by
  intro n
  induction n with
  | zero => intro v1 hv r _ _ hm; cases hm
  | succ n ih =>
    intro v1 hv r w1 w2 hm
    unfold mm_readNexts_L2 at hm
    rcases ite_or hm with ⟨hc, hm⟩ | ⟨hc, hm⟩
    · exact q0 _ _ hm
    · have w3 : v1.toInt < 12 := by
        rw [Int32.le_iff_toInt_le, show (12 : Int32).toInt = 12 from rfl] at hc
        omega
      have ad : (v1 + 1).toInt = v1.toInt + 1 := i_add (a := 0) (b := 1000) (c := 1) (d := 1) ⟨w1, by omega⟩ ⟨by decide, by decide⟩ (by decide)
      obtain ⟨k, hm⟩ := ck_s hm
      obtain ⟨a1, _⟩ := ixs k (by decide) (by decide) w1
      rw [show (12 : Int32).toInt = 12 from rfl] at a1
      obtain ⟨h1, e1, hm⟩ := lt_some hm
      have f : Flo h1 hv := by rw [e1]; exact up_lo (flo_r hv) (by decide) (fun l => by unfold LOW at l; omega)
      exact flo_tr f (ih _ _ _ (by omega) (by omega) hm)
/-- the reader leaves what is kept -/
theorem lo_text (p : Int32) {h : PH} {r : Int32 × PH} (hm : mm_readsText p h = some r) : Flo r.2 h := by
  unfold mm_readsText at hm
  rw [lt_e] at hm
  have f : Flo (up h 104 24 0) h := up_flo4 (flo_r h) (by decide)
  obtain ⟨h2, he, hm⟩ := bd_s hm
  replace f := flo_fr f (fkm_reads _ he) (by unfold FKdm_reads; decide)
  have z0 : (0 : Int32).toInt = 0 := rfl
  rcases ite_or hm with ⟨hc, hm⟩ | ⟨hc, hm⟩
  · obtain ⟨r3, h4, he, hm⟩ := bd2_s hm
    cases hm
    unfold mm_readSky at he
    exact flo_tr f (lo_sky _ _ (fun g r e => er_lo 3 e) (fun x g r e => ke_lo x e) _ _ _ _ (by decide) (by decide) he)
  · rcases ite_or hm with ⟨hc, hm⟩ | ⟨hc, hm⟩
    · obtain ⟨r3, h4, he, hm⟩ := bd2_s hm
      cases hm
      unfold mm_readOffice at he
      exact flo_tr f (lo_off _ _ (fun g r e => er_lo 3 e) (fun x g r e => ke_lo x e) _ _ _ _ (by decide) (by decide) he)
    · rcases ite_or hm with ⟨hc, hm⟩ | ⟨hc, hm⟩
      · obtain ⟨r3, h4, he, hm⟩ := bd2_s hm
        cases hm
        unfold mm_readNexts at he
        exact flo_tr f (lo_z _ (fun g r e => lo_nx _ _ (fun g r e => er_lo 3 e) (fun x g r e => ke_lo x e) _ _ _ _ e) _ _ _ _ (by decide) (by decide) he)
      · obtain ⟨r3, h4, he, hm⟩ := bd2_s hm
        cases hm
        unfold mm_readLaw at he
        exact flo_tr f (lo_law _ _ _ (fun g r e => er_lo 3 e) (fun g r e => er_lo 1 e) (fun x g r e => ke_lo x e) _ _ _ _ (by decide) (by decide) he)
end
