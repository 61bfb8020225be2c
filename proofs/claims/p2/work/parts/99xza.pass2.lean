/-! WHO HAS NO WALL GOES; houses get older: the model house by house, the class all out first, then all older -/
theorem tb_age {A A' : Nat → Prop} {H : Nat} {hc hm : PH} (t : TW A H hc hm) (e : ∀ i, i < H → A' i → hc 2 (11 * i + 10) = hm 105 (103 + i)) : TW A' H hc hm := by
  refine ⟨t.1, t.2.1, t.2.2.1, t.2.2.2.1, fun i c hi hcc ha => ?_, t.2.2.2.2.2⟩
  by_cases c10 : c = 10
  · subst c10
    exact e i hi (ha rfl)
  · exact t.2.2.2.2.1 i c hi hcc (fun z => absurd z c10)
theorem rt_age {B : BKT} {A A' : Nat → Prop} {H b : Nat} {Ls : LNS} {hc hm : PH} (r : RTT A H b Ls B hc hm) (e : ∀ i, i < H → A' i → hc 2 (11 * i + 10) = hm 105 (103 + i)) : RTT A' H b Ls B hc hm := ⟨tb_age r.1 e, r.2⟩
theorem rt_m10 {B : BKT} {A A' : Nat → Prop} {H b : Nat} {Ls : LNS} {hc hm : PH} (r : RTT A H b Ls B hc hm) {k : Nat} (hk : k < H) (v : Int32) (e : ∀ i, A' i → A i ∧ i ≠ k) : RTT A' H b Ls B hc (up hm 105 (103 + k) v) := by
  obtain ⟨⟨t1, t2, t3, t4, t5, t6⟩, q2, q3, q4, q5, q6, q7⟩ := r
  refine ⟨⟨t1, t2, by rw [up_oc (by decide)]; exact t3, fun f f1 f2 => ?_, fun i c hi hcc ha => ?_, t6⟩, ⟨q2.1, q2.2.1, q2.2.2.1, q2.2.2.2.1, lwm_of q2.2.2.2.2 (fun b _ _ => up_cell (by omega))⟩, bk_of q3 rfl rfl (up_oj (by omega)) (up_cell (by decide)), fun j hj => ?_, q5, by rw [up_oc (by decide)]; exact q6, q7⟩
  · rw [up_oj (by have := (sf_r f f2 f1).1; omega)]
    exact t4 f f1 f2
  · have t5' := t5 i c hi hcc (fun z => (e i (ha z)).1)
    by_cases m : mc c = 105
    · rw [m, up_oj (fun z => ?_), ← m]
      · exact t5'
      · have := mi_inj i (by omega) c hcc k (by omega) 10 (by decide) m z
        exact (e i (ha this.2)).2 this.1
    · rw [up_oc m]
      exact t5'
  · rw [up_oc (by decide)]
    exact q4 j hj
theorem rt_c10 {B : BKT} {A A' : Nat → Prop} {H b : Nat} {Ls : LNS} {hc hm : PH} (r : RTT A H b Ls B hc hm) {k : Nat} (hk : k < H) (v : Int32) (e : ∀ i, A' i → (A i ∧ i ≠ k) ∨ (i = k ∧ v = hm 105 (103 + k))) : RTT A' H b Ls B (up hc 2 (11 * k + 10) v) hm := by
  obtain ⟨⟨t1, t2, t3, t4, t5, t6⟩, q2, q3, q4, q5, q6, q7⟩ := r
  refine ⟨⟨t1, by rw [up_oc (by decide)]; exact t2, t3, fun f f1 f2 => by rw [up_oc (by decide)]; exact t4 f f1 f2, fun i c hi hcc ha => ?_, fun i c hi hc4 => by rw [up_oj (by omega)]; exact t6 i c hi hc4⟩, ⟨q2.1, q2.2.1, q2.2.2.1, lwc_of q2.2.2.2.1 (fun b _ _ => up_cell (by omega)), q2.2.2.2.2⟩, bk_of q3 (up_cell (by decide)) (up_cell (by decide)) rfl rfl, fun j hj => ?_, by rw [up_oc (by decide)]; exact q5, q6, ld_of q7 (fun i hi => up_oj (by omega))⟩
  · by_cases z : i = k ∧ c = 10
    · obtain ⟨z1, z2⟩ := z
      subst z1 z2
      rw [up_same]
      rcases e i (ha rfl) with y | y
      · exact absurd rfl y.2
      · exact y.2
    · rw [up_oj (by omega)]
      refine t5 i c hi hcc (fun y => ?_)
      rcases e i (ha y) with x | x
      · exact x.1
      · exact absurd ⟨x.1, y⟩ z
  · rw [nx_fr (up_cell (by decide)) (up_cell (by decide))]
    exact q4 j hj
theorem upi_fr {h g : PH} {i : Nat} (e : ∀ w, w < 4 → g 2 (11 * i + w) = h 2 (11 * i + w)) : upI g i = upI h i := by
  have e0 := e 0 (by decide)
  rw [Nat.add_zero] at e0
  unfold upI sm4
  rw [e0, e 1 (by decide), e 2 (by decide), e 3 (by decide)]
def agd (gc : PH) (i : Nat) : Int32 := if upI gc i = 0 then gc 2 (11 * i + 10) else imin 9999 (gc 2 (11 * i + 10) + 1)
theorem agd_fr {h g : PH} {i : Nat} (e : ∀ c, c < 11 → c ≠ 7 → g 2 (11 * i + c) = h 2 (11 * i + c)) : agd g i = agd h i := by
  unfold agd
  rw [upi_fr (fun w hw => e w (by omega) (by omega)), e 10 (by decide) (by decide)]
theorem la_loop {B : BKT} {H b : Nat} {Ls : LNS} {hc hm : PH} (p p' : Int32) : ∀ (n k : Nat) (gc gm : PH), H < n + k → k ≤ H → RTT (fun i => k ≤ i) H b Ls B gc gm → DC hc gc → DM hm gm → gc 1 = hc 1 → (∀ i c, i < H → c < 11 → c ≠ 7 → gc 2 (11 * i + c) = hc 2 (11 * i + c)) → (∀ i, i < k → gm 105 (103 + i) = agd gc i) → ∃ gc' gm', (∀ k0, mS_pass_L180 68 p k0 n (nI k) gc = k0 gc') ∧ (∀ k0, mm_goesBy_L193 p' k0 n (nI k) gm = k0 gm') ∧ RTT (fun i => H ≤ i) H b Ls B gc' gm' ∧ DC hc gc' ∧ DM hm gm' ∧ gc' 1 = hc 1 ∧ (∀ i c, i < H → c < 11 → c ≠ 7 → gc' 2 (11 * i + c) = hc 2 (11 * i + c)) ∧ ∀ i, i < H → gm' 105 (103 + i) = agd gc' i := by
  intro n
  induction n with
  | zero => intro k gc gm h1 h2; omega
  | succ n ih =>
    intro k gc gm h1 h2 rr dc dm f1 fy ag
    have t := rr.1
    have h12 := t.1
    by_cases c : k = H
    · subst c
      refine ⟨gc, gm, fun k0 => ?_, fun k0 => ?_, rr, dc, dm, f1, fy, ag⟩
      · rw [mS_pass_L180, show sT 68 = 1 from rfl, t.2.1, if_pos (nI_le (Nat.le_refl _) (by omega))]
      · rw [mm_goesBy_L193, t.2.2.1, if_pos (nI_le (Nat.le_refl _) (by omega))]
    · have hk : k < H := by omega
      obtain ⟨g1, g2, a1, a2, a3, a4, a5, a6, a7, a8⟩ := lv_sim rr hk
      have fy1 : ∀ i c, i < H → c < 11 → c ≠ 7 → g1 2 (11 * i + c) = hc 2 (11 * i + c) := fun i c hi hcc h7 => by rw [a7 c h7 i hi hcc]; exact fy i c hi hcc h7
      have ag1 : ∀ i, i < k → g2 105 (103 + i) = agd g1 i := fun i hi => by
        rw [a8 _ (by omega), agd_fr (h := gc) (fun c hcc h7 => a7 c h7 i (by omega) hcc)]
        exact ag i hi
      have ek : g2 105 (103 + k) = g1 2 (11 * k + 10) := (colM a3.1 hk).2.2.2.2.2.2 (Nat.le_refl k)
      have c103 : ∀ (z : Option (Int32 × PH)), ck (nI (103 + k)) 115 z = z := fun z => ck_nI (by omega) (by decide)
      by_cases u : upI g1 k = 0
      · obtain ⟨gc', gm', b1, b2, b3⟩ := ih (k + 1) g1 g2 (by omega) (by omega) (rt_age a3 (fun i hi (ha : k + 1 ≤ i) => ((colM a3.1 hi).2.2.2.2.2.2 (show k ≤ i by omega)).symm)) (dc_t dc a4) (dm_t dm a5) (by rw [a6]; exact f1) fy1 (fun i hi => by
          by_cases z : i = k
          · subst z
            unfold agd
            rw [if_pos u]
            exact ek
          · exact ag1 i (by omega))
        refine ⟨gc', gm', fun k0 => ?_, fun k0 => ?_, b3⟩
        · rw [mS_pass_L180, show sT 68 = 1 from rfl, t.2.1, if_neg (nI_ge hk (by omega)), a1, bd_e, nI_1, b1]
        · rw [mm_goesBy_L193, t.2.2.1, if_neg (nI_ge hk (by omega)), a2, bd_e, isM a3.1 hk, bd_e, if_pos u, nI_1, b2]
      · obtain ⟨gc', gm', b1, b2, b3⟩ := ih (k + 1) g1 (up g2 105 (103 + k) (imin 9999 (g1 2 (11 * k + 10) + 1))) (by omega) (by omega) (rt_m10 a3 hk _ (fun i (ha : k + 1 ≤ i) => ⟨show k ≤ i by omega, by omega⟩)) (dc_t dc a4) (dm_t dm (dm_t a5 (dm_up g2 _ _))) (by rw [a6]; exact f1) fy1 (fun i hi => by
          by_cases z : i = k
          · subst z
            unfold agd
            rw [up_same, if_neg u]
          · rw [up_oj (by omega)]
            exact ag1 i (by omega))
        refine ⟨gc', gm', fun k0 => ?_, fun k0 => ?_, b3⟩
        · rw [mS_pass_L180, show sT 68 = 1 from rfl, t.2.1, if_neg (nI_ge hk (by omega)), a1, bd_e, nI_1, b1]
        · rw [mm_goesBy_L193, t.2.2.1, if_neg (nI_ge hk (by omega)), a2, bd_e, isM a3.1 hk, bd_e, if_neg u, show (103 : Int32) + nI k = nI (103 + k) from nI_add 103 k, c103, show ix (nI (103 + k)) = 103 + k from nI_clamp (by omega), ek, ls_e, bd_e, c103, lt_e, nI_1, b2]
/-- the class's houses get older -/
theorem gw_loop {B : BKT} {H b : Nat} {Ls : LNS} {hc gm : PH} : ∀ (n k : Nat) (gc : PH), H < n + k → k ≤ H → RTT (fun i => i < k) H b Ls B gc gm → (∀ x, x ≠ 2 → gc x = hc x) → (∀ i c, i < H → c < 10 → gc 2 (11 * i + c) = hc 2 (11 * i + c)) → (∀ i, k ≤ i → i < H → gm 105 (103 + i) = agd gc i) → ∃ gc', (∀ k0, mS_grow_L2 68 k0 n (nI k) gc = k0 gc') ∧ RTT (fun i => i < H) H b Ls B gc' gm ∧ (∀ x, x ≠ 2 → gc' x = hc x) ∧ ∀ i c, i < H → c < 10 → gc' 2 (11 * i + c) = hc 2 (11 * i + c) := by
  intro n
  induction n with
  | zero => intro k gc h1 h2; omega
  | succ n ih =>
    intro k gc h1 h2 rr fx fy ag
    have t := rr.1
    have h12 := t.1
    by_cases c : k = H
    · subst c
      refine ⟨gc, fun k0 => ?_, rr, fx, fy⟩
      rw [mS_grow_L2, show sT 68 = 1 from rfl, t.2.1, if_pos (nI_le (Nat.le_refl _) (by omega))]
    · have hk : k < H := by omega
      have agk := ag k (Nat.le_refl k) hk
      by_cases u : upI gc k = 0
      · unfold agd at agk
        rw [if_pos u] at agk
        obtain ⟨gc', b1, b2⟩ := ih (k + 1) gc (by omega) (by omega) (rt_age rr (fun i hi (ha : i < k + 1) => by
          by_cases z : i = k
          · rw [z]; exact agk.symm
          · exact ((colM t hi).2.2.2.2.2.2 (show i < k by omega)).symm)) fx fy (fun i hi hi2 => ag i (by omega) hi2)
        refine ⟨gc', fun k0 => ?_, b2⟩
        rw [mS_grow_L2, show sT 68 = 1 from rfl, t.2.1, if_neg (nI_ge hk (by omega)), isBB t hk, bd_e, if_pos u, nI_1, b1]
      · unfold agd at agk
        rw [if_neg u] at agk
        obtain ⟨gc', b1, b2⟩ := ih (k + 1) (up gc 2 (11 * k + 10) (imin 9999 (gc 2 (11 * k + 10) + 1))) (by omega) (by omega) (rt_c10 rr hk _ (fun i (ha : i < k + 1) => by
          by_cases z : i = k
          · exact Or.inr ⟨z, agk.symm⟩
          · exact Or.inl ⟨show i < k by omega, z⟩)) (fun x hx => by rw [up_cell hx]; exact fx x hx) (fun i c hi hc' => by rw [up_oj (by omega)]; exact fy i c hi hc') (fun i hi hi2 => by
          rw [ag i (by omega) hi2]
          unfold agd
          rw [upi_fr (h := gc) (g := up gc 2 (11 * k + 10) (imin 9999 (gc 2 (11 * k + 10) + 1))) (fun w hw => up_oj (by omega)), up_oj (by omega)])
        refine ⟨gc', fun k0 => ?_, b2⟩
        rw [mS_grow_L2, show sT 68 = 1 from rfl, t.2.1, if_neg (nI_ge hk (by omega)), isBB t hk, bd_e, if_neg u, show mB_read 1 (nI k) 10 gc = _ from rdB t hk (c := 10) (by decide), bd_e, show mB_write 1 (nI k) 10 _ gc = _ from wrB t hk (c := 10) (by decide) _, bd_e, nI_1, b1]
