/-! THE CALL image -/
theorem pm_hi : ∀ p, p < 1850 → 104 ≤ (pm p).1 := by decide +kernel
theorem wid_rw : ∀ k, k < 6 → widT k = rwT k := by decide
theorem tni_s2 {k : Nat} {h g : PH} (t : TWN k h) (hk : k < 512) (i : Inv h) (c : ∀ x, x = 37 ∨ x = 38 ∨ (40 ≤ x ∧ x ≤ 51) ∨ x = 68 → g x = h x) (nz : ¬ h 104 72 = 0) (m5 : g 104 5 = h 104 5) (e : g 148 = h 148) : ∃ H N M Ls, TNt H N M (1000 * (k + 1)) Ls (iC g) (iM g) := by
  obtain ⟨H, N, M, Ls, t7⟩ := t.2.2.2.2 nz
  refine ⟨H, N, M, Ls, tn_mono (tn_cg2 t7 (fun j _ _ => ?_) (fun j _ => ?_) (fun k hk => ?_) ?_ ?_ ?_ ?_ ⟨?_, fun p hp => ?_⟩) (by omega) (by omega)⟩
  · rw [iC_1, iC_1, c 37 (by omega)]
  · rw [iC_2, iC_2, c 38 (by omega)]
  · rw [iC_r g (show 6 ≤ 6 + 2 * k by omega) (by omega), iC_r h (show 6 ≤ 6 + 2 * k by omega) (by omega), iC_r g (show 6 ≤ 7 + 2 * k by omega) (by omega), iC_r h (show 6 ≤ 7 + 2 * k by omega) (by omega), c (6 + 2 * k + 34) (by omega), c (7 + 2 * k + 34) (by omega)]
    exact ⟨rfl, rfl, fun _ _ => rfl⟩
  · rw [iC_r g (by decide) (by decide), iC_r h (by decide) (by decide), c (16 + 34) (by omega)]
  · rw [iC_o g (by decide), iC_o h (by decide), c 68 (by omega)]
  · rw [iC_r h (by decide) (by decide)]
    exact inv_rng i rfl
  · rw [iC_r h (by decide) (by decide)]
    exact ((rows_t i).1 4 (by decide)).2
  · rw [iM_5, iM_5, m5]
  · rw [iM_at g hp (show pm p = ((pm p).1, (pm p).2) from rfl), iM_at h hp (show pm p = ((pm p).1, (pm p).2) from rfl), e]
theorem tw_image (k : Nat) (a1 : Int32) (h : PH) (i : IM h) (rl : RLA h) (t : TWN k h) (hk : k < 512) {rX rm : Int32} {h1 h2 : PH} (e1 : mX_image (if a1 = 0 then 0 else 1) h = some (rX, h1)) (e2 : mm_image (if a1 = 0 then 0 else 1) h1 = some (rm, h2)) (cs : CS h h1 h2) : TWN (k + 1) h2 := by
  have xx := cs.2.2.2.1
  have ss := cs.2.2.2.2
  have i2 : Inv h2 := cs.1.1
  obtain ⟨t1, t2, t3, ⟨H, N, M, u, s, Ls, t4, t5⟩, t6⟩ := id t
  have rw2 := rows_t i2
  have rw0 := rows_t i.1
  by_cases c : a1 = 0
  · rw [if_pos c] at e1 e2
    by_cases cz : h 0 13 = 0
    · unfold mX_image at e1
      rw [if_pos rfl, if_pos cz] at e1
      cases e1
      unfold mm_image at e2
      rw [lt_e, jn0_e, if_pos rfl, if_pos (by rw [up_oj (by decide), ← rl.2.2.1]; exact cz)] at e2
      cases e2
      exact twn_id t hk rfl
    · have nz : ¬ h 104 72 = 0 := by rw [← rl.2.2.1]; exact cz
      have m5 : h2 104 5 = h1 104 5 := fkm_image 0 h1 e2 104 5 (show kk 104 5 ∉ FKdm_image _ from (by decide : 1005 ∉ FKdm_image 0))
      obtain ⟨g, eg, w, d1, d2, t7, -, z70⟩ := xi_back h i.1 cz
      rw [eg] at e1
      cases e1
      obtain ⟨g', eg', g72, -, v⟩ := kc_image 0 (Or.inl rfl) h1 (Or.inr (by rw [xx 104 (by decide)]; exact nz))
      rw [eg'] at e2
      cases e2
      obtain ⟨v1, v2, v3⟩ := v rfl
      obtain ⟨H', N', M', Ls', t8⟩ := t6 nz
      obtain ⟨s', s1, s2, es⟩ := nat_of (show R 0 5 (h2 70 2) from inv_rng i2 rfl) (by decide)
      have hi : ∀ x, 33 < x → x ≠ 70 → x < 104 → h2 x = h x := fun x x1 x2 x3 => by rw [ss x x3]; exact t7 x x1 x2
      refine ⟨by omega, fun x hx => ?_, by rw [hi 69 (by decide) (by decide) (by decide)]; exact t3, ⟨H', N', M', 0, s', Ls', tn_mono (tn_cg2 t8 (fun j j1 j2 => ?_) (fun j hj => ?_) (fun q hq => ?_) ?_ ?_ ?_ ?_ ⟨?_, fun p hp => ?_⟩) (by omega) (by omega), pk_0 (by omega) es (by rw [ss 70 (by decide)]; exact z70) v3⟩, fun _ => tni_s2 t hk i.1 (fun x hx => hi x (by omega) (by omega) (by omega)) nz (by rw [m5, xx 104 (by decide)]) (by rw [v2, xx 148 (by decide)])⟩
      · by_cases z : x = 1
        · rw [z, ss 1 (by decide), d1 6 (by decide) (by decide)]; exact t2 37 (Or.inr (Or.inl rfl))
        · rw [hi x (by rcases hx with y | y | ⟨e, y1, y2⟩ <;> omega) (by rcases hx with y | y | ⟨e, y1, y2⟩ <;> omega) (by rcases hx with y | y | ⟨e, y1, y2⟩ <;> omega)]
          exact t2 x hx
      · rw [ss 1 (by decide), iC_1]; exact d1 j j1 j2
      · rw [ss 2 (by decide), iC_2]; exact d2 j hj
      · have q14 : q < 14 := by omega
        rw [iC_r h (show 6 ≤ 6 + 2 * q by omega) (by omega), iC_r h (show 6 ≤ 7 + 2 * q by omega) (by omega), ss (6 + 2 * q) (by omega), ss (7 + 2 * q) (by omega), show 6 + 2 * q + 34 = 40 + 2 * q by omega, show 7 + 2 * q + 34 = 41 + 2 * q by omega, ← ss (6 + 2 * q) (by omega), (rw2.1 q hq).1, (rw0.1 q hq).2, ss (6 + 2 * q) (by omega)]
        refine ⟨(w q q14).1, rfl, fun j hj => (w q q14).2 j ?_⟩
        rw [wid_rw q hq]
        exact hj
      · rw [iC_r h (by decide) (by decide), rw2.2.1]; exact rw0.2.2.symm
      · rw [iC_o h (by decide), hi 68 (by decide) (by decide) (by decide)]
      · rw [iC_r h (by decide) (by decide)]; exact inv_rng i.1 rfl
      · rw [iC_r h (by decide) (by decide)]; exact (rw0.1 4 (by decide)).2
      · rw [iM_5, m5, xx 104 (by decide)]
      · rw [iM_at h hp (show pm p = ((pm p).1, (pm p).2) from rfl), v1 p hp, xx 148 (by decide)]
  · rw [if_neg c] at e1 e2
    obtain ⟨g, eg, w, d1, d2, t7, -⟩ := xi_take 1 (by decide) h i.1
    rw [eg] at e1
    cases e1
    obtain ⟨g', eg', g72, v, -⟩ := kc_image 1 (Or.inr rfl) h1 (Or.inl rfl)
    rw [eg'] at e2
    cases e2
    obtain ⟨v1, v2⟩ := v rfl
    have hi : ∀ x, x ≠ 0 → x < 37 ∨ 67 < x → x < 104 → h2 x = h x := fun x x1 x2 x3 => by rw [ss x x3]; exact t7 x x1 x2
    have mo : ∀ x, 105 ≤ x → x ≠ 148 → h2 x = h x := fun x x1 x2 => by
      rw [← xx x (by omega)]
      funext j
      exact v2 x j x2 (fun z => by omega)
    have m4 : ∀ j, j ≠ 73 → j ≠ 72 → j ≠ 71 → j ≠ 0 → h2 104 j = h 104 j := fun j j1 j2 j3 j4 => by
      rw [← xx 104 (by decide)]
      exact v2 104 j (by decide) (fun _ => ⟨j1, j2, j3, j4⟩)
    refine ⟨by omega, fun x hx => ?_, by rw [hi 69 (by decide) (by decide) (by decide)]; exact t3, ⟨H, N, M, u, s, Ls, tn_mono (tn_tr t4 (fun x hx => hi x (by omega) (by omega) (by omega)) (fun j hj => m4 j (by omega) (by omega) (by omega) (by omega)) (fun j _ => by rw [mo 105 (by decide) (by decide)]) (fun x hx => mo x (by omega) (by omega))) (by omega) (by omega), pk_mono (pk_tr t5 (fun x hx => hi x (by omega) (by omega) (by omega)) (fun j hj => m4 j (by omega) (by omega) (by omega) (by omega)) (fun x hx => mo x (by omega) (by omega))) (by omega) (by omega)⟩, fun _ => ⟨H, N, M, Ls, tn_mono (tn_cg2 t4 (fun j j1 j2 => ?_) (fun j hj => ?_) (fun q hq => ?_) ?_ ?_ ?_ ?_ ⟨?_, fun p hp => ?_⟩) (by omega) (by omega)⟩⟩
    · by_cases z : x = 37
      · rw [z, ss 37 (by decide), d1 6 (by decide) (by decide)]; exact t2 1 (Or.inl rfl)
      · rw [hi x (by rcases hx with y | y | ⟨e, y1, y2⟩ <;> omega) (by rcases hx with y | y | ⟨e, y1, y2⟩ <;> omega) (by rcases hx with y | y | ⟨e, y1, y2⟩ <;> omega)]
        exact t2 x hx
    · rw [iC_1, ss 37 (by decide)]; exact d1 j j1 j2
    · rw [iC_2, ss 38 (by decide)]; exact d2 j hj
    · have q14 : q < 14 := by omega
      rw [iC_r h2 (show 6 ≤ 6 + 2 * q by omega) (by omega), iC_r h2 (show 6 ≤ 7 + 2 * q by omega) (by omega), show 6 + 2 * q + 34 = 40 + 2 * q by omega, show 7 + 2 * q + 34 = 41 + 2 * q by omega, (rw2.1 q hq).2, (rw0.1 q hq).1, ss (40 + 2 * q) (by omega), ss (41 + 2 * q) (by omega)]
      refine ⟨(w q q14).1, rfl, fun j hj => (w q q14).2 j ?_⟩
      rw [wid_rw q hq]
      exact hj
    · rw [iC_r h2 (by decide) (by decide), rw0.2.1]; exact rw2.2.2
    · rw [iC_o h2 (by decide), hi 68 (by decide) (by decide) (by decide)]
    · exact inv_rng i.1 rfl
    · exact (rw0.1 4 (by decide)).1
    · rw [iM_5, m4 5 (by decide) (by decide) (by decide) (by decide)]
    · rw [iM_at h2 hp (show pm p = ((pm p).1, (pm p).2) from rfl), v1 p hp, xx _ (pm_hi p hp)]
