/-! THE WAYS on both sides: rounds, and what is asked -/
theorem edge_c {H m : Nat} {hc hm : PH} (h12 : H ≤ 12) (hm16 : m ≤ 16) (e3 : hc 14 3 = nI m) (e1 : hc 14 1 = 5) (nx : ∀ k, k < 12 → mO_nextTo 5 (nI k) hc = some (hm 123 k)) (rg : ∀ r, r < m → ∃ x y, x < 12 ∧ y < 12 ∧ hc 15 (5 * r) = nI x ∧ hc 15 (5 * r + 1) = nI y) {a b : Nat} (ha : a < H) (hb : b < H) : bitb (hm 123 a) b ↔ ∃ r, r < m ∧ ((hc 15 (5 * r) = nI a ∧ hc 15 (5 * r + 1) = nI b) ∨ (hc 15 (5 * r + 1) = nI a ∧ hc 15 (5 * r) = nI b)) := by
  have e : hm 123 a = nxF (hc 15) a m := by
    have q := nx a (by omega)
    rw [nt_rows hm16 e3 e1 a] at q
    exact (Option.some.inj q).symm
  rw [e]
  exact nx_edge (by omega) (by omega) m rg
theorem rs_38 {H : Nat} {hc hm : PH} (t : TW AA H hc hm) (p : Int32) {m sN : Nat} (hm16 : m ≤ 16) (hsN : sN < H) (e3 : hc 14 3 = nI m) (e1 : hc 14 1 = 5) (nx : ∀ k, k < 12 → mO_nextTo 5 (nI k) hc = some (hm 123 k)) (rg : ∀ r, r < m → ∃ x y, x < 12 ∧ y < 12 ∧ hc 15 (5 * r) = nI x ∧ hc 15 (5 * r + 1) = nI y) : ∀ (n v : Nat) (A : Nat → Nat) (hv : PH), 12 < n + v → v ≤ 12 → (∀ x, x ≠ 96 → hv x = hc x) → AR 12 96 A hv → SO (EG H hm) (wsp hc) (ops p) sN 1000000 A → KL (EG H hm) (wsp hc) (ops p) sN 1000000 v A → ∃ A' hv', mT_spread_L38 1 14 p n (nI v) hv = some hv' ∧ (∀ x, x ≠ 96 → hv' x = hc x) ∧ AR 12 96 A' hv' ∧ SO (EG H hm) (wsp hc) (ops p) sN 1000000 A' ∧ KL (EG H hm) (wsp hc) (ops p) sN 1000000 12 A' := by
  have h12 := t.1
  intro n
  induction n with
  | zero => intro v A hv h1 h2; omega
  | succ n ih =>
    intro v A hv h1 h2 fx ar so kl
    by_cases c : v = 12
    · subst c
      exact ⟨A, hv, by rw [mT_spread_L38, if_pos (by decide)], fx, ar, so, kl⟩
    · obtain ⟨A1, hv1, z1, z2, z3, z4, z5, z6⟩ := rs_48 t p (nI v) 0 hm16 sN hsN e3 e1 rg (fun r hr x y hx hy ex ey => ⟨⟨hx, hy, (edge_c h12 hm16 e3 e1 nx rg hx hy).mpr ⟨r, hr, Or.inl ⟨ex, ey⟩⟩⟩, ⟨hy, hx, (edge_c h12 hm16 e3 e1 nx rg hy hx).mpr ⟨r, hr, Or.inr ⟨ey, ex⟩⟩⟩⟩) A FU 0 A hv (by unfold FU; omega) (Nat.zero_le _) fx ar so (fun _ => Nat.le_refl _) (fun q hq => absurd hq (Nat.not_lt_zero q))
      rw [nI_0] at z1
      have kl1 := kl_s (ops_i p) (ops_m p) z4 kl (fun a b e _ => by
        obtain ⟨ha, hb, hbit⟩ := e
        obtain ⟨r, hr, q⟩ := (edge_c h12 hm16 e3 e1 nx rg ha hb).mp hbit
        rcases q with ⟨q1, q2⟩ | ⟨q1, q2⟩
        · exact (z6 r hr a b ha hb q1 q2).1
        · exact (z6 r hr b a hb ha q2 q1).2)
      obtain ⟨A', hv', y1, y2⟩ := ih (v + 1) A1 hv1 (by omega) (by omega) z2 z3 z4 kl1
      refine ⟨A', hv', ?_, y2⟩
      rw [mT_spread_L38, if_neg (show ¬ (12 : Int32) ≤ nI v from nI_ge (b := 12) (by omega) (by decide)), z1, nI_1]
      exact y1
theorem rs_3 (p : Int32) {s : Nat} (hs : s < 12) {hc : PH} : ∀ (n k : Nat) (hv : PH), 12 < n + k → k ≤ 12 → (∀ x, x ≠ 96 → hv x = hc x) → (∀ j, j < k → hv 96 j = nI (if j = s then 0 else 1000000)) → ∃ g, (∀ k0, mT_spread_L3 1 14 (nI s) p k0 n (nI k) hv = k0 g) ∧ (∀ x, x ≠ 96 → g x = hc x) ∧ ∀ j, j < 12 → g 96 j = nI (if j = s then 0 else 1000000) := by
  intro n
  induction n with
  | zero => intro k hv h1 h2; omega
  | succ n ih =>
    intro k hv h1 h2 fx fy
    by_cases c : k = 12
    · exact ⟨hv, fun k0 => by rw [mT_spread_L3, if_pos (by rw [c]; decide)], fx, fun j hj => fy j (by omega)⟩
    · have hk : k < 12 := by omega
      obtain ⟨g, a1, a2, a3⟩ := ih (k + 1) (up hv 96 k (nI (if k = s then 0 else 1000000))) (by omega) (by omega) (fun x hx => by rw [up_cell hx]; exact fx x hx) (fun j hj => by
        by_cases z : j = k
        · rw [z, up_same]
        · rw [up_oj z]; exact fy j (by omega))
      refine ⟨g, fun k0 => ?_, a2, a3⟩
      rw [mT_spread_L3, if_neg (show ¬ (12 : Int32) ≤ nI k from nI_ge (b := 12) hk (by decide)), jn1_e, ← a1 k0]
      by_cases z : k = s
      · rw [if_pos (show nI k = nI s by rw [z]), if_pos z]
        dsimp only
        rw [ck_nI hk (by decide), lt_e, show ix (nI k) = k from nI_clamp (by omega), nI_1]
        rfl
      · rw [if_neg (show ¬ nI k = nI s from fun y => z ((nI_eq (by omega) (by omega)).mp y)), if_neg z]
        dsimp only
        rw [ck_nI hk (by decide), lt_e, show ix (nI k) = k from nI_clamp (by omega), nI_1]
        rfl
theorem so_0 {E : Nat → Nat → Prop} {w op : Nat → Nat → Nat} {s I : Nat} : SO E w op s I (fun v => if v = s then 0 else I) := by
  refine ⟨if_pos rfl, fun v => ?_⟩
  by_cases z : v = s
  · dsimp only
    rw [if_pos z]
    exact ⟨Nat.zero_le _, Or.inr ⟨[], z, rfl⟩⟩
  · dsimp only
    rw [if_neg z]
    exact ⟨Nat.le_refl _, Or.inl rfl⟩
theorem spr_c {H : Nat} {hc hm : PH} (t : TW AA H hc hm) (p : Int32) {m s : Nat} (hm16 : m ≤ 16) (hs : s < H) (e3 : hc 14 3 = nI m) (e1 : hc 14 1 = 5) (nx : ∀ k, k < 12 → mO_nextTo 5 (nI k) hc = some (hm 123 k)) (rg : ∀ r, r < m → ∃ x y, x < 12 ∧ y < 12 ∧ hc 15 (5 * r) = nI x ∧ hc 15 (5 * r + 1) = nI y) : ∃ A g, mT_spread 1 14 (nI s) p hc = some g ∧ (∀ x, x ≠ 96 → g x = hc x) ∧ AR 12 96 A g ∧ SO (EG H hm) (wsp hc) (ops p) s 1000000 A ∧ KL (EG H hm) (wsp hc) (ops p) s 1000000 12 A := by
  have h12 := t.1
  obtain ⟨g, a1, a2, a3⟩ := rs_3 p (s := s) (by omega) (hc := hc) FU 0 hc (by unfold FU; omega) (by decide) (fun _ _ => rfl) (fun j hj => absurd hj (Nat.not_lt_zero j))
  obtain ⟨A, g', b1, b2⟩ := rs_38 t p hm16 hs e3 e1 nx rg FU 0 (fun v => if v = s then 0 else 1000000) g (by unfold FU; omega) (by decide) a2 a3 so_0 (kl_0 so_0)
  rw [nI_0] at a1 b1
  refine ⟨A, g', ?_, b2⟩
  unfold mT_spread
  rw [a1]
  exact b1
/-- the model's edges from house a -/
theorem fm_59 {H : Nat} {hc hm : PH} (t : TW AA H hc hm) (p q : Int32) {s : Nat} (hs : s < H) {a : Nat} (ha : a < H) (A0 : Nat → Nat) (h0 : ∀ v, A0 v ≤ 100000000) : ∀ (n b : Nat) (A : Nat → Nat) (hv : PH), H < n + b → b ≤ H → (∀ x, x ≠ 126 → hv x = hm x) → AR H 126 A hv → SO (EG H hm) (wsp hc) (ops p) s 100000000 A → (∀ v, A v ≤ A0 v) → (∀ x y, (x < a ∨ (x = a ∧ y < b)) → EG H hm x y → A0 x < 100000000 → A y ≤ ops p (A0 x) (wsp hc x y)) → ∃ A' hv', (∀ k0, mm_findsCosts_L59 p q (nI a) k0 n (nI b) hv = k0 hv') ∧ (∀ x, x ≠ 126 → hv' x = hm x) ∧ AR H 126 A' hv' ∧ SO (EG H hm) (wsp hc) (ops p) s 100000000 A' ∧ (∀ v, A' v ≤ A0 v) ∧ ∀ x y, x < a + 1 → EG H hm x y → A0 x < 100000000 → A' y ≤ ops p (A0 x) (wsp hc x y) := by
  have h12 := t.1
  have oi := ops_i p
  have om := ops_m p
  intro n
  induction n with
  | zero => intro b A hv h1 h2; omega
  | succ n ih =>
    intro b A hv h1 h2 fx ar so le pr
    have e6 : hv 104 6 = nI H := by rw [fx 104 (by decide)]; exact t.2.2.1
    by_cases c : b = H
    · refine ⟨A, hv, fun k0 => by rw [mm_findsCosts_L59, e6, if_pos (by rw [c]; exact nI_le (Nat.le_refl _) (by omega))], fx, ar, so, le, fun x y hx e => pr x y ?_ e⟩
      have := e.2.1
      omega
    · have hb : b < H := by omega
      have skip : (EG H hm a b → A0 a < 100000000 → A b ≤ ops p (A0 a) (wsp hc a b)) → ∃ A' hv', (∀ k0, mm_findsCosts_L59 p q (nI a) k0 n (nI (b + 1)) hv = k0 hv') ∧ (∀ x, x ≠ 126 → hv' x = hm x) ∧ AR H 126 A' hv' ∧ SO (EG H hm) (wsp hc) (ops p) s 100000000 A' ∧ (∀ v, A' v ≤ A0 v) ∧ ∀ x y, x < a + 1 → EG H hm x y → A0 x < 100000000 → A' y ≤ ops p (A0 x) (wsp hc x y) := fun sk => ih (b + 1) A hv (by omega) (by omega) fx ar so le (fun x y hxy e hx => by
        by_cases w : x = a ∧ y = b
        · obtain ⟨w1, w2⟩ := w
          rw [w1, w2] at e ⊢
          rw [w1] at hx
          exact sk e hx
        · exact pr x y (by omega) e hx)
      have hd : ∀ k0, mm_findsCosts_L59 p q (nI a) k0 (n + 1) (nI b) hv = bd (mm_has (hm 123 a) (nI b) hv) fun r5 => if r5 = 0 then mm_findsCosts_L59 p q (nI a) k0 n (nI (b + 1)) hv else if nI (A a) = 100000000 then mm_findsCosts_L59 p q (nI a) k0 n (nI (b + 1)) hv else jn1 (fun (x7 : Int32) => ck (nI b) 12 <| bd (mm_lesser (nI (A b)) x7 hv) fun r8 => ck (nI b) 12 <| lt (up hv 126 b r8) fun h9 => mm_findsCosts_L59 p q (nI a) k0 n (nI (b + 1)) h9) fun j6 => if p = 0 then ck (nI a) 12 <| bd (mm_stepCost (nI a) (nI b) hv) fun r10 => j6 (nI (A a) + r10) else ck (nI a) 12 <| bd (mm_stepCost (nI a) (nI b) hv) fun r11 => bd (mm_greater (nI (A a)) r11 hv) fun r12 => j6 r12 := fun k0 => by
        have ca : ∀ (z : Option PH), ck (nI a) 12 z = z := fun z => ck_nI (by omega) (by decide)
        rw [mm_findsCosts_L59, e6, if_neg (nI_ge hb (by omega)), ck_nI (show a < 24 by omega) (by decide), show ix (nI a) = a from nI_clamp (by omega), fx 123 (by decide), show ix (nI b) = b from nI_clamp (by omega), ar a ha, ar b hb, nI_1]
        simp only [ca]
      unfold mm_has at hd
      by_cases bt : bitb (hm 123 a) b
      · have bt' : ((hm 123 a >>> (nI b &&& 31)) &&& 1) = 1 := bt
        have ba := (so.2 a).1
        have bb := (so.2 b).1
        by_cases inf : A a = 100000000
        · obtain ⟨A', hv', z1, z2⟩ := skip (fun _ hx => by have := le a; have := h0 a; omega)
          refine ⟨A', hv', fun k0 => ?_, z2⟩
          rw [hd, if_pos bt', bd_e, if_neg no10, if_pos (by rw [inf]; rfl)]
          exact z1 k0
        · have e : EG H hm a b := ⟨ha, hb, bt⟩
          have sa := ws_e t ha
          have sb := ws_e t hb
          have tv : TW AA H hc hv := tb_of t rfl rfl (by rw [fx 104 (by decide)]) (fx 105 (by decide)) (fx 108 (by decide)) (fx 109 (by decide))
          have st : mm_stepCost (nI a) (nI b) hv = some (nI (wsp hc a b)) := by
            unfold mm_stepCost
            rw [suM tv ha, bd_e, suM tv hb, bd_e, sa.1, sb.1, nI_add]
            rfl
          have wl : wsp hc a b ≤ 792 := by unfold wsp; omega
          have ob := ops_b p (A a) (wsp hc a b) wl
          obtain ⟨A', hv', z1, z2⟩ := ih (b + 1) (rlx (wsp hc) (ops p) A a b) (up hv 126 b (nI (min (A b) (ops p (A a) (wsp hc a b))))) (by omega) (by omega) (fun x hx => by rw [up_cell hx]; exact fx x hx) (ar_up ar) (rlx_so oi so e) (fun v => Nat.le_trans (rlx_le v) (le v)) (fun x y hxy e' hx => by
            by_cases w : x = a ∧ y = b
            · rw [w.1, w.2]
              exact Nat.le_trans rlx_b (om _ _ _ (le a))
            · exact Nat.le_trans (rlx_le y) (pr x y (by omega) e' hx))
          refine ⟨A', hv', fun k0 => ?_, z2⟩
          have cb : ∀ (z : Option PH), ck (nI b) 12 z = z := fun z => ck_nI (by omega) (by decide)
          have ca : ∀ (z : Option PH), ck (nI a) 12 z = z := fun z => ck_nI (by omega) (by decide)
          rw [hd, if_pos bt', bd_e, if_neg no10, if_neg (show ¬ nI (A a) = (100000000 : Int32) from fun y => inf ((nI_eq (b := 100000000) (by omega) (by decide)).mp y)), jn1_e, ← z1 k0]
          by_cases pz : p = 0
          · rw [if_pos pz, ca, st, bd_e, nI_add]
            dsimp only
            rw [cb, ls_e, bd_e, cb, lt_e, mn_n (by omega) (by omega), show A a + wsp hc a b = ops p (A a) (wsp hc a b) by unfold ops; rw [if_pos pz]]
          · rw [if_neg pz, ca, st, bd_e, gr_n (by omega) (by omega), bd_e]
            dsimp only
            rw [cb, ls_e, bd_e, cb, lt_e, mn_n (by omega) (by omega), show max (A a) (wsp hc a b) = ops p (A a) (wsp hc a b) by unfold ops; rw [if_neg pz]]
      · have bt' : ¬ ((hm 123 a >>> (nI b &&& 31)) &&& 1) = 1 := bt
        obtain ⟨A', hv', z1, z2⟩ := skip (fun e _ => absurd e.2.2 bt)
        refine ⟨A', hv', fun k0 => ?_, z2⟩
        rw [hd, if_neg bt', bd_e, if_pos rfl]
        exact z1 k0
theorem fm_47 {H : Nat} {hc hm : PH} (t : TW AA H hc hm) (p q : Int32) {s : Nat} (hs : s < H) (A0 : Nat → Nat) (h0 : ∀ v, A0 v ≤ 100000000) : ∀ (n a : Nat) (A : Nat → Nat) (hv : PH), H < n + a → a ≤ H → (∀ x, x ≠ 126 → hv x = hm x) → AR H 126 A hv → SO (EG H hm) (wsp hc) (ops p) s 100000000 A → (∀ v, A v ≤ A0 v) → (∀ x y, x < a → EG H hm x y → A0 x < 100000000 → A y ≤ ops p (A0 x) (wsp hc x y)) → ∃ A' hv', (∀ k0, mm_findsCosts_L47 p q k0 n (nI a) hv = k0 hv') ∧ (∀ x, x ≠ 126 → hv' x = hm x) ∧ AR H 126 A' hv' ∧ SO (EG H hm) (wsp hc) (ops p) s 100000000 A' ∧ (∀ v, A' v ≤ A0 v) ∧ ∀ x y, EG H hm x y → A0 x < 100000000 → A' y ≤ ops p (A0 x) (wsp hc x y) := by
  have h12 := t.1
  intro n
  induction n with
  | zero => intro a A hv h1 h2; omega
  | succ n ih =>
    intro a A hv h1 h2 fx ar so le pr
    have e6 : hv 104 6 = nI H := by rw [fx 104 (by decide)]; exact t.2.2.1
    by_cases c : a = H
    · exact ⟨A, hv, fun k0 => by rw [mm_findsCosts_L47, e6, if_pos (by rw [c]; exact nI_le (Nat.le_refl _) (by omega))], fx, ar, so, le, fun x y e => pr x y (by have := e.1; omega) e⟩
    · have ha : a < H := by omega
      obtain ⟨A1, hv1, z1, z2, z3, z4, z5, z6⟩ := fm_59 t p q hs ha A0 h0 FU 0 A hv (by unfold FU; omega) (Nat.zero_le _) fx ar so le (fun x y hxy e hx => pr x y (by omega) e hx)
      rw [nI_0] at z1
      obtain ⟨A', hv', y1, y2⟩ := ih (a + 1) A1 hv1 (by omega) (by omega) z2 z3 z4 z5 z6
      refine ⟨A', hv', fun k0 => ?_, y2⟩
      rw [mm_findsCosts_L47, e6, if_neg (nI_ge ha (by omega)), z1, nI_1]
      exact y1 k0
theorem fm_36 {H : Nat} {hc hm : PH} (t : TW AA H hc hm) (p : Int32) {s : Nat} (hs : s < H) : ∀ (n v : Nat) (A : Nat → Nat) (hv : PH), H < n + v → v ≤ H → (∀ x, x ≠ 126 → hv x = hm x) → AR H 126 A hv → SO (EG H hm) (wsp hc) (ops p) s 100000000 A → KL (EG H hm) (wsp hc) (ops p) s 100000000 v A → ∃ A' hv', mm_findsCosts_L36 p n (nI v) hv = some hv' ∧ (∀ x, x ≠ 126 → hv' x = hm x) ∧ AR H 126 A' hv' ∧ SO (EG H hm) (wsp hc) (ops p) s 100000000 A' ∧ KL (EG H hm) (wsp hc) (ops p) s 100000000 H A' := by
  have h12 := t.1
  intro n
  induction n with
  | zero => intro v A hv h1 h2; omega
  | succ n ih =>
    intro v A hv h1 h2 fx ar so kl
    have e6 : hv 104 6 = nI H := by rw [fx 104 (by decide)]; exact t.2.2.1
    by_cases c : v = H
    · subst c
      exact ⟨A, hv, by rw [mm_findsCosts_L36, e6, if_pos (nI_le (Nat.le_refl _) (by omega))], fx, ar, so, kl⟩
    · have hv' : v < H := by omega
      obtain ⟨A1, hv1, z1, z2, z3, z4, z5, z6⟩ := fm_47 t p (nI v) hs A (fun w => (so.2 w).1) FU 0 A hv (by unfold FU; omega) (Nat.zero_le _) fx ar so (fun _ => Nat.le_refl _) (fun x y hx => absurd hx (Nat.not_lt_zero x))
      rw [nI_0] at z1
      obtain ⟨A', g', y1, y2⟩ := ih (v + 1) A1 hv1 (by omega) (by omega) z2 z3 z4 (kl_s (ops_i p) (ops_m p) z4 kl z6)
      refine ⟨A', g', ?_, y2⟩
      rw [mm_findsCosts_L36, e6, if_neg (nI_ge hv' (by omega)), z1, nI_1]
      exact y1
theorem fm_2 {H : Nat} {hc hm : PH} (t : TW AA H hc hm) (p : Int32) {s : Nat} (hs : s < H) : ∀ (n k : Nat) (hv : PH), H < n + k → k ≤ H → (∀ x, x ≠ 126 → hv x = hm x) → (∀ j, j < k → hv 126 j = nI (if j = s then 0 else 100000000)) → ∃ g, (∀ k0, mm_findsCosts_L2 (nI s) p k0 n (nI k) hv = k0 g) ∧ (∀ x, x ≠ 126 → g x = hm x) ∧ ∀ j, j < H → g 126 j = nI (if j = s then 0 else 100000000) := by
  have h12 := t.1
  intro n
  induction n with
  | zero => intro k hv h1 h2; omega
  | succ n ih =>
    intro k hv h1 h2 fx fy
    have e6 : hv 104 6 = nI H := by rw [fx 104 (by decide)]; exact t.2.2.1
    by_cases c : k = H
    · exact ⟨hv, fun k0 => by rw [mm_findsCosts_L2, e6, if_pos (by rw [c]; exact nI_le (Nat.le_refl _) (by omega))], fx, fun j hj => fy j (by omega)⟩
    · have hk : k < H := by omega
      obtain ⟨g, a1, a2, a3⟩ := ih (k + 1) (up hv 126 k (nI (if k = s then 0 else 100000000))) (by omega) (by omega) (fun x hx => by rw [up_cell hx]; exact fx x hx) (fun j hj => by
        by_cases z : j = k
        · rw [z, up_same]
        · rw [up_oj z]; exact fy j (by omega))
      refine ⟨g, fun k0 => ?_, a2, a3⟩
      rw [mm_findsCosts_L2, e6, if_neg (nI_ge hk (by omega)), jn1_e, ← a1 k0]
      by_cases z : k = s
      · rw [if_pos (show nI k = nI s by rw [z]), if_pos z]
        dsimp only
        rw [ck_nI (show k < 12 by omega) (by decide), lt_e, show ix (nI k) = k from nI_clamp (by omega), nI_1]
        rfl
      · rw [if_neg (show ¬ nI k = nI s from fun y => z ((nI_eq (by omega) (by omega)).mp y)), if_neg z]
        dsimp only
        rw [ck_nI (show k < 12 by omega) (by decide), lt_e, show ix (nI k) = k from nI_clamp (by omega), nI_1]
        rfl
theorem spr_m {H : Nat} {hc hm : PH} (t : TW AA H hc hm) (p : Int32) {s : Nat} (hs : s < H) : ∃ A g, mm_findsCosts (nI s) p hm = some g ∧ (∀ x, x ≠ 126 → g x = hm x) ∧ AR H 126 A g ∧ SO (EG H hm) (wsp hc) (ops p) s 100000000 A ∧ KL (EG H hm) (wsp hc) (ops p) s 100000000 H A := by
  have h12 := t.1
  obtain ⟨g, a1, a2, a3⟩ := fm_2 t p hs FU 0 hm (by unfold FU; omega) (Nat.zero_le _) (fun _ _ => rfl) (fun j hj => absurd hj (Nat.not_lt_zero j))
  obtain ⟨A, g', b1, b2⟩ := fm_36 t p hs FU 0 (fun v => if v = s then 0 else 100000000) g (by unfold FU; omega) (Nat.zero_le _) a2 a3 so_0 (kl_0 so_0)
  rw [nI_0] at a1 b1
  refine ⟨A, g', ?_, b2⟩
  unfold mm_findsCosts
  rw [a1]
  exact b1
/-- both spreads tell the same costs -/
theorem spr_eq {k : Nat} {h h1 : PH} (t : TWN k h) (rn : RNX h) (i : Inv h) (xx : ∀ b, 104 ≤ b → h1 b = h b) (p : Int32) {H N M u s0 : Nat} {Ls : LNS} (t4 : TNt H N M (1000 * k) Ls h h) {s : Nat} (hs : s < H) : ∃ gc gm, mT_spread 1 14 (nI s) p h = some gc ∧ mm_findsCosts (nI s) p (up h1 104 0 0) = some gm ∧ gc 1 = h 1 ∧ gm 104 6 = nI H ∧ ∀ v, v < H → ∃ a b, gc 96 v = nI a ∧ gm 126 v = nI b ∧ ((a = b ∧ a < 10000) ∨ (a = 1000000 ∧ b = 100000000)) := by
  have tt := tn_in xx t4
  have h12 : H ≤ 12 := t4.1.1.1
  obtain ⟨m, m1, m2, m3⟩ := rn.1
  have e1 : h 14 1 = 5 := ((rows_t i).1 4 (by decide)).1
  obtain ⟨A, gc, a1, a2, a3, a4, a5⟩ := spr_c tt.1.1 p m1 hs m2 e1 tt.1.2.2.2.1 m3
  obtain ⟨B, gm, b1, b2, b3, b4, b5⟩ := spr_m tt.1.1 p hs
  have wl : ∀ a b, EG H (up h1 104 0 0) a b → wsp h a b ≤ 792 := fun a b e => by
    have x := ws_e tt.1.1 e.1
    have y := ws_e tt.1.1 e.2.1
    unfold wsp
    omega
  refine ⟨gc, gm, a1, b1, a2 1 (by decide), by rw [b2 104 (by decide)]; exact tt.1.1.2.2.1, fun v hv => ⟨A v, B v, a3 v (by omega), b3 v hv, ?_⟩⟩
  exact so_eq (ops_i p) (ops_m p) (ops_b p) wl hs h12 (fun a b e => e.2.1) (by decide) (by decide) (by omega) (by omega) a4 a5 b4 b5 v
theorem ag_way (p : Int32) (k : Nat) (a1 a2 : Int32) (h : PH) (t : TWN k h) (rn : RNX h) (i : Inv h) {rX rm : Int32} {h1 h2 : PH} (e1 : (bd2 (mX_cheapestWay a1 a2 p h) fun r1 h2 => some (r1, h2)) = some (rX, h1)) (e2 : (lt (up h1 104 0 0) fun h1 => bd2 (mm_costOf a1 a2 p h1) fun r2 h3 => some (r2, h3)) = some (rm, h2)) (cs : CS h h1 h2) : rX = rm := by
  have xx := cs.2.2.2.1
  obtain ⟨t1, t2, t3, ⟨H, N, M, u, s, Ls, t4, t5⟩, t6⟩ := id t
  have tt := tn_in xx t4
  have h12 : H ≤ 12 := t4.1.1.1
  rw [lt_e] at e2
  unfold mX_cheapestWay at e1
  unfold mm_costOf at e2
  rw [hs_m h (up h1 104 0 0) H t4.1.1.2.1 tt.1.1.2.2.1 a1, hs_m h (up h1 104 0 0) H t4.1.1.2.1 tt.1.1.2.2.1 a2] at e2
  rcases hs_c h H t4.1.1.2.1 h12 a1 with ⟨x, hx, ex, hh⟩ | ⟨_, hh⟩
  · rcases hs_c h H t4.1.1.2.1 h12 a2 with ⟨y, hy, ey, hh2⟩ | ⟨_, hh2⟩
    · rw [hh, bd_e, if_neg no10, hh2, bd_e, if_neg no10] at e1 e2
      subst ex ey
      obtain ⟨gc, gm, q1, q2, q3, q4, q5⟩ := spr_eq t rn i xx p (u := u) (s0 := s) t4 hx
      obtain ⟨a, b, ea, eb, q⟩ := q5 y hy
      have cy : ∀ (z : Option Int32), ck (nI y) 12 z = z := fun z => ck_nI (by omega) (by decide)
      have cy2 : ∀ (z : Option (Int32 × PH)), ck (nI y) 12 z = z := fun z => ck_nI (by omega) (by decide)
      have ct : mT_costTo (nI y) gc = if nI a < (1000000 : Int32) then some (nI a) else some (-1) := by
        unfold mT_costTo
        rw [if_neg (nI_pos (by omega)), if_neg (show ¬ (12 : Int32) ≤ nI y from nI_ge (b := 12) (by omega) (by decide)), cy, cy, show ix (nI y) = y from nI_clamp (by omega), ea]
      rw [q1, bd_e, ct] at e1
      rw [q2, bd_e, cy2, cy2, show ix (nI y) = y from nI_clamp (by omega), eb] at e2
      rcases q with ⟨z1, z2⟩ | ⟨z1, z2⟩
      · subst z1
        rw [if_pos (show nI a < (1000000 : Int32) from nI_lt (b := 1000000) (by omega) (by decide)), bd_e, bd2_e] at e1
        rw [if_neg (show ¬ nI a = (100000000 : Int32) from fun w => absurd ((nI_eq (b := 100000000) (by omega) (by decide)).mp w) (by omega)), bd2_e] at e2
        cases e1
        cases e2
        rfl
      · subst z1 z2
        rw [if_neg (show ¬ nI 1000000 < (1000000 : Int32) by decide), bd_e, bd2_e] at e1
        rw [if_pos (show nI 100000000 = (100000000 : Int32) from rfl), bd2_e] at e2
        cases e1
        cases e2
        rfl
    · rw [hh, bd_e, if_neg no10, hh2, bd_e, if_pos rfl, bd2_e] at e1 e2
      cases e1
      cases e2
      rfl
  · rw [hh, bd_e, if_pos rfl, bd2_e] at e1 e2
    cases e1
    cases e2
    rfl
theorem ag_hears (k : Nat) (a1 a2 : Int32) (h : PH) (t : TWN k h) (rn : RNX h) (i : Inv h) {rX rm : Int32} {h1 h2 : PH} (e1 : mX_hears a1 a2 h = some (rX, h1)) (e2 : mm_hears a1 a2 h1 = some (rm, h2)) (cs : CS h h1 h2) : rX = rm := ag_way 1 k a1 a2 h t rn i e1 e2 cs
theorem ag_ants (k : Nat) (a1 a2 : Int32) (h : PH) (t : TWN k h) (rn : RNX h) (i : Inv h) {rX rm : Int32} {h1 h2 : PH} (e1 : mX_ants a1 a2 h = some (rX, h1)) (e2 : mm_ants a1 a2 h1 = some (rm, h2)) (cs : CS h h1 h2) : rX = rm := ag_way 0 k a1 a2 h t rn i e1 e2 cs
theorem cw_go {H s : Nat} {gc gm : PH} (h12 : H ≤ 12) (e6 : gm 104 6 = nI H) {P : Nat} (hP : P ≤ 800) (q : ∀ v, v < H → ∃ a b, gc 96 v = nI a ∧ gm 126 v = nI b ∧ ((a = b ∧ a < 10000) ∨ (a = 1000000 ∧ b = 100000000))) (hs : s < H) : ∀ (n v : Nat) (c : Int32), H < n + v → v ≤ H → ∃ x, mT_countWithin_L6 (nI H) (nI s) (nI P) gc n c (nI v) = some x ∧ mm_heard_L38 (nI s) (nI P) gm n c (nI v) = some (x, gm) := by
  intro n
  induction n with
  | zero => intro v c h1 h2; omega
  | succ n ih =>
    intro v c h1 h2
    rw [mT_countWithin_L6, mm_heard_L38, e6]
    by_cases z : v = H
    · rw [if_pos (by rw [z]; exact nI_le (Nat.le_refl _) (by omega)), if_pos (by rw [z]; exact nI_le (Nat.le_refl _) (by omega))]
      exact ⟨c, rfl, rfl⟩
    · have hv : v < H := by omega
      rw [if_neg (nI_ge hv (by omega)), if_neg (show ¬ (12 : Int32) ≤ nI v from nI_ge (b := 12) (by omega) (by decide)), if_neg (nI_ge hv (by omega)), nI_1]
      by_cases y : v = s
      · rw [if_pos (by rw [y]), if_pos (by rw [y])]
        exact ih (v + 1) c (by omega) (by omega)
      · have ny : ¬ nI v = nI s := fun w => y ((nI_eq (by omega) (by omega)).mp w)
        obtain ⟨a, b, ea, eb, w⟩ := q v hv
        rw [if_neg ny, if_neg ny, ck_nI (show v < 12 by omega) (by decide), ck_nI (show v < 12 by omega) (by decide), show ix (nI v) = v from nI_clamp (by omega), ea, eb]
        rcases w with ⟨w1, w2⟩ | ⟨w1, w2⟩
        · subst w1
          by_cases d : nI P < nI a
          · rw [if_pos d, if_pos d]
            exact ih (v + 1) c (by omega) (by omega)
          · rw [if_neg d, if_neg d, lt_e]
            exact ih (v + 1) (c + 1) (by omega) (by omega)
        · rw [if_pos (show nI P < nI a from nI_lt (by omega) (by omega)), if_pos (show nI P < nI b from nI_lt (by omega) (by omega))]
          exact ih (v + 1) c (by omega) (by omega)
theorem ag_heard (k : Nat) (a1 a2 : Int32) (h : PH) (t : TWN k h) (rn : RNX h) (i : Inv h) {rX rm : Int32} {h1 h2 : PH} (e1 : mX_heard a1 a2 h = some (rX, h1)) (e2 : mm_heard a1 a2 h1 = some (rm, h2)) (cs : CS h h1 h2) : rX = rm := by
  have xx := cs.2.2.2.1
  obtain ⟨t1, t2, t3, ⟨H, N, M, u, s, Ls, t4, t5⟩, t6⟩ := id t
  have tt := tn_in xx t4
  have h12 : H ≤ 12 := t4.1.1.1
  unfold mX_heard at e1
  unfold mm_heard at e2
  rw [lt_e, hs_m h (up h1 104 0 0) H t4.1.1.2.1 tt.1.1.2.2.1 a1] at e2
  rcases hs_c h H t4.1.1.2.1 h12 a1 with ⟨x, hx, ex, hh⟩ | ⟨_, hh⟩
  · rw [hh, bd_e, if_neg no10] at e1 e2
    subst ex
    by_cases f : 0 ≤ a2 ∧ a2 ≤ 800
    · rw [within_y f, bd_e, if_neg no10] at e1
      rw [isIn_y f, bd_e, if_neg no10] at e2
      obtain ⟨P, P1, P2, eP⟩ := nat_of (rng_of (x := 0) (y := 800) rfl rfl f) (by decide)
      subst eP
      obtain ⟨gc, gm, q1, q2, q3, q4, q5⟩ := spr_eq t rn i xx 1 (u := u) (s0 := s) t4 hx
      obtain ⟨c, c1, c2⟩ := cw_go h12 q4 (P := P) (by omega) q5 hx FU 0 0 (by unfold FU; omega) (Nat.zero_le _)
      rw [nI_0] at c1 c2
      have cw : mT_countWithin (gc 1 1) (nI x) (nI P) gc = some c := by
        unfold mT_countWithin
        rw [q3, t4.1.1.2.1]
        exact c1
      rw [q1, bd_e, cw, bd_e] at e1
      rw [q2, bd_e, c2] at e2
      cases e1
      cases e2
      rfl
    · rw [within_n f, bd_e, if_pos rfl] at e1
      rw [isIn_n f, bd_e, if_pos rfl] at e2
      cases e1
      cases e2
      rfl
  · rw [hh, bd_e, if_pos rfl] at e1 e2
    cases e1
    cases e2
    rfl
