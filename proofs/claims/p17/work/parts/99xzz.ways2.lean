section
/-! THE WAYS on both sides: rounds, and what is asked -/
theorem edge_c {H m : Nat} {hc hm : PH} (h12 : H ≤ 12) (hm16 : m ≤ 16) (e3 : hc 14 3 = nI m) (e1 : hc 14 1 = 5) (nx : ∀ k, k < 12 → mO_nextTo 5 (nI k) hc = some (hm 123 k)) (rg : ∀ r, r < m → ∃ x y, x < 12 ∧ y < 12 ∧ hc 15 (5 * r) = nI x ∧ hc 15 (5 * r + 1) = nI y) {a b : Nat} (ha : a < H) (hb : b < H) : bitb (hm 123 a) b ↔ ∃ r, r < m ∧ ((hc 15 (5 * r) = nI a ∧ hc 15 (5 * r + 1) = nI b) ∨ (hc 15 (5 * r + 1) = nI a ∧ hc 15 (5 * r) = nI b)) := by
  have e : hm 123 a = nxF (hc 15) a m := by
    have q := nx a (by omega)
    rw [nt_rows hm16 e3 e1 a] at q
    exact (Option.some.inj q).symm
  rw [e]
  exact nx_edge (by omega) (by omega) m rg
theorem rs_38 {H : Nat} {hc hm : PH} (t : TW AA H hc hm) (p : Int32) {m sN : Nat} (hm16 : m ≤ 16) (hsN : sN < H) (e3 : hc 14 3 = nI m) (e1 : hc 14 1 = 5) (nx : ∀ k, k < 12 → mO_nextTo 5 (nI k) hc = some (hm 123 k)) (rg : ∀ r, r < m → ∃ x y, x < 12 ∧ y < 12 ∧ hc 15 (5 * r) = nI x ∧ hc 15 (5 * r + 1) = nI y) : ∀ (n v : Nat) (A : Nat → Nat) (hv : PH), 12 < n + v → v ≤ 12 → (∀ x, x ≠ 96 → hv x = hc x) → AR 12 96 A hv → SO (EG H hm) (wsp hc) (ops p) sN 1000000 A → KL (EG H hm) (wsp hc) (ops p) sN 1000000 v A → ∃ A' hv', mT_spread_L38 1 14 p n (nI v) hv = some hv' ∧ (∀ x, x ≠ 96 → hv' x = hc x) ∧ AR 12 96 A' hv' ∧ SO (EG H hm) (wsp hc) (ops p) sN 1000000 A' ∧ KL (EG H hm) (wsp hc) (ops p) sN 1000000 12 A' := by
  have h12 := t.1
  intro n
  induction n with
  | zero => intro v A hv h1 h2; omega
  | succ n ih =>
    intro v A hv h1 h2 fx ar so kl
    by_cases c : v = 12
    · subst c
      exact ⟨A, hv, by rw [mT_spread_L38, if_pos (by decide)], fx, ar, so, kl⟩
    · obtain ⟨A1, hv1, z1, z2, z3, z4, z5, z6⟩ := rs_48 t p (nI v) 0 hm16 sN hsN e3 e1 rg (fun r hr x y hx hy ex ey => ⟨⟨hx, hy, (edge_c h12 hm16 e3 e1 nx rg hx hy).mpr ⟨r, hr, Or.inl ⟨ex, ey⟩⟩⟩, ⟨hy, hx, (edge_c h12 hm16 e3 e1 nx rg hy hx).mpr ⟨r, hr, Or.inr ⟨ey, ex⟩⟩⟩⟩) A FU 0 A hv (by unfold FU; omega) (Nat.zero_le _) fx ar so (fun _ => Nat.le_refl _) (fun q hq => absurd hq (Nat.not_lt_zero q))
      rw [nI_0] at z1
      have kl1 := kl_s (ops_i p) (ops_m p) z4 kl (fun a b e _ => by
        obtain ⟨ha, hb, hbit⟩ := e
        obtain ⟨r, hr, q⟩ := (edge_c h12 hm16 e3 e1 nx rg ha hb).mp hbit
        rcases q with ⟨q1, q2⟩ | ⟨q1, q2⟩
        · exact (z6 r hr a b ha hb q1 q2).1
        · exact (z6 r hr b a hb ha q2 q1).2)
      obtain ⟨A', hv', y1, y2⟩ := ih (v + 1) A1 hv1 (by omega) (by omega) z2 z3 z4 kl1
      refine ⟨A', hv', ?_, y2⟩
      rw [mT_spread_L38, if_neg (show ¬ (12 : Int32) ≤ nI v from nI_ge (b := 12) (by omega) (by decide)), z1, nI_1]
      exact y1
theorem rs_3 (p : Int32) {s : Nat} (hs : s < 12) {hc : PH} : ∀ (n k : Nat) (hv : PH), 12 < n + k → k ≤ 12 → (∀ x, x ≠ 96 → hv x = hc x) → (∀ j, j < k → hv 96 j = nI (if j = s then 0 else 1000000)) → ∃ g, (∀ k0, mT_spread_L3 1 14 (nI s) p k0 n (nI k) hv = k0 g) ∧ (∀ x, x ≠ 96 → g x = hc x) ∧ ∀ j, j < 12 → g 96 j = nI (if j = s then 0 else 1000000) := by
  intro n
  induction n with
  | zero => intro k hv h1 h2; omega
  | succ n ih =>
    intro k hv h1 h2 fx fy
    by_cases c : k = 12
    · exact ⟨hv, fun k0 => by rw [mT_spread_L3, if_pos (by rw [c]; decide)], fx, fun j hj => fy j (by omega)⟩
    · have hk : k < 12 := by omega
      obtain ⟨g, a1, a2, a3⟩ := ih (k + 1) (up hv 96 k (nI (if k = s then 0 else 1000000))) (by omega) (by omega) (fun x hx => by rw [up_cell hx]; exact fx x hx) (fun j hj => by
        by_cases z : j = k
        · rw [z, up_same]
        · rw [up_oj z]; exact fy j (by omega))
      refine ⟨g, fun k0 => ?_, a2, a3⟩
      rw [mT_spread_L3, if_neg (show ¬ (12 : Int32) ≤ nI k from nI_ge (b := 12) hk (by decide)), jn1_e, ← a1 k0]
      by_cases z : k = s
      · rw [if_pos (show nI k = nI s by rw [z]), if_pos z]
        dsimp only
        rw [ck_nI hk (by decide), lt_e, show ix (nI k) = k from nI_clamp (by omega), nI_1]
        rfl
      · rw [if_neg (show ¬ nI k = nI s from fun y => z ((nI_eq (by omega) (by omega)).mp y)), if_neg z]
        dsimp only
        rw [ck_nI hk (by decide), lt_e, show ix (nI k) = k from nI_clamp (by omega), nI_1]
        rfl
theorem so_0 {E : Nat → Nat → Prop} {w op : Nat → Nat → Nat} {s I : Nat} : SO E w op s I (fun v => if v = s then 0 else I) := by
  refine ⟨if_pos rfl, fun v => ?_⟩
  by_cases z : v = s
  · dsimp only
    rw [if_pos z]
    exact ⟨Nat.zero_le _, Or.inr ⟨[], z, rfl⟩⟩
  · dsimp only
    rw [if_neg z]
    exact ⟨Nat.le_refl _, Or.inl rfl⟩
theorem spr_c {H : Nat} {hc hm : PH} (t : TW AA H hc hm) (p : Int32) {m s : Nat} (hm16 : m ≤ 16) (hs : s < H) (e3 : hc 14 3 = nI m) (e1 : hc 14 1 = 5) (nx : ∀ k, k < 12 → mO_nextTo 5 (nI k) hc = some (hm 123 k)) (rg : ∀ r, r < m → ∃ x y, x < 12 ∧ y < 12 ∧ hc 15 (5 * r) = nI x ∧ hc 15 (5 * r + 1) = nI y) : ∃ A g, mT_spread 1 14 (nI s) p hc = some g ∧ (∀ x, x ≠ 96 → g x = hc x) ∧ AR 12 96 A g ∧ SO (EG H hm) (wsp hc) (ops p) s 1000000 A ∧ KL (EG H hm) (wsp hc) (ops p) s 1000000 12 A := by
  have h12 := t.1
  obtain ⟨g, a1, a2, a3⟩ := rs_3 p (s := s) (by omega) (hc := hc) FU 0 hc (by unfold FU; omega) (by decide) (fun _ _ => rfl) (fun j hj => absurd hj (Nat.not_lt_zero j))
  obtain ⟨A, g', b1, b2⟩ := rs_38 t p hm16 hs e3 e1 nx rg FU 0 (fun v => if v = s then 0 else 1000000) g (by unfold FU; omega) (by decide) a2 a3 so_0 (kl_0 so_0)
  rw [nI_0] at a1 b1
  refine ⟨A, g', ?_, b2⟩
  unfold mT_spread
  rw [a1]
  exact b1
/-- the model's edges from house a -/
theorem fm_59 {H : Nat} {hc hm : PH} (t : TW AA H hc hm) (p q : Int32) {s : Nat} (hs : s < H) {a : Nat} (ha : a < H) (A0 : Nat → Nat) (h0 : ∀ v, A0 v ≤ 100000000) : ∀ (n b : Nat) (A : Nat → Nat) (hv : PH), H < n + b → b ≤ H → (∀ x, x ≠ 126 → hv x = hm x) → AR H 126 A hv → SO (EG H hm) (wsp hc) (ops p) s 100000000 A → (∀ v, A v ≤ A0 v) → (∀ x y, (x < a ∨ (x = a ∧ y < b)) → EG H hm x y → A0 x < 100000000 → A y ≤ ops p (A0 x) (wsp hc x y)) → ∃ A' hv', (∀ k0, mm_findsCosts_L59 p q (nI a) k0 n (nI b) hv = k0 hv') ∧ (∀ x, x ≠ 126 → hv' x = hm x) ∧ AR H 126 A' hv' ∧ SO (EG H hm) (wsp hc) (ops p) s 100000000 A' ∧ (∀ v, A' v ≤ A0 v) ∧ ∀ x y, x < a + 1 → EG H hm x y → A0 x < 100000000 → A' y ≤ ops p (A0 x) (wsp hc x y) := by
  have h12 := t.1
  have oi := ops_i p
  have om := ops_m p
  intro n
  induction n with
  | zero => intro b A hv h1 h2; omega
  | succ n ih =>
    intro b A hv h1 h2 fx ar so le pr
    have e6 : hv 104 6 = nI H := by rw [fx 104 (by decide)]; exact t.2.2.1
    by_cases c : b = H
    · refine ⟨A, hv, fun k0 => by rw [mm_findsCosts_L59, e6, if_pos (by rw [c]; exact nI_le (Nat.le_refl _) (by omega))], fx, ar, so, le, fun x y hx e => pr x y ?_ e⟩
      have := e.2.1
      omega
    · have hb : b < H := by omega
      have skip : (EG H hm a b → A0 a < 100000000 → A b ≤ ops p (A0 a) (wsp hc a b)) → ∃ A' hv', (∀ k0, mm_findsCosts_L59 p q (nI a) k0 n (nI (b + 1)) hv = k0 hv') ∧ (∀ x, x ≠ 126 → hv' x = hm x) ∧ AR H 126 A' hv' ∧ SO (EG H hm) (wsp hc) (ops p) s 100000000 A' ∧ (∀ v, A' v ≤ A0 v) ∧ ∀ x y, x < a + 1 → EG H hm x y → A0 x < 100000000 → A' y ≤ ops p (A0 x) (wsp hc x y) := fun sk => ih (b + 1) A hv (by omega) (by omega) fx ar so le (fun x y hxy e hx => by
        by_cases w : x = a ∧ y = b
        · obtain ⟨w1, w2⟩ := w
          rw [w1, w2] at e ⊢
          rw [w1] at hx
          exact sk e hx
        · exact pr x y (by omega) e hx)
      have hd : ∀ k0, mm_findsCosts_L59 p q (nI a) k0 (n + 1) (nI b) hv = bd (mm_has (hm 123 a) (nI b) hv) fun r5 => if r5 = 0 then mm_findsCosts_L59 p q (nI a) k0 n (nI (b + 1)) hv else if nI (A a) = 100000000 then mm_findsCosts_L59 p q (nI a) k0 n (nI (b + 1)) hv else jn1 (fun (x7 : Int32) => ck (nI b) 12 <| bd (mm_lesser (nI (A b)) x7 hv) fun r8 => ck (nI b) 12 <| lt (up hv 126 b r8) fun h9 => mm_findsCosts_L59 p q (nI a) k0 n (nI (b + 1)) h9) fun j6 => if p = 0 then ck (nI a) 12 <| bd (mm_stepCost (nI a) (nI b) hv) fun r10 => j6 (nI (A a) + r10) else ck (nI a) 12 <| bd (mm_stepCost (nI a) (nI b) hv) fun r11 => bd (mm_greater (nI (A a)) r11 hv) fun r12 => j6 r12 := fun k0 => by
        have ca : ∀ (z : Option PH), ck (nI a) 12 z = z := fun z => ck_nI (by omega) (by decide)
        rw [mm_findsCosts_L59, e6, if_neg (nI_ge hb (by omega)), ck_nI (show a < 24 by omega) (by decide), show ix (nI a) = a from nI_clamp (by omega), fx 123 (by decide), show ix (nI b) = b from nI_clamp (by omega), ar a ha, ar b hb, nI_1]
        simp only [ca]
      unfold mm_has at hd
      by_cases bt : bitb (hm 123 a) b
      · have bt' : ((hm 123 a >>> (nI b &&& 31)) &&& 1) = 1 := bt
        have ba := (so.2 a).1
        have bb := (so.2 b).1
        by_cases inf : A a = 100000000
        · obtain ⟨A', hv', z1, z2⟩ := skip (fun _ hx => by have := le a; have := h0 a; omega)
          refine ⟨A', hv', fun k0 => ?_, z2⟩
          rw [hd, if_pos bt', bd_e, if_neg no10, if_pos (by rw [inf]; rfl)]
          exact z1 k0
        · have e : EG H hm a b := ⟨ha, hb, bt⟩
          have sa := ws_e t ha
          have sb := ws_e t hb
          have tv : TW AA H hc hv := tb_of t rfl rfl (by rw [fx 104 (by decide)]) (fx 105 (by decide)) (fx 108 (by decide)) (fx 109 (by decide))
          have st : mm_stepCost (nI a) (nI b) hv = some (nI (wsp hc a b)) := by
            unfold mm_stepCost
            rw [suM tv ha, bd_e, suM tv hb, bd_e, sa.1, sb.1, nI_add]
            rfl
          have wl : wsp hc a b ≤ 792 := by unfold wsp; omega
          have ob := ops_b p (A a) (wsp hc a b) wl
          obtain ⟨A', hv', z1, z2⟩ := ih (b + 1) (rlx (wsp hc) (ops p) A a b) (up hv 126 b (nI (min (A b) (ops p (A a) (wsp hc a b))))) (by omega) (by omega) (fun x hx => by rw [up_cell hx]; exact fx x hx) (ar_up ar) (rlx_so oi so e) (fun v => Nat.le_trans (rlx_le v) (le v)) (fun x y hxy e' hx => by
            by_cases w : x = a ∧ y = b
            · rw [w.1, w.2]
              exact Nat.le_trans rlx_b (om _ _ _ (le a))
            · exact Nat.le_trans (rlx_le y) (pr x y (by omega) e' hx))
          refine ⟨A', hv', fun k0 => ?_, z2⟩
          have cb : ∀ (z : Option PH), ck (nI b) 12 z = z := fun z => ck_nI (by omega) (by decide)
          have ca : ∀ (z : Option PH), ck (nI a) 12 z = z := fun z => ck_nI (by omega) (by decide)
          rw [hd, if_pos bt', bd_e, if_neg no10, if_neg (show ¬ nI (A a) = (100000000 : Int32) from fun y => inf ((nI_eq (b := 100000000) (by omega) (by decide)).mp y)), jn1_e, ← z1 k0]
          by_cases pz : p = 0
          · rw [if_pos pz, ca, st, bd_e, nI_add]
            dsimp only
            rw [cb, ls_e, bd_e, cb, lt_e, mn_n (by omega) (by omega), show A a + wsp hc a b = ops p (A a) (wsp hc a b) by unfold ops; rw [if_pos pz]]
          · rw [if_neg pz, ca, st, bd_e, gr_n (by omega) (by omega), bd_e]
            dsimp only
            rw [cb, ls_e, bd_e, cb, lt_e, mn_n (by omega) (by omega), show max (A a) (wsp hc a b) = ops p (A a) (wsp hc a b) by unfold ops; rw [if_neg pz]]
      · have bt' : ¬ ((hm 123 a >>> (nI b &&& 31)) &&& 1) = 1 := bt
        obtain ⟨A', hv', z1, z2⟩ := skip (fun e _ => absurd e.2.2 bt)
        refine ⟨A', hv', fun k0 => ?_, z2⟩
        rw [hd, if_neg bt', bd_e, if_pos rfl]
        exact z1 k0
theorem fm_47 {H : Nat} {hc hm : PH} (t : TW AA H hc hm) (p q : Int32) {s : Nat} (hs : s < H) (A0 : Nat → Nat) (h0 : ∀ v, A0 v ≤ 100000000) : ∀ (n a : Nat) (A : Nat → Nat) (hv : PH), H < n + a → a ≤ H → (∀ x, x ≠ 126 → hv x = hm x) → AR H 126 A hv → SO (EG H hm) (wsp hc) (ops p) s 100000000 A → (∀ v, A v ≤ A0 v) → (∀ x y, x < a → EG H hm x y → A0 x < 100000000 → A y ≤ ops p (A0 x) (wsp hc x y)) → ∃ A' hv', (∀ k0, mm_findsCosts_L47 p q k0 n (nI a) hv = k0 hv') ∧ (∀ x, x ≠ 126 → hv' x = hm x) ∧ AR H 126 A' hv' ∧ SO (EG H hm) (wsp hc) (ops p) s 100000000 A' ∧ (∀ v, A' v ≤ A0 v) ∧ ∀ x y, EG H hm x y → A0 x < 100000000 → A' y ≤ ops p (A0 x) (wsp hc x y) := by
  have h12 := t.1
  intro n
  induction n with
  | zero => intro a A hv h1 h2; omega
  | succ n ih =>
    intro a A hv h1 h2 fx ar so le pr
    have e6 : hv 104 6 = nI H := by rw [fx 104 (by decide)]; exact t.2.2.1
    by_cases c : a = H
    · exact ⟨A, hv, fun k0 => by rw [mm_findsCosts_L47, e6, if_pos (by rw [c]; exact nI_le (Nat.le_refl _) (by omega))], fx, ar, so, le, fun x y e => pr x y (by have := e.1; omega) e⟩
    · have ha : a < H := by omega
      obtain ⟨A1, hv1, z1, z2, z3, z4, z5, z6⟩ := fm_59 t p q hs ha A0 h0 FU 0 A hv (by unfold FU; omega) (Nat.zero_le _) fx ar so le (fun x y hxy e hx => pr x y (by omega) e hx)
      rw [nI_0] at z1
      obtain ⟨A', hv', y1, y2⟩ := ih (a + 1) A1 hv1 (by omega) (by omega) z2 z3 z4 z5 z6
      refine ⟨A', hv', fun k0 => ?_, y2⟩
      rw [mm_findsCosts_L47, e6, if_neg (nI_ge ha (by omega)), z1, nI_1]
      exact y1 k0
theorem fm_36 {H : Nat} {hc hm : PH} (t : TW AA H hc hm) (p : Int32) {s : Nat} (hs : s < H) : ∀ (n v : Nat) (A : Nat → Nat) (hv : PH), H < n + v → v ≤ H → (∀ x, x ≠ 126 → hv x = hm x) → AR H 126 A hv → SO (EG H hm) (wsp hc) (ops p) s 100000000 A → KL (EG H hm) (wsp hc) (ops p) s 100000000 v A → ∃ A' hv', mm_findsCosts_L36 p n (nI v) hv = some hv' ∧ (∀ x, x ≠ 126 → hv' x = hm x) ∧ AR H 126 A' hv' ∧ SO (EG H hm) (wsp hc) (ops p) s 100000000 A' ∧ KL (EG H hm) (wsp hc) (ops p) s 100000000 H A' := by
  have h12 := t.1
  intro n
  induction n with
  | zero => intro v A hv h1 h2; omega
  | succ n ih =>
    intro v A hv h1 h2 fx ar so kl
    have e6 : hv 104 6 = nI H := by rw [fx 104 (by decide)]; exact t.2.2.1
    by_cases c : v = H
    · subst c
      exact ⟨A, hv, by rw [mm_findsCosts_L36, e6, if_pos (nI_le (Nat.le_refl _) (by omega))], fx, ar, so, kl⟩
    · have hv' : v < H := by omega
      obtain ⟨A1, hv1, z1, z2, z3, z4, z5, z6⟩ := fm_47 t p (nI v) hs A (fun w => (so.2 w).1) FU 0 A hv (by unfold FU; omega) (Nat.zero_le _) fx ar so (fun _ => Nat.le_refl _) (fun x y hx => absurd hx (Nat.not_lt_zero x))
      rw [nI_0] at z1
      obtain ⟨A', g', y1, y2⟩ := ih (v + 1) A1 hv1 (by omega) (by omega) z2 z3 z4 (kl_s (ops_i p) (ops_m p) z4 kl z6)
      refine ⟨A', g', ?_, y2⟩
      rw [mm_findsCosts_L36, e6, if_neg (nI_ge hv' (by omega)), z1, nI_1]
      exact y1
theorem fm_2 {H : Nat} {hc hm : PH} (t : TW AA H hc hm) (p : Int32) {s : Nat} (hs : s < H) : ∀ (n k : Nat) (hv : PH), H < n + k → k ≤ H → (∀ x, x ≠ 126 → hv x = hm x) → (∀ j, j < k → hv 126 j = nI (if j = s then 0 else 100000000)) → ∃ g, (∀ k0, mm_findsCosts_L2 (nI s) p k0 n (nI k) hv = k0 g) ∧ (∀ x, x ≠ 126 → g x = hm x) ∧ ∀ j, j < H → g 126 j = nI (if j = s then 0 else 100000000) := by
  have h12 := t.1
  intro n
  induction n with
  | zero => intro k hv h1 h2; omega
  | succ n ih =>
    intro k hv h1 h2 fx fy
    have e6 : hv 104 6 = nI H := by rw [fx 104 (by decide)]; exact t.2.2.1
    by_cases c : k = H
    · exact ⟨hv, fun k0 => by rw [mm_findsCosts_L2, e6, if_pos (by rw [c]; exact nI_le (Nat.le_refl _) (by omega))], fx, fun j hj => fy j (by omega)⟩
    · have hk : k < H := by omega
      obtain ⟨g, a1, a2, a3⟩ := ih (k + 1) (up hv 126 k (nI (if k = s then 0 else 100000000))) (by omega) (by omega) (fun x hx => by rw [up_cell hx]; exact fx x hx) (fun j hj => by
        by_cases z : j = k
        · rw [z, up_same]
        · rw [up_oj z]; exact fy j (by omega))
      refine ⟨g, fun k0 => ?_, a2, a3⟩
      rw [mm_findsCosts_L2, e6, if_neg (nI_ge hk (by omega)), jn1_e, ← a1 k0]
      by_cases z : k = s
      · rw [if_pos (show nI k = nI s by rw [z]), if_pos z]
        dsimp only
        rw [ck_nI (show k < 12 by omega) (by decide), lt_e, show ix (nI k) = k from nI_clamp (by omega), nI_1]
        rfl
      · rw [if_neg (show ¬ nI k = nI s from fun y => z ((nI_eq (by omega) (by omega)).mp y)), if_neg z]
        dsimp only
        rw [ck_nI (show k < 12 by omega) (by decide), lt_e, show ix (nI k) = k from nI_clamp (by omega), nI_1]
        rfl
theorem spr_m {H : Nat} {hc hm : PH} (t : TW AA H hc hm) (p : Int32) {s : Nat} (hs : s < H) : ∃ A g, mm_findsCosts (nI s) p hm = some g ∧ (∀ x, x ≠ 126 → g x = hm x) ∧ AR H 126 A g ∧ SO (EG H hm) (wsp hc) (ops p) s 100000000 A ∧ KL (EG H hm) (wsp hc) (ops p) s 100000000 H A := by
  have h12 := t.1
  obtain ⟨g, a1, a2, a3⟩ := fm_2 t p hs FU 0 hm (by unfold FU; omega) (Nat.zero_le _) (fun _ _ => rfl) (fun j hj => absurd hj (Nat.not_lt_zero j))
  obtain ⟨A, g', b1, b2⟩ := fm_36 t p hs FU 0 (fun v => if v = s then 0 else 100000000) g (by unfold FU; omega) (Nat.zero_le _) a2 a3 so_0 (kl_0 so_0)
  rw [nI_0] at a1 b1
  refine ⟨A, g', ?_, b2⟩
  unfold mm_findsCosts
  rw [a1]
  exact b1
/-- both spreads tell the same costs -/
theorem spr_eq {k : Nat} {h h1 : PH} (t : TWN k h) (rn : RNX h) (i : Inv h) (xx : ∀ b, 104 ≤ b → h1 b = h b) (p : Int32) {H N M u s0 : Nat} {Ls : LNS} (t4 : TNt H N M (1000 * k) Ls h h) {s : Nat} (hs : s < H) : ∃ gc gm, mT_spread 1 14 (nI s) p h = some gc ∧ mm_findsCosts (nI s) p (up h1 104 0 0) = some gm ∧ gc 1 = h 1 ∧ gm 104 6 = nI H ∧ ∀ v, v < H → ∃ a b, gc 96 v = nI a ∧ gm 126 v = nI b ∧ ((a = b ∧ a < 10000) ∨ (a = 1000000 ∧ b = 100000000)) := by
  have tt := tn_in xx t4
  have h12 : H ≤ 12 := t4.1.1.1
  obtain ⟨m, m1, m2, m3⟩ := rn.1
  have e1 : h 14 1 = 5 := ((rows_t i).1 4 (by decide)).1
  obtain ⟨A, gc, a1, a2, a3, a4, a5⟩ := spr_c tt.1.1 p m1 hs m2 e1 tt.1.2.2.2.1 m3
  obtain ⟨B, gm, b1, b2, b3, b4, b5⟩ := spr_m tt.1.1 p hs
  have wl : ∀ a b, EG H (up h1 104 0 0) a b → wsp h a b ≤ 792 := fun a b e => by
    have x := ws_e tt.1.1 e.1
    have y := ws_e tt.1.1 e.2.1
    unfold wsp
    omega
  refine ⟨gc, gm, a1, b1, a2 1 (by decide), by rw [b2 104 (by decide)]; exact tt.1.1.2.2.1, fun v hv => ⟨A v, B v, a3 v (by omega), b3 v hv, ?_⟩⟩
  exact so_eq (ops_i p) (ops_m p) (ops_b p) wl hs h12 (fun a b e => e.2.1) (by decide) (by decide) (by omega) (by omega) a4 a5 b4 b5 v
theorem ag_way (p : Int32) (k : Nat) (a1 a2 : Int32) (h : PH) (t : TWN k h) (rn : RNX h) (i : Inv h) {rX rm : Int32} {h1 h2 : PH} (e1 : (bd2 (mX_cheapestWay a1 a2 p h) fun r1 h2 => some (r1, h2)) = some (rX, h1)) (e2 : (lt (up h1 104 0 0) fun h1 => bd2 (mm_costOf a1 a2 p h1) fun r2 h3 => some (r2, h3)) = some (rm, h2)) (cs : CS h h1 h2) : rX = rm := by
  have xx := cs.2.2.2.1
  obtain ⟨t1, t2, t3, ⟨H, N, M, u, s, Ls, t4, t5⟩, t6⟩ := id t
  have tt := tn_in xx t4
  have h12 : H ≤ 12 := t4.1.1.1
  rw [lt_e] at e2
  unfold mX_cheapestWay at e1
  unfold mm_costOf at e2
  rw [hs_m h (up h1 104 0 0) H t4.1.1.2.1 tt.1.1.2.2.1 a1, hs_m h (up h1 104 0 0) H t4.1.1.2.1 tt.1.1.2.2.1 a2] at e2
  rcases hs_c h H t4.1.1.2.1 h12 a1 with ⟨x, hx, ex, hh⟩ | ⟨_, hh⟩
  · rcases hs_c h H t4.1.1.2.1 h12 a2 with ⟨y, hy, ey, hh2⟩ | ⟨_, hh2⟩
    · rw [hh, bd_e, if_neg no10, hh2, bd_e, if_neg no10] at e1 e2
      subst ex ey
      obtain ⟨gc, gm, q1, q2, q3, q4, q5⟩ := spr_eq t rn i xx p (u := u) (s0 := s) t4 hx
      obtain ⟨a, b, ea, eb, q⟩ := q5 y hy
      have cy : ∀ (z : Option Int32), ck (nI y) 12 z = z := fun z => ck_nI (by omega) (by decide)
      have cy2 : ∀ (z : Option (Int32 × PH)), ck (nI y) 12 z = z := fun z => ck_nI (by omega) (by decide)
      have ct : mT_costTo (nI y) gc = if nI a < (1000000 : Int32) then some (nI a) else some (-1) := by
        unfold mT_costTo
        rw [if_neg (nI_pos (by omega)), if_neg (show ¬ (12 : Int32) ≤ nI y from nI_ge (b := 12) (by omega) (by decide)), cy, cy, show ix (nI y) = y from nI_clamp (by omega), ea]
      rw [q1, bd_e, ct] at e1
      rw [q2, bd_e, cy2, cy2, show ix (nI y) = y from nI_clamp (by omega), eb] at e2
      rcases q with ⟨z1, z2⟩ | ⟨z1, z2⟩
      · subst z1
        rw [if_pos (show nI a < (1000000 : Int32) from nI_lt (b := 1000000) (by omega) (by decide)), bd_e, bd2_e] at e1
        rw [if_neg (show ¬ nI a = (100000000 : Int32) from fun w => absurd ((nI_eq (b := 100000000) (by omega) (by decide)).mp w) (by omega)), bd2_e] at e2
        cases e1
        cases e2
        rfl
      · subst z1 z2
        rw [if_neg (show ¬ nI 1000000 < (1000000 : Int32) by decide), bd_e, bd2_e] at e1
        rw [if_pos (show nI 100000000 = (100000000 : Int32) from rfl), bd2_e] at e2
        cases e1
        cases e2
        rfl
    · rw [hh, bd_e, if_neg no10, hh2, bd_e, if_pos rfl, bd2_e] at e1 e2
      cases e1
      cases e2
      rfl
  · rw [hh, bd_e, if_pos rfl, bd2_e] at e1 e2
    cases e1
    cases e2
    rfl
theorem ag_hears (k : Nat) (a1 a2 : Int32) (h : PH) (t : TWN k h) (rn : RNX h) (i : Inv h) {rX rm : Int32} {h1 h2 : PH} (e1 : mX_hears a1 a2 h = some (rX, h1)) (e2 : mm_hears a1 a2 h1 = some (rm, h2)) (cs : CS h h1 h2) : rX = rm := ag_way 1 k a1 a2 h t rn i e1 e2 cs
theorem ag_ants (k : Nat) (a1 a2 : Int32) (h : PH) (t : TWN k h) (rn : RNX h) (i : Inv h) {rX rm : Int32} {h1 h2 : PH} (e1 : mX_ants a1 a2 h = some (rX, h1)) (e2 : mm_ants a1 a2 h1 = some (rm, h2)) (cs : CS h h1 h2) : rX = rm := ag_way 0 k a1 a2 h t rn i e1 e2 cs
theorem cw_go {H s : Nat} {gc gm : PH} (h12 : H ≤ 12) (e6 : gm 104 6 = nI H) {P : Nat} (hP : P ≤ 800) (q : ∀ v, v < H → ∃ a b, gc 96 v = nI a ∧ gm 126 v = nI b ∧ ((a = b ∧ a < 10000) ∨ (a = 1000000 ∧ b = 100000000))) (hs : s < H) : ∀ (n v : Nat) (c : Int32), H < n + v → v ≤ H → ∃ x, mT_countWithin_L6 (nI H) (nI s) (nI P) gc n c (nI v) = some x ∧ mm_heard_L38 (nI s) (nI P) gm n c (nI v) = some (x, gm) := by
  intro n
  induction n with
  | zero => intro v c h1 h2; omega
  | succ n ih =>
    intro v c h1 h2
    rw [mT_countWithin_L6, mm_heard_L38, e6]
    by_cases z : v = H
    · rw [if_pos (by rw [z]; exact nI_le (Nat.le_refl _) (by omega)), if_pos (by rw [z]; exact nI_le (Nat.le_refl _) (by omega))]
      exact ⟨c, rfl, rfl⟩
    · have hv : v < H := by omega
      rw [if_neg (nI_ge hv (by omega)), if_neg (show ¬ (12 : Int32) ≤ nI v from nI_ge (b := 12) (by omega) (by decide)), if_neg (nI_ge hv (by omega)), nI_1]
      by_cases y : v = s
      · rw [if_pos (by rw [y]), if_pos (by rw [y])]
        exact ih (v + 1) c (by omega) (by omega)
      · have ny : ¬ nI v = nI s := fun w => y ((nI_eq (by omega) (by omega)).mp w)
        obtain ⟨a, b, ea, eb, w⟩ := q v hv
        rw [if_neg ny, if_neg ny, ck_nI (show v < 12 by omega) (by decide), ck_nI (show v < 12 by omega) (by decide), show ix (nI v) = v from nI_clamp (by omega), ea, eb]
        rcases w with ⟨w1, w2⟩ | ⟨w1, w2⟩
        · subst w1
          by_cases d : nI P < nI a
          · rw [if_pos d, if_pos d]
            exact ih (v + 1) c (by omega) (by omega)
          · rw [if_neg d, if_neg d, lt_e]
            exact ih (v + 1) (c + 1) (by omega) (by omega)
        · rw [if_pos (show nI P < nI a from nI_lt (by omega) (by omega)), if_pos (show nI P < nI b from nI_lt (by omega) (by omega))]
          exact ih (v + 1) c (by omega) (by omega)
theorem ag_heard (k : Nat) (a1 a2 : Int32) (h : PH) (t : TWN k h) (rn : RNX h) (i : Inv h) {rX rm : Int32} {h1 h2 : PH} (e1 : mX_heard a1 a2 h = some (rX, h1)) (e2 : mm_heard a1 a2 h1 = some (rm, h2)) (cs : CS h h1 h2) : rX = rm := by
  have xx := cs.2.2.2.1
  obtain ⟨t1, t2, t3, ⟨H, N, M, u, s, Ls, t4, t5⟩, t6⟩ := id t
  have tt := tn_in xx t4
  have h12 : H ≤ 12 := t4.1.1.1
  unfold mX_heard at e1
  unfold mm_heard at e2
  rw [lt_e, hs_m h (up h1 104 0 0) H t4.1.1.2.1 tt.1.1.2.2.1 a1] at e2
  rcases hs_c h H t4.1.1.2.1 h12 a1 with ⟨x, hx, ex, hh⟩ | ⟨_, hh⟩
  · rw [hh, bd_e, if_neg no10] at e1 e2
    subst ex
    by_cases f : 0 ≤ a2 ∧ a2 ≤ 800
    · rw [within_y f, bd_e, if_neg no10] at e1
      rw [isIn_y f, bd_e, if_neg no10] at e2
      obtain ⟨P, P1, P2, eP⟩ := nat_of (rng_of (x := 0) (y := 800) rfl rfl f) (by decide)
      subst eP
      obtain ⟨gc, gm, q1, q2, q3, q4, q5⟩ := spr_eq t rn i xx 1 (u := u) (s0 := s) t4 hx
      obtain ⟨c, c1, c2⟩ := cw_go h12 q4 (P := P) (by omega) q5 hx FU 0 0 (by unfold FU; omega) (Nat.zero_le _)
      rw [nI_0] at c1 c2
      have cw : mT_countWithin (gc 1 1) (nI x) (nI P) gc = some c := by
        unfold mT_countWithin
        rw [q3, t4.1.1.2.1]
        exact c1
      rw [q1, bd_e, cw, bd_e] at e1
      rw [q2, bd_e, c2] at e2
      cases e1
      cases e2
      rfl
    · rw [within_n f, bd_e, if_pos rfl] at e1
      rw [isIn_n f, bd_e, if_pos rfl] at e2
      cases e1
      cases e2
      rfl
  · rw [hh, bd_e, if_pos rfl] at e1 e2
    cases e1
    cases e2
    rfl
end
section
/-! WHO IS NEXT, told in range: kept by every call -/
theorem rn_fr {h g : PH} (e : ∀ x, x = 14 ∨ x = 15 ∨ x = 48 ∨ x = 49 → g x = h x) (r : RNX h) : RNX g := by
  obtain ⟨⟨m, m1, m2, m3⟩, ⟨n, n1, n2, n3⟩⟩ := r
  refine ⟨⟨m, m1, by rw [e 14 (by omega)]; exact m2, fun q hq => ?_⟩, ⟨n, n1, by rw [e 48 (by omega)]; exact n2, fun q hq => ?_⟩⟩
  · rw [show (14 : Nat) + 1 = 15 from rfl, e 15 (by omega)]; exact m3 q hq
  · rw [show (48 : Nat) + 1 = 49 from rfl, e 49 (by omega)]; exact n3 q hq
theorem rn_cs {S : List Nat} {h h1 h2 : PH} (f1 : Fr S h1 h) (n : 14 ∉ S ∧ 15 ∉ S ∧ 48 ∉ S ∧ 49 ∉ S) (cs : CS h h1 h2) (r : RNX h) : RNX h2 := rn_fr (fun x hx => by
  rw [cs.2.2.2.2 x (by omega)]
  rcases hx with z | z | z | z <;> subst z
  · exact f1 14 n.1
  · exact f1 15 n.2.1
  · exact f1 48 n.2.2.1
  · exact f1 49 n.2.2.2) r
theorem rn_p {h h2 : PH} (cs : CS h h h2) (r : RNX h) : RNX h2 := rn_fr (fun x hx => cs.2.2.2.2 x (by omega)) r
theorem rn_first : RNX hI := ⟨⟨0, by decide, rfl, fun r hr => absurd hr (Nat.not_lt_zero r)⟩, ⟨0, by decide, rfl, fun r hr => absurd hr (Nat.not_lt_zero r)⟩⟩
theorem rn_image (a1 : Int32) (h : PH) (i : IM h) (rl : RLA h) (r : RNX h) {rX : Int32} {h1 h2 : PH} (e1 : mX_image (if a1 = 0 then 0 else 1) h = some (rX, h1)) (cs : CS h h1 h2) : RNX h2 := by
  have ss := cs.2.2.2.2
  obtain ⟨⟨m, m1, m2, m3⟩, ⟨n, n1, n2, n3⟩⟩ := id r
  by_cases c : a1 = 0
  · rw [if_pos c] at e1
    by_cases cz : h 0 13 = 0
    · unfold mX_image at e1
      rw [if_pos rfl, if_pos cz] at e1
      cases e1
      exact rn_fr (fun x hx => ss x (by omega)) r
    · obtain ⟨g, eg, w, d1, d2, t7, -, z70⟩ := xi_back h i.1 cz
      rw [eg] at e1
      cases e1
      obtain ⟨w1, w2⟩ := w 4 (by decide)
      have w1 : h1 14 3 = h 48 3 := w1
      have w2 : ∀ j, j < (h 48 3).toNatClampNeg * 5 → h1 15 j = h 49 j := w2
      rw [n2, clm (by omega)] at w2
      refine ⟨⟨n, n1, by rw [ss 14 (by decide), w1]; exact n2, fun q hq => ?_⟩, ⟨n, n1, by rw [ss 48 (by decide), t7 48 (by decide) (by decide)]; exact n2, fun q hq => ?_⟩⟩
      · rw [show (14 : Nat) + 1 = 15 from rfl, ss 15 (by decide), w2 _ (by omega), w2 _ (by omega)]
        exact n3 q hq
      · rw [show (48 : Nat) + 1 = 49 from rfl, ss 49 (by decide), t7 49 (by decide) (by decide)]
        exact n3 q hq
  · rw [if_neg c] at e1
    obtain ⟨g, eg, w, d1, d2, t7, -⟩ := xi_take 1 (by decide) h i.1
    rw [eg] at e1
    cases e1
    obtain ⟨w1, w2⟩ := w 4 (by decide)
    have w1 : h1 48 3 = h 14 3 := w1
    have w2 : ∀ j, j < (h 14 3).toNatClampNeg * 5 → h1 49 j = h 15 j := w2
    rw [m2, clm (by omega)] at w2
    refine ⟨⟨m, m1, by rw [ss 14 (by decide), t7 14 (by decide) (by decide)]; exact m2, fun q hq => ?_⟩, ⟨m, m1, by rw [ss 48 (by decide), w1]; exact m2, fun q hq => ?_⟩⟩
    · rw [show (14 : Nat) + 1 = 15 from rfl, ss 15 (by decide), t7 15 (by decide) (by decide)]
      exact m3 q hq
    · rw [show (48 : Nat) + 1 = 49 from rfl, ss 49 (by decide), w2 _ (by omega), w2 _ (by omega)]
      exact m3 q hq
theorem rn_text (k : Nat) (a1 : Int32) (h : PH) (i : IM h) (rl : RLA h) (rx : RTX h) (t : TWN k h) (rn : RNX h) {rX rm : Int32} {h1 h2 : PH} (e1 : mX_text a1 h = some (rX, h1)) (e2 : mm_text a1 h1 = some (rm, h2)) (cs : CS h h1 h2) : RNX h2 := by
  have x104 := cs.2.2.2.1
  have ss := cs.2.2.2.2
  obtain ⟨t1, t2, t3, ⟨H, N, M, u, s0, Ls, t4, t5⟩, t6⟩ := id t
  have h12 : H ≤ 12 := t4.1.1.1
  have eH1 : h 1 1 = nI H := t4.1.1.2.1
  have eH6 : h 104 6 = nI H := t4.1.1.2.2.1
  have rw0 := rows_t i.1
  have fX := fpX_text a1 h e1
  have c48 : h1 48 = h 48 := fX 48 (show 48 ∉ FPdX_text a1 from (by decide : 48 ∉ FPdX_text 0))
  have c49 : h1 49 = h 49 := fX 49 (show 49 ∉ FPdX_text a1 from (by decide : 49 ∉ FPdX_text 0))
  have old : h1 14 = h 14 → h1 15 = h 15 → RNX h2 := fun y1 y2 => rn_fr (fun x hx => by
    rw [ss x (by omega)]
    rcases hx with z | z | z | z <;> subst z
    · exact y1
    · exact y2
    · exact c48
    · exact c49) rn
  unfold mX_text at e1
  unfold mm_text at e2
  rw [show mD_forgetFault h = some (up (up h 90 2 0) 90 3 (-1)) from rfl, bd_e] at e1
  rw [lt_e, lt_e, lt_e, lt_e, lt_e, lt_e] at e2
  have hF : ∀ b, b ≠ 90 → up (up h 90 2 0) 90 3 (-1) b = h b := fun b hb => by rw [up_cell hb, up_cell hb]
  have F2 : up (up h 90 2 0) 90 3 (-1) 90 2 = 0 := by rw [up_oj (by decide), up_same]
  have F3 : up (up h 90 2 0) 90 3 (-1) 90 3 = -1 := up_same
  have iF : Inv (up (up h 90 2 0) 90 3 (-1)) := inv_put (inv_put i.1 (show sp 90 2 = (-2147483648, 2147483647) from rfl) (r_full _)) (show sp 90 3 = (-2147483648, 2147483647) from rfl) (r_full _)
  generalize up (up h 90 2 0) 90 3 (-1) = hf at e1 hF F2 F3 iF
  have hM : ∀ b, b ≠ 104 → up (up (up (up (up (up h1 104 0 0) 104 31 0) 104 32 (-1)) 104 12 0) 104 25 0) 104 26 0 b = h1 b := fun b hb => by rw [up_cell hb, up_cell hb, up_cell hb, up_cell hb, up_cell hb, up_cell hb]
  have hM4 : ∀ j, j ≠ 0 → j ≠ 31 → j ≠ 32 → j ≠ 12 → j ≠ 25 → j ≠ 26 → up (up (up (up (up (up h1 104 0 0) 104 31 0) 104 32 (-1)) 104 12 0) 104 25 0) 104 26 0 104 j = h 104 j := fun j j0 j1 j2 j3 j4 j5 => by rw [up_oj j5, up_oj j4, up_oj j3, up_oj j2, up_oj j1, up_oj j0, x104 104 (by decide)]
  have M12 : up (up (up (up (up (up h1 104 0 0) 104 31 0) 104 32 (-1)) 104 12 0) 104 25 0) 104 26 0 104 12 = 0 := by rw [up_oj (by decide), up_oj (by decide), up_same]
  have M25 : up (up (up (up (up (up h1 104 0 0) 104 31 0) 104 32 (-1)) 104 12 0) 104 25 0) 104 26 0 104 25 = 0 := by rw [up_oj (by decide), up_same]
  have M26 : up (up (up (up (up (up h1 104 0 0) 104 31 0) 104 32 (-1)) 104 12 0) 104 25 0) 104 26 0 104 26 = 0 := up_same
  generalize up (up (up (up (up (up h1 104 0 0) 104 31 0) 104 32 (-1)) 104 12 0) 104 25 0) 104 26 0 = hm at e2 hM hM4 M12 M25 M26
  by_cases f : 0 ≤ a1 ∧ a1 ≤ 3
  · obtain ⟨s, s1, s2, es⟩ := nat_of (rng_of (x := 0) (y := 3) rfl rfl f) (by decide)
    have hs4 : s < 4 := by omega
    obtain ⟨L, L1, L2, eL⟩ := nat_of (show R 0 400 (h 85 4) from inv_rng i.1 rfl) (by decide)
    have e11 : h 104 11 = nI L := by rw [← rl.2.2.2]; exact eL
    have bt : ∀ j, j < L → (h 86 j &&& 255) = nI ((h 111 j).toInt.toNat) ∧ h 111 j = nI ((h 111 j).toInt.toNat) ∧ (h 111 j).toInt.toNat < 256 := fun j hj => by
      obtain ⟨b1, b2⟩ := rx.1 j (by rw [e11, nI_toInt L2]; omega)
      obtain ⟨w, w1, w2, ew⟩ := nat_of b2 (by decide)
      rw [b1, ew, nI_toInt w2, Int.toNat_natCast]
      exact ⟨rfl, rfl, by omega⟩
    have tc : TC (fun j => (h 111 j).toInt.toNat) L hf := ⟨by omega, by rw [hF 85 (by decide)]; exact eL, fun j hj => by rw [hF 86 (by decide)]; exact ⟨(bt j hj).1, (bt j hj).2.2⟩⟩
    have tm : TM (fun j => (h 111 j).toInt.toNat) L hm := ⟨by omega, by rw [hM4 11 (by decide) (by decide) (by decide) (by decide) (by decide) (by decide)]; exact e11, fun j hj => by rw [hM 111 (by decide), x104 111 (by decide)]; exact ⟨(bt j hj).2.1, (bt j hj).2.2⟩, fun j hj => by rw [hM 112 (by decide), x104 112 (by decide)]; exact wd_ch i j hj⟩
    have e1H : hf 1 1 = nI H := by rw [hF 1 (by decide)]; exact eH1
    have tx := tx_rows (s := s) (H := H) hs4 tc iF F2 F3 tm M12 M25 M26 h12 (by rw [hM4 6 (by decide) (by decide) (by decide) (by decide) (by decide) (by decide)]; exact eH6)
    rw [within_y f, bd_e, jn2_e, if_neg no10, e1H, es] at e1
    rw [isIn_y f, bd_e, jn2_e, if_neg no10, es] at e2
    have rdC : ∀ {x : Int32} {g : PH}, mD_reads (nI s) (nI H) hf = some (x, g) → ∀ b, b < 85 → g b = h b := fun {x g} e b hb => by
      have := fpD_reads (nI s) (nI H) hf e b (by
        unfold FPdD_reads
        simp only [List.mem_cons, List.not_mem_nil, or_false]
        omega)
      have this : g b = hf b := this
      rw [this, hF b (by omega)]
    rcases tx with ⟨r, gc, gm, r1, r2, r3, cr, q⟩ | ⟨gc, gm, r2, r3⟩
    · have gC := rdC r2
      rw [r2, bd2_e, if_neg no10] at e1
      change (lt (up gc 85 4 0) fun h6 => if (1 : Int32) = 0 then some (-1, h6) else bd2 (mX_keepText (nI s) h6) fun r7 h8 => some (r7, h8)) = some (rX, h1) at e1
      rw [lt_e, if_neg no10] at e1
      have hC : ∀ b, b ≠ 85 → up gc 85 4 0 b = gc b := fun b hb => up_cell hb
      rcases s4 hs4 with e | e | e | e
      · subst e
        obtain ⟨y, g, k1, k2⟩ := bd2_s e1
        cases k2
        unfold mX_keepText at k1
        rw [if_pos (show nI 0 = (0 : Int32) from rfl)] at k1
        obtain ⟨g1, q1, k1⟩ := bd_s k1
        obtain ⟨g2, q2, k1⟩ := bd_s k1
        cases k1
        exact old (by rw [fpR_copyFrom 8 93 g1 q2 14 (by decide), fpR_copyFrom 6 91 _ q1 14 (by decide), hC 14 (by decide), gC 14 (by decide)]) (by rw [fpR_copyFrom 8 93 g1 q2 15 (by decide), fpR_copyFrom 6 91 _ q1 15 (by decide), hC 15 (by decide), gC 15 (by decide)])
      · subst e
        obtain ⟨y, g, k1, k2⟩ := bd2_s e1
        cases k2
        unfold mX_keepText at k1
        rw [if_neg (show ¬ nI 1 = (0 : Int32) by decide), if_pos (show nI 1 = (1 : Int32) from rfl)] at k1
        obtain ⟨g1, q1, k1⟩ := bd_s k1
        obtain ⟨g2, q2, k1⟩ := bd_s k1
        cases k1
        exact old (by rw [fpP_forget g1 q2 14 (by decide), fpR_copyFrom 10 91 _ q1 14 (by decide), hC 14 (by decide), gC 14 (by decide)]) (by rw [fpP_forget g1 q2 15 (by decide), fpR_copyFrom 10 91 _ q1 15 (by decide), hC 15 (by decide), gC 15 (by decide)])
      · subst e
        obtain ⟨y, g, k1, k2⟩ := bd2_s e1
        cases k2
        unfold mX_keepText at k1
        rw [if_neg (show ¬ nI 2 = (0 : Int32) by decide), if_neg (show ¬ nI 2 = (1 : Int32) by decide), if_pos (show nI 2 = (2 : Int32) from rfl)] at k1
        obtain ⟨g1, q1, k1⟩ := bd_s k1
        obtain ⟨g2, q2, k1⟩ := bd_s k1
        cases k1
        exact old (by rw [fpP_forget g1 q2 14 (by decide), fpR_copyFrom 12 91 _ q1 14 (by decide), hC 14 (by decide), gC 14 (by decide)]) (by rw [fpP_forget g1 q2 15 (by decide), fpR_copyFrom 12 91 _ q1 15 (by decide), hC 15 (by decide), gC 15 (by decide)])
      · subst e
        have sr := (q.2.2.2 rfl).2
        have c91 : up gc 85 4 0 91 1 = nI 5 ∧ up gc 85 4 0 91 3 = nI r := by rw [hC 91 (by decide)]; exact ⟨cr.2.1, cr.2.2⟩
        have w14 : up gc 85 4 0 14 1 = nI 5 := by rw [hC 14 (by decide), gC 14 (by decide)]; exact (rw0.1 4 (by decide)).1
        obtain ⟨g1, p1, p2⟩ := cp_d 14 91 r 5 (by decide) (by show r * 5 ≤ 80; omega) (by show r * 5 ≤ 80; omega) (by decide) (h := up gc 85 4 0) (by omega) c91.2 c91.1 w14
        unfold mX_keepText at e1
        rw [if_neg (show ¬ nI 3 = (0 : Int32) by decide), if_neg (show ¬ nI 3 = (1 : Int32) by decide), if_neg (show ¬ nI 3 = (2 : Int32) by decide), p1, bd_e, bd2_e] at e1
        have eh := (Prod.mk.inj (Option.some.inj e1)).2
        have c3 : (up gc 85 4 0 91 3).toNatClampNeg = r := by rw [c91.2]; exact clm (by omega)
        have wd : ∀ j, j < r * 5 → h2 15 j = gc 92 j := fun j hj => by
          rw [ss 15 (by decide), ← eh]
          have := p2.2.2.2 j (by rw [c3]; exact hj)
          rw [show (14 : Nat) + 1 = 15 from rfl, show (91 : Nat) + 1 = 92 from rfl, hC 92 (by decide)] at this
          exact this
        refine ⟨⟨r, r1, by rw [ss 14 (by decide), ← eh, p2.2.1]; exact c91.2, fun q' hq => ?_⟩, ?_⟩
        · rw [show (14 : Nat) + 1 = 15 from rfl, wd _ (by omega), wd _ (by omega)]
          exact sr q' hq
        · obtain ⟨n, n1, n2, n3⟩ := rn.2
          refine ⟨n, n1, by rw [ss 48 (by decide), c48]; exact n2, fun q' hq => ?_⟩
          rw [show (48 : Nat) + 1 = 49 from rfl, ss 49 (by decide), c49]
          exact n3 q' hq
    · have gC := rdC r2
      rw [r2, bd2_e, if_pos rfl] at e1
      change (lt (up gc 85 4 0) fun h6 => if (0 : Int32) = 0 then some (-1, h6) else bd2 (mX_keepText (nI s) h6) fun r7 h8 => some (r7, h8)) = some (rX, h1) at e1
      rw [lt_e, if_pos rfl] at e1
      have eh := (Prod.mk.inj (Option.some.inj e1)).2
      exact old (by rw [← eh, up_cell (by decide)]; exact gC 14 (by decide)) (by rw [← eh, up_cell (by decide)]; exact gC 15 (by decide))
  · rw [within_n f, bd_e, jn2_e, if_pos rfl] at e1
    change (lt (up hf 85 4 0) fun h6 => if (0 : Int32) = 0 then some (-1, h6) else bd2 (mX_keepText a1 h6) fun r7 h8 => some (r7, h8)) = some (rX, h1) at e1
    rw [lt_e, if_pos rfl] at e1
    have eh := (Prod.mk.inj (Option.some.inj e1)).2
    exact old (by rw [← eh, up_cell (by decide)]; exact hF 14 (by decide)) (by rw [← eh, up_cell (by decide)]; exact hF 15 (by decide))
end
section
/-! THE STEP of this claim's law -/
def II (k : Nat) (h : PH) : Prop := IM h ∧ GI h ∧ RLA h ∧ RLH h ∧ RTX h ∧ TWN k h ∧ RNX h
theorem st_state (k : Nat) (a1 : Int32) (h : PH) (ii : II k h) (hk : k < 512) : ∃ h2, pc_state a1 h = some h2 ∧ II (k + 1) h2 := by
  obtain ⟨rX, h1, rm, h2, e1, e2, cs, rl, ag⟩ := rl_state a1 h ii.1 ii.2.1 ii.2.2.1
  refine ⟨h2, ?_, cs.1, cs.2.1, rl, rh_state a1 h ii.1 ii.2.2.2.1 e1 e2 cs, rx_state a1 h ii.2.2.2.2.1 e1 e2, (tw_state k a1 h ii.1 ii.2.2.2.2.2.1 hk e1 e2 cs).1, rn_cs (fpX_state a1 h e1) (by decide : 14 ∉ FPdX_state 0 ∧ 15 ∉ FPdX_state 0 ∧ 48 ∉ FPdX_state 0 ∧ 49 ∉ FPdX_state 0) cs ii.2.2.2.2.2.2⟩
  unfold pc_state
  rw [e1, bd2_e, e2, bd2_e]
theorem st_house (k : Nat) (a1 a2 a3 : Int32) (h : PH) (ii : II k h) (hk : k < 512) : ∃ h2, pc_house a1 a2 a3 h = some h2 ∧ II (k + 1) h2 := by
  obtain ⟨rX, h1, rm, h2, e1, e2, cs, rl, ag⟩ := rl_house a1 a2 a3 h ii.1 ii.2.1 ii.2.2.1
  refine ⟨h2, ?_, cs.1, cs.2.1, rl, rh_house a1 a2 a3 h ii.1 ii.2.2.2.1 e1 e2 cs, rx_house a1 a2 a3 h ii.2.2.2.2.1 e1 e2, tw_house k a1 a2 a3 h ii.1 ii.2.2.2.2.2.1 hk e1 e2 cs, rn_cs (fpX_house a1 a2 a3 h e1) (by decide : 14 ∉ FPdX_house 0 0 0 ∧ 15 ∉ FPdX_house 0 0 0 ∧ 48 ∉ FPdX_house 0 0 0 ∧ 49 ∉ FPdX_house 0 0 0) cs ii.2.2.2.2.2.2⟩
  unfold pc_house
  rw [e1, bd2_e, e2, bd2_e]
theorem st_set (k : Nat) (a1 a2 a3 : Int32) (h : PH) (ii : II k h) (hk : k < 512) : ∃ h2, pc_set a1 a2 a3 h = some h2 ∧ II (k + 1) h2 := by
  obtain ⟨rX, h1, rm, h2, e1, e2, cs, rl, ag⟩ := rl_set a1 a2 a3 h ii.1 ii.2.1 ii.2.2.1
  refine ⟨h2, ?_, cs.1, cs.2.1, rl, rh_set a1 a2 a3 h ii.1 ii.2.2.2.1 e1 e2 cs, rx_set a1 a2 a3 h ii.2.2.2.2.1 e1 e2, tw_set k a1 a2 a3 h ii.1 ii.2.2.2.2.2.1 hk e1 e2 cs, rn_cs (fpX_set a1 a2 a3 h e1) (by decide : 14 ∉ FPdX_set 0 0 0 ∧ 15 ∉ FPdX_set 0 0 0 ∧ 48 ∉ FPdX_set 0 0 0 ∧ 49 ∉ FPdX_set 0 0 0) cs ii.2.2.2.2.2.2⟩
  unfold pc_set
  rw [e1, bd2_e, e2, bd2_e]
theorem st_act (k : Nat) (a1 a2 a3 : Int32) (h : PH) (ii : II k h) (hk : k < 512) : ∃ h2, pc_act a1 a2 a3 h = some h2 ∧ II (k + 1) h2 := by
  obtain ⟨rX, h1, rm, h2, e1, e2, cs, rl, ag⟩ := rl_act a1 a2 a3 h ii.1 ii.2.1 ii.2.2.1
  refine ⟨h2, ?_, cs.1, cs.2.1, rl, rh_act a1 a2 a3 h ii.1 ii.2.2.2.1 e1 e2 cs, rx_act a1 a2 a3 h ii.2.2.2.2.1 e1 e2, (tw_act k a1 a2 a3 h ii.1 ii.2.2.2.2.2.1 hk e1 e2 cs).1, rn_cs (fpX_act a1 a2 a3 h e1) (by decide : 14 ∉ FPdX_act 0 0 0 ∧ 15 ∉ FPdX_act 0 0 0 ∧ 48 ∉ FPdX_act 0 0 0 ∧ 49 ∉ FPdX_act 0 0 0) cs ii.2.2.2.2.2.2⟩
  unfold pc_act
  rw [e1, bd2_e, e2, bd2_e]
theorem st_quarters (k : Nat) (a1 : Int32) (h : PH) (ii : II k h) (hk : k < 512) : ∃ h2, pc_quarters a1 h = some h2 ∧ II (k + 1) h2 := by
  obtain ⟨rX, h1, rm, h2, e1, e2, cs, rl, ag⟩ := rl_quarters a1 h ii.1 ii.2.1 ii.2.2.1
  refine ⟨h2, ?_, cs.1, cs.2.1, rl, rh_quarters a1 h ii.1 ii.2.2.2.1 e1 e2 cs, rx_quarters a1 h ii.2.2.2.2.1 e1 e2, (tw_quarters k a1 h ii.1 ii.2.2.2.2.2.1 hk e1 e2 cs).1, rn_cs (fpX_quarters a1 h e1) (by decide : 14 ∉ FPdX_quarters 0 ∧ 15 ∉ FPdX_quarters 0 ∧ 48 ∉ FPdX_quarters 0 ∧ 49 ∉ FPdX_quarters 0) cs ii.2.2.2.2.2.2⟩
  unfold pc_quarters
  rw [e1, bd2_e, e2, bd2_e]
theorem st_feed (k : Nat) (a1 a2 a3 a4 a5 : Int32) (h : PH) (ii : II k h) (hk : k < 512) : ∃ h2, pc_feed a1 a2 a3 a4 a5 h = some h2 ∧ II (k + 1) h2 := by
  obtain ⟨rX, h1, rm, h2, e1, e2, cs, rl, ag⟩ := rl_feed a1 a2 a3 a4 a5 h ii.1 ii.2.1 ii.2.2.1
  refine ⟨h2, ?_, cs.1, cs.2.1, rl, rh_feed a1 a2 a3 a4 a5 h ii.2.2.2.1 e1 e2, rx_feed a1 a2 a3 a4 a5 h ii.1 ii.2.2.1 ii.2.2.2.2.1 e1 e2 cs, tw_feed k a1 a2 a3 a4 a5 h ii.2.2.2.2.2.1 hk e1 e2, rn_cs (fpX_feed a1 a2 a3 a4 a5 h e1) (by decide : 14 ∉ FPdX_feed 0 0 0 0 0 ∧ 15 ∉ FPdX_feed 0 0 0 0 0 ∧ 48 ∉ FPdX_feed 0 0 0 0 0 ∧ 49 ∉ FPdX_feed 0 0 0 0 0) cs ii.2.2.2.2.2.2⟩
  unfold pc_feed
  rw [e1, bd2_e, e2, bd2_e]
theorem st_end (k : Nat) (a1 : Int32) (h : PH) (ii : II k h) (hk : k < 512) : ∃ h2, pc_end a1 h = some h2 ∧ II (k + 1) h2 := by
  obtain ⟨rX, h1, rm, h2, e1, e2, cs, rl, ag⟩ := rl_end a1 h ii.1 ii.2.1 ii.2.2.1
  refine ⟨h2, ?_, cs.1, cs.2.1, rl, rh_end a1 h ii.2.2.2.1 e1 e2, rx_end a1 h ii.1 ii.2.2.2.2.1 e1 e2 cs, tw_end k a1 h ii.2.2.2.2.2.1 hk e1 e2, rn_cs (fpX_end a1 h e1) (by decide : 14 ∉ FPdX_end 0 ∧ 15 ∉ FPdX_end 0 ∧ 48 ∉ FPdX_end 0 ∧ 49 ∉ FPdX_end 0) cs ii.2.2.2.2.2.2⟩
  unfold pc_end
  rw [e1, bd2_e, e2, bd2_e]
theorem st_text (k : Nat) (a1 : Int32) (h : PH) (ii : II k h) (hk : k < 512) : ∃ h2, pc_text a1 h = some h2 ∧ II (k + 1) h2 := by
  obtain ⟨rX, h1, rm, h2, e1, e2, cs, rl, ag⟩ := rl_text a1 h ii.1 ii.2.1 ii.2.2.1
  refine ⟨h2, ?_, cs.1, cs.2.1, rl, rh_text a1 h ii.1 ii.2.2.2.1 e1 e2 cs, (ag_text a1 h ii.1 ii.2.2.1 ii.2.2.2.1 ii.2.2.2.2.1 e1 e2 cs).2, tw_text k a1 h ii.1 ii.2.2.1 ii.2.2.2.2.1 ii.2.2.2.2.2.1 hk e1 e2 cs, rn_text k a1 h ii.1 ii.2.2.1 ii.2.2.2.2.1 ii.2.2.2.2.2.1 ii.2.2.2.2.2.2 e1 e2 cs⟩
  unfold pc_text
  rw [e1, bd2_e, e2, bd2_e]
theorem st_fault (k : Nat) (a1 : Int32) (h : PH) (ii : II k h) (hk : k < 512) : ∃ h2, pc_fault a1 h = some h2 ∧ II (k + 1) h2 := by
  obtain ⟨rX, rm, h2, e1, e2, cs, rl, ag⟩ := rl_fault a1 h ii.1 ii.2.1 ii.2.2.1
  refine ⟨h2, ?_, cs.1, cs.2.1, rl, rh_fault a1 h ii.2.2.2.1 e2, rx_fault a1 h ii.2.2.2.2.1 e2, tw_fault k a1 h ii.2.2.2.2.2.1 hk e2, rn_p cs ii.2.2.2.2.2.2⟩
  unfold pc_fault
  rw [e1, bd_e, e2, bd2_e]
theorem st_of (k : Nat) (a1 a2 : Int32) (h : PH) (ii : II k h) (hk : k < 512) : ∃ h2, pc_of a1 a2 h = some h2 ∧ II (k + 1) h2 := by
  obtain ⟨rX, h1, rm, h2, e1, e2, cs, rl, ag⟩ := rl_of a1 a2 h ii.1 ii.2.1 ii.2.2.1
  refine ⟨h2, ?_, cs.1, cs.2.1, rl, rh_of a1 a2 h ii.2.2.2.1 e1 e2, rx_of a1 a2 h ii.2.2.2.2.1 e1 e2, tw_of k a1 a2 h ii.2.2.2.2.2.1 hk e1 e2, rn_cs (fpX_of a1 a2 h e1) (by decide : 14 ∉ FPdX_of 0 0 ∧ 15 ∉ FPdX_of 0 0 ∧ 48 ∉ FPdX_of 0 0 ∧ 49 ∉ FPdX_of 0 0) cs ii.2.2.2.2.2.2⟩
  unfold pc_of
  rw [e1, bd2_e, e2, bd2_e]
theorem st_book (k : Nat) (a1 a2 : Int32) (h : PH) (ii : II k h) (hk : k < 512) : ∃ h2, pc_book a1 a2 h = some h2 ∧ II (k + 1) h2 := by
  obtain ⟨rX, rm, h2, e1, e2, cs, rl, ag⟩ := rl_book a1 a2 h ii.1 ii.2.1 ii.2.2.1
  refine ⟨h2, ?_, cs.1, cs.2.1, rl, rh_book a1 a2 h ii.2.2.2.1 e2, rx_book a1 a2 h ii.2.2.2.2.1 e2, tw_book k a1 a2 h ii.2.2.2.2.2.1 hk e2, rn_p cs ii.2.2.2.2.2.2⟩
  unfold pc_book
  rw [e1, bd_e, e2, bd2_e]
theorem st_goes (k : Nat) (a1 a2 : Int32) (h : PH) (ii : II k h) (hk : k < 512) : ∃ h2, pc_goes a1 a2 h = some h2 ∧ II (k + 1) h2 := by
  obtain ⟨rX, h1, rm, h2, e1, e2, cs, rl, ag⟩ := rl_goes a1 a2 h ii.1 ii.2.1 ii.2.2.1
  refine ⟨h2, ?_, cs.1, cs.2.1, rl, rh_goes a1 a2 h ii.2.2.2.1 e1 e2, rx_goes a1 a2 h ii.2.2.2.2.1 e1 e2, tw_goes k a1 a2 h ii.2.2.2.2.2.1 hk e1 e2 cs, rn_cs (fpX_goes a1 a2 h e1) (by decide : 14 ∉ FPdX_goes 0 0 ∧ 15 ∉ FPdX_goes 0 0 ∧ 48 ∉ FPdX_goes 0 0 ∧ 49 ∉ FPdX_goes 0 0) cs ii.2.2.2.2.2.2⟩
  unfold pc_goes
  rw [e1, bd2_e, e2, bd2_e]
theorem st_stands (k : Nat) (a1 : Int32) (h : PH) (ii : II k h) (hk : k < 512) : ∃ h2, pc_stands a1 h = some h2 ∧ II (k + 1) h2 := by
  obtain ⟨rX, h1, rm, h2, e1, e2, cs, rl, ag⟩ := rl_stands a1 h ii.1 ii.2.1 ii.2.2.1
  refine ⟨h2, ?_, cs.1, cs.2.1, rl, rh_stands a1 h ii.2.2.2.1 e1 e2, rx_stands a1 h ii.2.2.2.2.1 e1 e2, tw_stands k a1 h ii.2.2.2.2.2.1 hk e1 e2 cs, rn_cs (fpX_stands a1 h e1) (by decide : 14 ∉ FPdX_stands 0 ∧ 15 ∉ FPdX_stands 0 ∧ 48 ∉ FPdX_stands 0 ∧ 49 ∉ FPdX_stands 0) cs ii.2.2.2.2.2.2⟩
  unfold pc_stands
  rw [e1, bd2_e, e2, bd2_e]
theorem st_hears (k : Nat) (a1 a2 : Int32) (h : PH) (ii : II k h) (hk : k < 512) : ∃ h2, pc_hears a1 a2 h = some h2 ∧ II (k + 1) h2 := by
  obtain ⟨rX, h1, rm, h2, e1, e2, cs, rl, ag⟩ := rl_hears a1 a2 h ii.1 ii.2.1 ii.2.2.1
  refine ⟨h2, ?_, cs.1, cs.2.1, rl, rh_hears a1 a2 h ii.2.2.2.1 e1 e2, rx_hears a1 a2 h ii.2.2.2.2.1 e1 e2, tw_hears k a1 a2 h ii.2.2.2.2.2.1 hk e1 e2, rn_cs (fpX_hears a1 a2 h e1) (by decide : 14 ∉ FPdX_hears 0 0 ∧ 15 ∉ FPdX_hears 0 0 ∧ 48 ∉ FPdX_hears 0 0 ∧ 49 ∉ FPdX_hears 0 0) cs ii.2.2.2.2.2.2⟩
  unfold pc_hears
  rw [e1, bd2_e, e2, bd2_e]
theorem st_heard (k : Nat) (a1 a2 : Int32) (h : PH) (ii : II k h) (hk : k < 512) : ∃ h2, pc_heard a1 a2 h = some h2 ∧ II (k + 1) h2 := by
  obtain ⟨rX, h1, rm, h2, e1, e2, cs, rl, ag⟩ := rl_heard a1 a2 h ii.1 ii.2.1 ii.2.2.1
  refine ⟨h2, ?_, cs.1, cs.2.1, rl, rh_heard a1 a2 h ii.2.2.2.1 e1 e2, rx_heard a1 a2 h ii.2.2.2.2.1 e1 e2, tw_heard k a1 a2 h ii.2.2.2.2.2.1 hk e1 e2, rn_cs (fpX_heard a1 a2 h e1) (by decide : 14 ∉ FPdX_heard 0 0 ∧ 15 ∉ FPdX_heard 0 0 ∧ 48 ∉ FPdX_heard 0 0 ∧ 49 ∉ FPdX_heard 0 0) cs ii.2.2.2.2.2.2⟩
  unfold pc_heard
  rw [e1, bd2_e, e2, bd2_e]
theorem st_ants (k : Nat) (a1 a2 : Int32) (h : PH) (ii : II k h) (hk : k < 512) : ∃ h2, pc_ants a1 a2 h = some h2 ∧ II (k + 1) h2 := by
  obtain ⟨rX, h1, rm, h2, e1, e2, cs, rl, ag⟩ := rl_ants a1 a2 h ii.1 ii.2.1 ii.2.2.1
  refine ⟨h2, ?_, cs.1, cs.2.1, rl, rh_ants a1 a2 h ii.2.2.2.1 e1 e2, rx_ants a1 a2 h ii.2.2.2.2.1 e1 e2, tw_ants k a1 a2 h ii.2.2.2.2.2.1 hk e1 e2, rn_cs (fpX_ants a1 a2 h e1) (by decide : 14 ∉ FPdX_ants 0 0 ∧ 15 ∉ FPdX_ants 0 0 ∧ 48 ∉ FPdX_ants 0 0 ∧ 49 ∉ FPdX_ants 0 0) cs ii.2.2.2.2.2.2⟩
  unfold pc_ants
  rw [e1, bd2_e, e2, bd2_e, if_pos (ag_ants k a1 a2 h ii.2.2.2.2.2.1 ii.2.2.2.2.2.2 ii.1.1 e1 e2 cs)]
theorem st_piece (k : Nat) (a1 : Int32) (h : PH) (ii : II k h) (hk : k < 512) : ∃ h2, pc_piece a1 h = some h2 ∧ II (k + 1) h2 := by
  obtain ⟨rX, h1, rm, h2, e1, e2, cs, rl, ag⟩ := rl_piece a1 h ii.1 ii.2.1 ii.2.2.1
  refine ⟨h2, ?_, cs.1, cs.2.1, rl, rh_piece a1 h ii.2.2.2.1 e1 e2, rx_piece a1 h ii.2.2.2.2.1 e1 e2, tw_piece k a1 h ii.2.2.2.2.2.1 hk e1 e2, rn_cs (fpX_piece a1 h e1) (by decide : 14 ∉ FPdX_piece 0 ∧ 15 ∉ FPdX_piece 0 ∧ 48 ∉ FPdX_piece 0 ∧ 49 ∉ FPdX_piece 0) cs ii.2.2.2.2.2.2⟩
  unfold pc_piece
  rw [e1, bd2_e, e2, bd2_e]
theorem st_plate (k : Nat) (a1 a2 : Int32) (h : PH) (ii : II k h) (hk : k < 512) : ∃ h2, pc_plate a1 a2 h = some h2 ∧ II (k + 1) h2 := by
  obtain ⟨rX, rm, h2, e1, e2, cs, rl, ag⟩ := rl_plate a1 a2 h ii.1 ii.2.1 ii.2.2.1
  refine ⟨h2, ?_, cs.1, cs.2.1, rl, rh_plate a1 a2 h ii.2.2.2.1 e2, rx_plate a1 a2 h ii.2.2.2.2.1 e2, tw_plate k a1 a2 h ii.2.2.2.2.2.1 hk e2, rn_p cs ii.2.2.2.2.2.2⟩
  unfold pc_plate
  rw [e1, bd_e, e2, bd2_e]
theorem st_dough (k : Nat) (a1 : Int32) (h : PH) (ii : II k h) (hk : k < 512) : ∃ h2, pc_dough a1 h = some h2 ∧ II (k + 1) h2 := by
  obtain ⟨rX, h1, rm, h2, e1, e2, cs, rl, ag⟩ := rl_dough a1 h ii.1 ii.2.1 ii.2.2.1
  refine ⟨h2, ?_, cs.1, cs.2.1, rl, rh_dough a1 h ii.2.2.2.1 e1 e2, rx_dough a1 h ii.2.2.2.2.1 e1 e2, tw_dough k a1 h ii.2.2.2.2.2.1 hk e1 e2, rn_cs (fpX_dough a1 h e1) (by decide : 14 ∉ FPdX_dough 0 ∧ 15 ∉ FPdX_dough 0 ∧ 48 ∉ FPdX_dough 0 ∧ 49 ∉ FPdX_dough 0) cs ii.2.2.2.2.2.2⟩
  unfold pc_dough
  rw [e1, bd2_e, e2, bd2_e]
theorem st_pans (k : Nat) (a1 a2 : Int32) (h : PH) (ii : II k h) (hk : k < 512) : ∃ h2, pc_pans a1 a2 h = some h2 ∧ II (k + 1) h2 := by
  obtain ⟨rX, h1, rm, h2, e1, e2, cs, rl, ag⟩ := rl_pans a1 a2 h ii.1 ii.2.1 ii.2.2.1
  refine ⟨h2, ?_, cs.1, cs.2.1, rl, rh_pans a1 a2 h ii.2.2.2.1 e1 e2, rx_pans a1 a2 h ii.2.2.2.2.1 e1 e2, tw_pans k a1 a2 h ii.2.2.2.2.2.1 hk e1 e2, rn_cs (fpX_pans a1 a2 h e1) (by decide : 14 ∉ FPdX_pans 0 0 ∧ 15 ∉ FPdX_pans 0 0 ∧ 48 ∉ FPdX_pans 0 0 ∧ 49 ∉ FPdX_pans 0 0) cs ii.2.2.2.2.2.2⟩
  unfold pc_pans
  rw [e1, bd2_e, e2, bd2_e]
theorem st_mortgage (k : Nat) (a1 a2 a3 a4 : Int32) (h : PH) (ii : II k h) (hk : k < 512) : ∃ h2, pc_mortgage a1 a2 a3 a4 h = some h2 ∧ II (k + 1) h2 := by
  obtain ⟨rX, rm, h2, e1, e2, cs, rl, ag⟩ := rl_mortgage a1 a2 a3 a4 h ii.1 ii.2.1 ii.2.2.1
  refine ⟨h2, ?_, cs.1, cs.2.1, rl, rh_mortgage a1 a2 a3 a4 h ii.2.2.2.1 e2, rx_mortgage a1 a2 a3 a4 h ii.2.2.2.2.1 e2, tw_mortgage k a1 a2 a3 a4 h ii.2.2.2.2.2.1 hk e2, rn_p cs ii.2.2.2.2.2.2⟩
  unfold pc_mortgage
  rw [e1, bd_e, e2, bd2_e]
theorem st_mark (k : Nat) (a1 : Int32) (h : PH) (ii : II k h) (hk : k < 512) : ∃ h2, pc_mark a1 h = some h2 ∧ II (k + 1) h2 := by
  obtain ⟨rX, h1, rm, h2, e1, e2, cs, rl, ag⟩ := rl_mark a1 h ii.1 ii.2.1 ii.2.2.1
  refine ⟨h2, ?_, cs.1, cs.2.1, rl, rh_mark a1 h ii.2.2.2.1 e1 e2, rx_mark a1 h ii.2.2.2.2.1 e1 e2, tw_mark k a1 h ii.2.2.2.2.2.1 hk e1 e2, rn_cs (fpX_mark a1 h e1) (by decide : 14 ∉ FPdX_mark 0 ∧ 15 ∉ FPdX_mark 0 ∧ 48 ∉ FPdX_mark 0 ∧ 49 ∉ FPdX_mark 0) cs ii.2.2.2.2.2.2⟩
  unfold pc_mark
  rw [e1, bd2_e, e2, bd2_e]
theorem st_measures (k : Nat) (a1 : Int32) (h : PH) (ii : II k h) (hk : k < 512) : ∃ h2, pc_measures a1 h = some h2 ∧ II (k + 1) h2 := by
  obtain ⟨rX, rm, h2, e1, e2, cs, rl, ag⟩ := rl_measures a1 h ii.1 ii.2.1 ii.2.2.1
  refine ⟨h2, ?_, cs.1, cs.2.1, rl, rh_measures a1 h ii.2.2.2.1 e2, rx_measures a1 h ii.2.2.2.2.1 e2, tw_measures k a1 h ii.2.2.2.2.2.1 hk e2, rn_p cs ii.2.2.2.2.2.2⟩
  unfold pc_measures
  rw [e1, bd_e, e2, bd2_e]
theorem st_bite (k : Nat) (a1 a2 : Int32) (h : PH) (ii : II k h) (hk : k < 512) : ∃ h2, pc_bite a1 a2 h = some h2 ∧ II (k + 1) h2 := by
  obtain ⟨rX, h1, rm, h2, e1, e2, cs, rl, ag⟩ := rl_bite a1 a2 h ii.1 ii.2.1 ii.2.2.1
  refine ⟨h2, ?_, cs.1, cs.2.1, rl, rh_bite a1 a2 h ii.2.2.2.1 e1 e2, rx_bite a1 a2 h ii.2.2.2.2.1 e1 e2, tw_bite k a1 a2 h ii.2.2.2.2.2.1 hk e1 e2, rn_cs (fpX_bite a1 a2 h e1) (by decide : 14 ∉ FPdX_bite 0 0 ∧ 15 ∉ FPdX_bite 0 0 ∧ 48 ∉ FPdX_bite 0 0 ∧ 49 ∉ FPdX_bite 0 0) cs ii.2.2.2.2.2.2⟩
  unfold pc_bite
  rw [e1, bd2_e, e2, bd2_e]
theorem st_whose (k : Nat) (a1 a2 : Int32) (h : PH) (ii : II k h) (hk : k < 512) : ∃ h2, pc_whose a1 a2 h = some h2 ∧ II (k + 1) h2 := by
  obtain ⟨rX, rm, h2, e1, e2, cs, rl, ag⟩ := rl_whose a1 a2 h ii.1 ii.2.1 ii.2.2.1
  refine ⟨h2, ?_, cs.1, cs.2.1, rl, rh_whose a1 a2 h ii.2.2.2.1 e2, rx_whose a1 a2 h ii.2.2.2.2.1 e2, tw_whose k a1 a2 h ii.2.2.2.2.2.1 hk e2, rn_p cs ii.2.2.2.2.2.2⟩
  unfold pc_whose
  rw [e1, bd_e, e2, bd2_e]
theorem st_crumb (k : Nat) (a1 : Int32) (h : PH) (ii : II k h) (hk : k < 512) : ∃ h2, pc_crumb a1 h = some h2 ∧ II (k + 1) h2 := by
  obtain ⟨rX, h1, rm, h2, e1, e2, cs, rl, ag⟩ := rl_crumb a1 h ii.1 ii.2.1 ii.2.2.1
  refine ⟨h2, ?_, cs.1, cs.2.1, rl, rh_crumb a1 h ii.2.2.2.1 e1 e2, rx_crumb a1 h ii.2.2.2.2.1 e1 e2, tw_crumb k a1 h ii.2.2.2.2.2.1 hk e1 e2, rn_cs (fpX_crumb a1 h e1) (by decide : 14 ∉ FPdX_crumb 0 ∧ 15 ∉ FPdX_crumb 0 ∧ 48 ∉ FPdX_crumb 0 ∧ 49 ∉ FPdX_crumb 0) cs ii.2.2.2.2.2.2⟩
  unfold pc_crumb
  rw [e1, bd2_e, e2, bd2_e]
theorem st_crumbs (k : Nat) (a1 : Int32) (h : PH) (ii : II k h) (hk : k < 512) : ∃ h2, pc_crumbs a1 h = some h2 ∧ II (k + 1) h2 := by
  obtain ⟨rX, h1, rm, h2, e1, e2, cs, rl, ag⟩ := rl_crumbs a1 h ii.1 ii.2.1 ii.2.2.1
  refine ⟨h2, ?_, cs.1, cs.2.1, rl, rh_crumbs a1 h ii.2.2.2.1 e1 e2, rx_crumbs a1 h ii.2.2.2.2.1 e1 e2, tw_crumbs k a1 h ii.2.2.2.2.2.1 hk e1 e2, rn_cs (fpX_crumbs a1 h e1) (by decide : 14 ∉ FPdX_crumbs 0 ∧ 15 ∉ FPdX_crumbs 0 ∧ 48 ∉ FPdX_crumbs 0 ∧ 49 ∉ FPdX_crumbs 0) cs ii.2.2.2.2.2.2⟩
  unfold pc_crumbs
  rw [e1, bd2_e, e2, bd2_e]
theorem st_loaf (k : Nat) (a1 a2 : Int32) (h : PH) (ii : II k h) (hk : k < 512) : ∃ h2, pc_loaf a1 a2 h = some h2 ∧ II (k + 1) h2 := by
  obtain ⟨rX, h1, rm, h2, e1, e2, cs, rl, ag⟩ := rl_loaf a1 a2 h ii.1 ii.2.1 ii.2.2.1
  refine ⟨h2, ?_, cs.1, cs.2.1, rl, rh_loaf a1 a2 h ii.2.2.2.1 e1 e2, rx_loaf a1 a2 h ii.2.2.2.2.1 e1 e2, tw_loaf k a1 a2 h ii.2.2.2.2.2.1 hk e1 e2, rn_cs (fpX_loaf a1 a2 h e1) (by decide : 14 ∉ FPdX_loaf 0 0 ∧ 15 ∉ FPdX_loaf 0 0 ∧ 48 ∉ FPdX_loaf 0 0 ∧ 49 ∉ FPdX_loaf 0 0) cs ii.2.2.2.2.2.2⟩
  unfold pc_loaf
  rw [e1, bd2_e, e2, bd2_e]
theorem st_ovens (k : Nat) (a1 : Int32) (h : PH) (ii : II k h) (hk : k < 512) : ∃ h2, pc_ovens a1 h = some h2 ∧ II (k + 1) h2 := by
  obtain ⟨rX, rm, h2, e1, e2, cs, rl, ag⟩ := rl_ovens a1 h ii.1 ii.2.1 ii.2.2.1
  refine ⟨h2, ?_, cs.1, cs.2.1, rl, rh_ovens a1 h ii.2.2.2.1 e2, rx_ovens a1 h ii.2.2.2.2.1 e2, tw_ovens k a1 h ii.2.2.2.2.2.1 hk e2, rn_p cs ii.2.2.2.2.2.2⟩
  unfold pc_ovens
  rw [e1, bd_e, e2, bd2_e]
theorem st_alone (k : Nat) (a1 : Int32) (h : PH) (ii : II k h) (hk : k < 512) : ∃ h2, pc_alone a1 h = some h2 ∧ II (k + 1) h2 := by
  obtain ⟨rX, h1, rm, h2, e1, e2, cs, rl, ag⟩ := rl_alone a1 h ii.1 ii.2.1 ii.2.2.1
  refine ⟨h2, ?_, cs.1, cs.2.1, rl, rh_alone a1 h ii.2.2.2.1 e1 e2, rx_alone a1 h ii.2.2.2.2.1 e1 e2, tw_alone k a1 h ii.2.2.2.2.2.1 hk e1 e2, rn_cs (fpX_alone a1 h e1) (by decide : 14 ∉ FPdX_alone 0 ∧ 15 ∉ FPdX_alone 0 ∧ 48 ∉ FPdX_alone 0 ∧ 49 ∉ FPdX_alone 0) cs ii.2.2.2.2.2.2⟩
  unfold pc_alone
  rw [e1, bd2_e, e2, bd2_e]
theorem st_heir (k : Nat) (a1 a2 : Int32) (h : PH) (ii : II k h) (hk : k < 512) : ∃ h2, pc_heir a1 a2 h = some h2 ∧ II (k + 1) h2 := by
  obtain ⟨rX, h1, rm, h2, e1, e2, cs, rl, ag⟩ := rl_heir a1 a2 h ii.1 ii.2.1 ii.2.2.1
  refine ⟨h2, ?_, cs.1, cs.2.1, rl, rh_heir a1 a2 h ii.2.2.2.1 e1 e2, rx_heir a1 a2 h ii.2.2.2.2.1 e1 e2, tw_heir k a1 a2 h ii.2.2.2.2.2.1 hk e1 e2, rn_cs (fpX_heir a1 a2 h e1) (by decide : 14 ∉ FPdX_heir 0 0 ∧ 15 ∉ FPdX_heir 0 0 ∧ 48 ∉ FPdX_heir 0 0 ∧ 49 ∉ FPdX_heir 0 0) cs ii.2.2.2.2.2.2⟩
  unfold pc_heir
  rw [e1, bd2_e, e2, bd2_e]
theorem st_line (k : Nat) (a1 a2 : Int32) (h : PH) (ii : II k h) (hk : k < 512) : ∃ h2, pc_line a1 a2 h = some h2 ∧ II (k + 1) h2 := by
  obtain ⟨rX, rm, h2, e1, e2, cs, rl, ag⟩ := rl_line a1 a2 h ii.1 ii.2.1 ii.2.2.1
  refine ⟨h2, ?_, cs.1, cs.2.1, rl, rh_line a1 a2 h ii.2.2.2.1 e2, rx_line a1 a2 h ii.2.2.2.2.1 e2, tw_line k a1 a2 h ii.2.2.2.2.2.1 hk e2, rn_p cs ii.2.2.2.2.2.2⟩
  unfold pc_line
  rw [e1, bd_e, e2, bd2_e]
theorem st_window (k : Nat) (a1 : Int32) (h : PH) (ii : II k h) (hk : k < 512) : ∃ h2, pc_window a1 h = some h2 ∧ II (k + 1) h2 := by
  obtain ⟨rX, rm, h2, e1, e2, cs, rl, ag⟩ := rl_window a1 h ii.1 ii.2.1 ii.2.2.1
  refine ⟨h2, ?_, cs.1, cs.2.1, rl, rh_window a1 h ii.2.2.2.1 e2, rx_window a1 h ii.2.2.2.2.1 e2, tw_window k a1 h ii.2.2.2.2.2.1 hk e2, rn_p cs ii.2.2.2.2.2.2⟩
  unfold pc_window
  rw [e1, bd_e, e2, bd2_e]
theorem st_member (k : Nat) (a1 a2 : Int32) (h : PH) (ii : II k h) (hk : k < 512) : ∃ h2, pc_member a1 a2 h = some h2 ∧ II (k + 1) h2 := by
  obtain ⟨rX, h1, rm, h2, e1, e2, cs, rl, ag⟩ := rl_member a1 a2 h ii.1 ii.2.1 ii.2.2.1
  refine ⟨h2, ?_, cs.1, cs.2.1, rl, rh_member a1 a2 h ii.2.2.2.1 e1 e2, rx_member a1 a2 h ii.2.2.2.2.1 e1 e2, tw_member k a1 a2 h ii.2.2.2.2.2.1 hk e1 e2, rn_cs (fpX_member a1 a2 h e1) (by decide : 14 ∉ FPdX_member 0 0 ∧ 15 ∉ FPdX_member 0 0 ∧ 48 ∉ FPdX_member 0 0 ∧ 49 ∉ FPdX_member 0 0) cs ii.2.2.2.2.2.2⟩
  unfold pc_member
  rw [e1, bd2_e, e2, bd2_e]
theorem st_council (k : Nat) (a1 : Int32) (h : PH) (ii : II k h) (hk : k < 512) : ∃ h2, pc_council a1 h = some h2 ∧ II (k + 1) h2 := by
  obtain ⟨rX, rm, h2, e1, e2, cs, rl, ag⟩ := rl_council a1 h ii.1 ii.2.1 ii.2.2.1
  refine ⟨h2, ?_, cs.1, cs.2.1, rl, rh_council a1 h ii.2.2.2.1 e2, rx_council a1 h ii.2.2.2.2.1 e2, tw_council k a1 h ii.2.2.2.2.2.1 hk e2, rn_p cs ii.2.2.2.2.2.2⟩
  unfold pc_council
  rw [e1, bd_e, e2, bd2_e]
theorem st_game (k : Nat) (a1 a2 : Int32) (h : PH) (ii : II k h) (hk : k < 512) : ∃ h2, pc_game a1 a2 h = some h2 ∧ II (k + 1) h2 := by
  obtain ⟨rX, h1, rm, h2, e1, e2, cs, rl, ag⟩ := rl_game a1 a2 h ii.1 ii.2.1 ii.2.2.1
  refine ⟨h2, ?_, cs.1, cs.2.1, rl, rh_game a1 a2 h ii.2.2.2.1 e1 e2, rx_game a1 a2 h ii.2.2.2.2.1 e1 e2, tw_game k a1 a2 h ii.2.2.2.2.2.1 hk e1 e2, rn_cs (fpX_game a1 a2 h e1) (by decide : 14 ∉ FPdX_game 0 0 ∧ 15 ∉ FPdX_game 0 0 ∧ 48 ∉ FPdX_game 0 0 ∧ 49 ∉ FPdX_game 0 0) cs ii.2.2.2.2.2.2⟩
  unfold pc_game
  rw [e1, bd2_e, e2, bd2_e]
theorem st_undo (k : Nat) (h : PH) (ii : II k h) (hk : k < 512) : ∃ h2, pc_undo h = some h2 ∧ II (k + 1) h2 := by
  obtain ⟨rX, h1, rm, h2, e1, e2, cs, rl, ag⟩ := rl_undo h ii.1 ii.2.1 ii.2.2.1
  refine ⟨h2, ?_, cs.1, cs.2.1, rl, rh_undo h ii.1 ii.2.2.2.1 e1 e2 cs, rx_undo h ii.2.2.2.2.1 e1 e2, (tw_undo k h ii.1 ii.2.2.2.2.2.1 hk e1 e2 cs).1, rn_cs (fpX_undo h e1) (by decide : 14 ∉ FPdX_undo ∧ 15 ∉ FPdX_undo ∧ 48 ∉ FPdX_undo ∧ 49 ∉ FPdX_undo) cs ii.2.2.2.2.2.2⟩
  unfold pc_undo
  rw [e1, bd2_e, e2, bd2_e]
theorem st_image (k : Nat) (a1 : Int32) (h : PH) (ii : II k h) (hk : k < 512) : ∃ h2, pc_image a1 h = some h2 ∧ II (k + 1) h2 := by
  obtain ⟨rX, h1, rm, h2, e1, e2, cs, rl, ag⟩ := rl_image a1 h ii.1 ii.2.1 ii.2.2.1
  refine ⟨h2, ?_, cs.1, cs.2.1, rl, rh_image a1 h ii.1 ii.2.2.1 ii.2.2.2.1 e1 e2 cs, rx_image a1 h ii.2.2.2.2.1 e1 e2, tw_image k a1 h ii.1 ii.2.2.1 ii.2.2.2.2.2.1 hk e1 e2 cs, rn_image a1 h ii.1 ii.2.2.1 ii.2.2.2.2.2.2 e1 cs⟩
  unfold pc_image
  rw [e1, bd2_e, e2, bd2_e]
theorem st_look (k : Nat) (a1 : Int32) (h : PH) (ii : II k h) (hk : k < 512) : ∃ h2, pc_look a1 h = some h2 ∧ II (k + 1) h2 := by
  obtain ⟨rX, rm, h2, e1, e2, cs, rl, ag⟩ := rl_look a1 h ii.1 ii.2.1 ii.2.2.1
  refine ⟨h2, ?_, cs.1, cs.2.1, rl, rh_look a1 h ii.2.2.2.1 e2, rx_look a1 h ii.2.2.2.2.1 e2, tw_look k a1 h ii.2.2.2.2.2.1 hk e2, rn_p cs ii.2.2.2.2.2.2⟩
  unfold pc_look
  rw [e1, bd_e, e2, bd2_e]
theorem st_if {c : Prop} [Decidable c] {a b : Option PH} {P : PH → Prop} (h1 : c → ∃ h2, a = some h2 ∧ P h2) (h2 : ¬ c → ∃ h2, b = some h2 ∧ P h2) : ∃ h2, (if c then a else b) = some h2 ∧ P h2 := by
  by_cases h : c
  · rw [if_pos h]; exact h1 h
  · rw [if_neg h]; exact h2 h
theorem st_all (k : Nat) (o a1 a2 a3 a4 a5 : Int32) (h : PH) (ii : II k h) (hk : k < 512) : ∃ h2, stp o a1 a2 a3 a4 a5 h = some h2 ∧ II (k + 1) h2 := by
  unfold stp
  refine st_if (fun _ => st_state k a1 h ii hk) (fun _ => ?_)
  refine st_if (fun _ => st_house k a1 a2 a3 h ii hk) (fun _ => ?_)
  refine st_if (fun _ => st_set k a1 a2 a3 h ii hk) (fun _ => ?_)
  refine st_if (fun _ => st_act k a1 a2 a3 h ii hk) (fun _ => ?_)
  refine st_if (fun _ => st_quarters k a1 h ii hk) (fun _ => ?_)
  refine st_if (fun _ => st_feed k a1 a2 a3 a4 a5 h ii hk) (fun _ => ?_)
  refine st_if (fun _ => st_end k a1 h ii hk) (fun _ => ?_)
  refine st_if (fun _ => st_text k a1 h ii hk) (fun _ => ?_)
  refine st_if (fun _ => st_fault k a1 h ii hk) (fun _ => ?_)
  refine st_if (fun _ => st_of k a1 a2 h ii hk) (fun _ => ?_)
  refine st_if (fun _ => st_book k a1 a2 h ii hk) (fun _ => ?_)
  refine st_if (fun _ => st_goes k a1 a2 h ii hk) (fun _ => ?_)
  refine st_if (fun _ => st_stands k a1 h ii hk) (fun _ => ?_)
  refine st_if (fun _ => st_hears k a1 a2 h ii hk) (fun _ => ?_)
  refine st_if (fun _ => st_heard k a1 a2 h ii hk) (fun _ => ?_)
  refine st_if (fun _ => st_ants k a1 a2 h ii hk) (fun _ => ?_)
  refine st_if (fun _ => st_piece k a1 h ii hk) (fun _ => ?_)
  refine st_if (fun _ => st_plate k a1 a2 h ii hk) (fun _ => ?_)
  refine st_if (fun _ => st_dough k a1 h ii hk) (fun _ => ?_)
  refine st_if (fun _ => st_pans k a1 a2 h ii hk) (fun _ => ?_)
  refine st_if (fun _ => st_mortgage k a1 a2 a3 a4 h ii hk) (fun _ => ?_)
  refine st_if (fun _ => st_mark k a1 h ii hk) (fun _ => ?_)
  refine st_if (fun _ => st_measures k a1 h ii hk) (fun _ => ?_)
  refine st_if (fun _ => st_bite k a1 a2 h ii hk) (fun _ => ?_)
  refine st_if (fun _ => st_whose k a1 a2 h ii hk) (fun _ => ?_)
  refine st_if (fun _ => st_crumb k a1 h ii hk) (fun _ => ?_)
  refine st_if (fun _ => st_crumbs k a1 h ii hk) (fun _ => ?_)
  refine st_if (fun _ => st_loaf k a1 a2 h ii hk) (fun _ => ?_)
  refine st_if (fun _ => st_ovens k a1 h ii hk) (fun _ => ?_)
  refine st_if (fun _ => st_alone k a1 h ii hk) (fun _ => ?_)
  refine st_if (fun _ => st_heir k a1 a2 h ii hk) (fun _ => ?_)
  refine st_if (fun _ => st_line k a1 a2 h ii hk) (fun _ => ?_)
  refine st_if (fun _ => st_window k a1 h ii hk) (fun _ => ?_)
  refine st_if (fun _ => st_member k a1 a2 h ii hk) (fun _ => ?_)
  refine st_if (fun _ => st_council k a1 h ii hk) (fun _ => ?_)
  refine st_if (fun _ => st_game k a1 a2 h ii hk) (fun _ => ?_)
  refine st_if (fun _ => st_undo k h ii hk) (fun _ => ?_)
  refine st_if (fun _ => st_image k a1 h ii hk) (fun _ => ?_)
  refine st_if (fun _ => st_look k a1 h ii hk) (fun _ => ?_)
  exact ⟨h, rfl, ii.1, ii.2.1, ii.2.2.1, ii.2.2.2.1, ii.2.2.2.2.1, twn_fr (Nat.le_succ k) hk (fun _ _ => rfl) ⟨fun _ _ => rfl, fun _ _ => rfl, fun _ _ => rfl⟩ ii.2.2.2.2.2.1, ii.2.2.2.2.2.2⟩
end
