section
/-! SAFETY of the model's reader: THE LAW, read and taken -/
theorem dep_x {op arg op' arg' : Nat → Int32} {c : Nat} (hc : ∀ q, q < c → op' q = op q ∧ arg' q = arg q) (f : Nat) : ∀ (m k d : Nat), k + m ≤ c → dep op' arg' f m k d = dep op arg f m k d := by
  intro m
  induction m with
  | zero => intro k d _; rfl
  | succ m ih =>
    intro k d hk
    obtain ⟨u1, u2⟩ := hc k (by omega)
    obtain ⟨w1, w2⟩ := hc (k - 1) (by omega)
    rw [dep, dep]
    have e : stC op' arg' f k d = stC op arg f k d := by
      unfold stC
      rw [u1, u2, w1, w2]
    rw [e]
    congr 1
    funext d'
    exact ih (k + 1) d' (by omega)
theorem seg_x {op arg op' arg' : Nat → Int32} {c a b : Nat} (hc : ∀ q, q < c → op' q = op q ∧ arg' q = arg q) (hab : a ≤ b) (hb : b ≤ c) (s : SegOK op arg a b) : SegOK op' arg' a b := by
  obtain ⟨d, hd⟩ := s
  exact ⟨d, by rw [dep_x hc a (b - a) a 0 (by omega)]; exact hd⟩
/-- line l of the draft is good, its code below c -/
def DL (l c : Nat) (h : PH) : Prop := ∃ a b e : Nat, h 115 (32 + l) = nI a ∧ h 116 (32 + l) = nI b ∧ h 117 (32 + l) = nI e ∧ a ≤ b ∧ b ≤ e ∧ e ≤ c ∧ SegOK (dOp h) (dAr h) a b ∧ SegOK (dOp h) (dAr h) b e
def LawQ (r : Int32 × PH) : Prop := (r.1 = -1 ∧ IM r.2) ∨ (∃ k c, r.1 = nI k ∧ k ≤ 16 ∧ RS c 0 r.2 ∧ r.2 104 24 = 0 ∧ ∀ l, l < k → DL l c r.2)
theorem rs_draft {c k : Nat} {h : PH} (st : RS c k h) {b j : Nat} (hb : 114 ≤ b ∧ b ≤ 117) (hj : 16 ≤ j) (v : Int32) : RS c k (up h b j v) := by
  obtain ⟨i, e, s1, s2, s3, s4⟩ := st
  have q : ∀ x, up h b j v 104 x = h 104 x := fun x => up_oc (by omega)
  refine ⟨im_draft v i (Or.inr ⟨hb, hj⟩), ?_, ?_, ?_, ?_, ?_⟩
  · rw [q]; exact e
  · rw [q, q]; exact s1
  · rw [q, q]; exact s2
  · rw [q, q, q]; exact s3
  · rw [q]; exact s4
theorem up_cell {h : PH} {b j x : Nat} {v : Int32} (hx : x ≠ b) : up h b j v x = h x := funext fun q => up_oc hx
theorem law_go (k0 k1 : PH → Option (Int32 × PH)) (k2 : Int32 → PH → Option (Int32 × PH)) (e0 : ∀ g, IM g → Sf (k0 g) ErQ) (e1 : ∀ g, IM g → Sf (k1 g) ErQ) (e2 : ∀ (k c : Nat) (g : PH), k ≤ 16 → RS c 0 g → g 104 24 = 0 → (∀ l, l < k → DL l c g) → Sf (k2 (nI k) g) LawQ) : ∀ (n k c : Nat) (hv : PH), 16 < n + k → k ≤ 16 → RS c 0 hv → hv 104 24 = 0 → hv 104 26 = 0 → (∀ l, l < k → DL l c hv) → Sf (mm_readLaw_L2 k0 k1 k2 n (nI k) hv) LawQ := by
  intro n
  induction n with
  | zero => intro k c hv h1 h2; omega
  | succ n ih =>
    intro k c hv hn hk st w24 w26 dl
    rw [mm_readLaw_L2]
    refine s_bd (P := fun r => ¬ r = 0 → hv 104 14 = 2) ?_ (fun r1 hr1 => ?_)
    · unfold mm_isLineWord
      refine s_if (fun t => ?_) (fun _ => s_some (fun q => absurd rfl q))
      exact s_isin (fun r _ _ => s_if (fun _ => s_some (fun q => absurd rfl q)) (fun _ => s_some (fun _ => t)))
    · refine s_if (fun _ => e2 k c hv hk st w24 dl) (fun z => ?_)
      have t2 := hr1 z
      refine s_if (fun _ => s_w (e0 hv st.1) (fun r q => Or.inl q)) (fun n16 => ?_)
      have hk2 : k < 16 := by
        by_cases e : k = 16
        · subst e; exact absurd rfl n16
        · omega
      have e32 : (32 : Int32) + nI k = nI (32 + k) := nI_add 32 k
      rw [lt_e, e32, ck_nI (by omega) (by decide), show ix (nI (32 + k)) = 32 + k from nI_clamp (by omega), lt_e]
      have st3 : RS c 0 (up hv 114 (32 + k) (hv 104 15)) := rs_draft st (by omega) (by omega) _
      have t3 : up hv 114 (32 + k) (hv 104 15) 104 14 = 2 := by rw [up_oc (by decide)]; exact t2
      refine s_bd (rs_take st3 (by rw [t3]; decide)) (fun h4 q => ?_)
      obtain ⟨st4, fr4⟩ := q
      rw [ck_nI (by omega) (by decide), lt_e, st4.2.1]
      have st5 : RS c 1 (up h4 115 (32 + k) (nI c)) := rs_draft st4 (by omega) (by omega) _
      refine s_bd2 (sf_m_readSum st5) (fun r6 h7 q => ?_)
      rcases q with ⟨q1, q2⟩ | ⟨q1, c', q2, q3, q4, q5⟩
      · have q1 : r6 = -1 := q1
        rw [if_pos q1]
        exact s_some (Or.inl ⟨rfl, q2⟩)
      have q1 : r6 = 0 := q1
      have st7 : RS c' 1 h7 := q3
      have fr7 : FRc c (up h4 115 (32 + k) (nI c)) h7 := q4
      have u7 : Up1 c c' h7 := q5
      rw [if_neg (by rw [q1]; decide), ck_nI (by omega) (by decide), lt_e, st7.2.1]
      have st8 : RS c' 1 (up h7 116 (32 + k) (nI c')) := rs_draft st7 (by omega) (by omega) _
      have o8 : dOp (up h7 116 (32 + k) (nI c')) = dOp h7 := dOp_up (by decide)
      have a8 : dAr (up h7 116 (32 + k) (nI c')) = dAr h7 := dAr_up (by decide)
      have x24 : up h7 116 (32 + k) (nI c') 104 24 = 0 := by rw [up_oc (by decide), fr7.2.2 24 (by decide) (by decide) (by decide) (by decide) (by decide) (by decide) (by decide), up_oc (by decide), fr4.2 24 (by decide) (by decide) (by decide) (by decide), up_oc (by decide)]; exact w24
      have x26 : up h7 116 (32 + k) (nI c') 104 26 = 0 := by rw [up_oc (by decide), fr7.2.2 26 (by decide) (by decide) (by decide) (by decide) (by decide) (by decide) (by decide), up_oc (by decide), fr4.2 26 (by decide) (by decide) (by decide) (by decide), up_oc (by decide)]; exact w26
      have p115 : up h7 116 (32 + k) (nI c') 115 = up h4 115 (32 + k) (nI c) 115 := by rw [up_cell (by decide), fr7.1 115 (by decide) (by decide) (by decide)]
      have p4 : ∀ x, 115 ≤ x → x ≤ 117 → h4 x = hv x := fun x _ _ => by rw [fr4.1 x (by omega), up_cell (by omega)]
      have p116 : h7 116 = hv 116 := by rw [fr7.1 116 (by decide) (by decide) (by decide), up_cell (by decide), p4 116 (by decide) (by decide)]
      have p117 : up h7 116 (32 + k) (nI c') 117 = hv 117 := by rw [up_cell (by decide), fr7.1 117 (by decide) (by decide) (by decide), up_cell (by decide), p4 117 (by decide) (by decide)]
      have d8 : ∀ q, q < c → dOp h7 q = dOp hv q ∧ dAr h7 q = dAr hv q := fun q hq => by
        obtain ⟨y1, y2⟩ := fr7.2.1 q hq
        rw [dOp_up (by decide)] at y1
        rw [dAr_up (by decide)] at y2
        have y3 : dOp h4 = dOp hv := by
          unfold dOp
          rw [fr4.1 118 (by decide), up_cell (by decide)]
        have y4 : dAr h4 = dAr hv := by
          unfold dAr
          rw [fr4.1 119 (by decide), up_cell (by decide)]
        rw [y1, y2, y3, y4]
        exact ⟨rfl, rfl⟩
      have s8 : SegOK (dOp h7) (dAr h7) c c' := ⟨0 + 1, u7 c 0 (Nat.le_refl _)⟩
      have b16 : up h7 116 (32 + k) (nI c') 116 (32 + k) = nI c' := up_same
      have b16l : ∀ l, l < k → up h7 116 (32 + k) (nI c') 116 (32 + l) = hv 116 (32 + l) := fun l hl => by rw [up_oj (by omega), p116]
      generalize up h7 116 (32 + k) (nI c') = h8 at st8 o8 a8 x24 x26 p115 p117 b16 b16l ⊢
      refine s_word (fun r9 w9 => ?_)
      have fin : ∀ (h11 : PH) (e : Nat), RS e 0 h11 → c' ≤ e → SegOK (dOp h11) (dAr h11) c' e → FRa c' h8 h11 → h11 104 26 = 0 → Sf (ck (nI (32 + k)) 48 <| lt (up h11 117 (32 + k) (h11 104 25)) fun h12 => bd (mm_isSign 59 h12) fun r13 => if r13 = 0 then k1 h12 else bd (mm_reads h12) fun h14 => lt (nI k + 1) fun x15 => mm_readLaw_L2 k0 k1 k2 n x15 h14) LawQ := fun h11 e st11 ce sg fr11 z26 => by
        rw [ck_nI (by omega) (by decide), lt_e, st11.2.1]
        have st12 : RS e 0 (up h11 117 (32 + k) (nI e)) := rs_draft st11 (by omega) (by omega) _
        have o12 : dOp (up h11 117 (32 + k) (nI e)) = dOp h11 := dOp_up (by decide)
        have a12 : dAr (up h11 117 (32 + k) (nI e)) = dAr h11 := dAr_up (by decide)
        refine s_sign (fun r13 w13 => ?_)
        refine s_if (fun _ => s_w (e1 _ st12.1) (fun r q => Or.inl q)) (fun z13 => ?_)
        refine s_bd (rs_take st12 (by rw [w13 z13]; decide)) (fun h14 q => ?_)
        obtain ⟨st14, fr14⟩ := q
        rw [lt_e, nI_1]
        have o14 : dOp h14 = dOp h11 := by
          rw [← o12]
          unfold dOp
          rw [fr14.1 118 (by decide)]
        have a14 : dAr h14 = dAr h11 := by
          rw [← a12]
          unfold dAr
          rw [fr14.1 119 (by decide)]
        have v24 : h14 104 24 = 0 := by rw [fr14.2 24 (by decide) (by decide) (by decide) (by decide), up_oc (by decide), fr11.2.2 24 (by decide) (by decide) (by decide) (by decide) (by decide) (by decide) (by decide) (by decide) (by decide)]; exact x24
        have v26 : h14 104 26 = 0 := by rw [fr14.2 26 (by decide) (by decide) (by decide) (by decide), up_oc (by decide)]; exact z26
        have l115 : h14 115 = up h4 115 (32 + k) (nI c) 115 := by rw [fr14.1 115 (by decide), up_cell (by decide), fr11.1 115 (by decide) (by decide) (by decide) (by decide), p115]
        have l116 : h14 116 = h8 116 := by rw [fr14.1 116 (by decide), up_cell (by decide), fr11.1 116 (by decide) (by decide) (by decide) (by decide)]
        have l117 : h14 117 = up h11 117 (32 + k) (nI e) 117 := by rw [fr14.1 117 (by decide)]
        have m117 : h11 117 = hv 117 := by rw [fr11.1 117 (by decide) (by decide) (by decide) (by decide), p117]
        have dc : ∀ q, q < c' → dOp h14 q = dOp h7 q ∧ dAr h14 q = dAr h7 q := fun q hq => by
          obtain ⟨y1, y2⟩ := fr11.2.1 q hq
          rw [o14, a14, y1, y2, o8, a8]
          exact ⟨rfl, rfl⟩
        have dc0 : ∀ q, q < c → dOp h14 q = dOp hv q ∧ dAr h14 q = dAr hv q := fun q hq => by
          obtain ⟨y1, y2⟩ := dc q (by omega)
          obtain ⟨y3, y4⟩ := d8 q hq
          exact ⟨y1.trans y3, y2.trans y4⟩
        refine ih (k + 1) e h14 (by omega) (by omega) (rs_wk st14 (by omega)) v24 v26 (fun l hl => ?_)
        by_cases el : l = k
        · subst el
          refine ⟨c, c', e, ?_, ?_, ?_, by omega, ce, Nat.le_refl _, seg_x dc (by omega) (Nat.le_refl _) s8, ?_⟩
          · rw [l115, up_same]
          · rw [l116, b16]
          · rw [l117, up_same]
          · rw [o14, a14]; exact sg
        · obtain ⟨a, b, e3, y1, y2, y3, y4, y5, y6, y7, y8⟩ := dl l (by omega)
          refine ⟨a, b, e3, ?_, ?_, ?_, y4, y5, by omega, seg_x dc0 y4 (by omega) y7, seg_x dc0 y5 (by omega) y8⟩
          · rw [l115, up_oj (by omega), p4 115 (by decide) (by decide)]; exact y1
          · rw [l116, b16l l (by omega)]; exact y2
          · rw [l117, up_oj (by omega), m117]; exact y3
      rw [jn1_e]
      refine s_if (fun _ => ?_) (fun z9 => ?_)
      · exact fin h8 c' (rs_wk st8 (by omega)) (Nat.le_refl _) ⟨0, by rw [Nat.sub_self]; rfl⟩ ⟨fun _ _ _ _ _ => rfl, fun _ _ => ⟨rfl, rfl⟩, fun _ _ _ _ _ _ _ _ _ _ => rfl⟩ x26
      · refine s_bd (rs_take st8 (by rw [(w9 z9).1]; decide)) (fun h16 q => ?_)
        obtain ⟨st16, fr16⟩ := q
        have y26 : h16 104 26 = 0 := by rw [fr16.2 26 (by decide) (by decide) (by decide) (by decide)]; exact x26
        refine s_bd2 (sf_m_readAny st16 y26) (fun r17 h18 q => ?_)
        rcases q with ⟨q1, q2⟩ | ⟨q1, e, ke, q2⟩
        · have q1 : r17 = -1 := q1
          rw [if_pos q1]
          exact s_some (Or.inl ⟨rfl, q2⟩)
        · have q1 : r17 = 0 := q1
          rw [if_neg (by rw [q1]; decide)]
          obtain ⟨y1, y2, y3, y4, y5, y6, y7⟩ := q2
          have y1 : RS e ke h18 := y1
          have y7 : FRa c' h16 h18 := y7
          exact fin h18 e (rs_wk y1 (by omega)) y5 ⟨_, y6⟩ (fra_tr (fra_c (Nat.le_refl _) (frc_4 fr16)) y7) y4
theorem sf_m_readLaw {c : Nat} {h : PH} (st : RS c 0 h) (w24 : h 104 24 = 0) (w26 : h 104 26 = 0) : Sf (mm_readLaw h) LawQ := by
  unfold mm_readLaw
  have := law_go (fun (h19 : PH) => bd2 (mm_errs 3 h19) fun r20 h21 => some (r20, h21)) (fun (h22 : PH) => bd2 (mm_errs 1 h22) fun r23 h24 => some (r23, h24)) (fun (x25 : Int32) (h26 : PH) => if (h26 104 14) = 0 then some (x25, h26) else bd2 (mm_errs 1 h26) fun r27 h28 => some (r27, h28)) (fun g ig => er_bd 3 ig) (fun g ig => er_bd 1 ig) (fun k c g hk st w dl => by
    refine s_if (fun _ => s_some (Or.inr ⟨k, c, rfl, hk, st, w, dl⟩)) (fun _ => s_w (er_bd 1 st.1) (fun r q => Or.inl q))) FU 0 c h (by unfold FU; omega) (by omega) st w24 w26 (fun l hl => by omega)
  rw [nI_0] at this
  exact this
/-! the taking -/
def TL (o h : PH) (c : Nat) : Prop := Inv h ∧ h 148 = o 148 ∧ h 104 24 = 0 ∧ h 104 25 = nI c
theorem tl_put {o h : PH} {c b j : Nat} {v : Int32} (st : TL o h c) (hb : 114 ≤ b ∧ b ≤ 119) : TL o (up h b j v) c := by
  obtain ⟨i, e1, e2, e3⟩ := st
  have hs : sp b j = rF := by
    have h6 : b = 114 ∨ b = 115 ∨ b = 116 ∨ b = 117 ∨ b = 118 ∨ b = 119 := by omega
    rcases h6 with q | q | q | q | q | q <;> subst q <;> rfl
  exact ⟨inv_up i (by rw [hs]; exact r_full v), by rw [up_cell (by omega)]; exact e1, by rw [up_oc (by omega)]; exact e2, by rw [up_oc (by omega)]; exact e3⟩
def TB (o h : PH) (b m w t : Nat) : Prop := (∀ q, m ≤ q → h b q = o b q) ∧ ∀ q, q < t → h b q = o b (w + q)
theorem tb_put {o h : PH} {b m w t : Nat} (st : TB o h b m w t) (ht : t < m) : TB o (up h b t (o b (w + t))) b m w (t + 1) := by
  refine ⟨fun q hq => by rw [up_oj (by omega)]; exact st.1 q hq, fun q hq => ?_⟩
  by_cases e : q = t
  · subst e; exact up_same
  · rw [up_oj e]; exact st.2 q (by omega)
theorem tb_oc {o h : PH} {b m w t c j : Nat} {v : Int32} (st : TB o h b m w t) (hc : b ≠ c) : TB o (up h c j v) b m w t := ⟨fun q hq => by rw [up_oc hc]; exact st.1 q hq, fun q hq => by rw [up_oc hc]; exact st.2 q hq⟩
theorem tk2 (o : PH) (c k : Nat) (hk : k ≤ 16) (k0 : PH → Option PH) {Q : PH → Prop} (hk0 : ∀ g, TL o g c → (∀ b, 115 ≤ b → b ≤ 117 → TB o g b 32 32 k) → g 118 = o 118 → g 119 = o 119 → Sf (k0 g) Q) : ∀ (n t : Nat) (h : PH), 16 < n + t → t ≤ k → TL o h c → (∀ b, 115 ≤ b → b ≤ 117 → TB o h b 32 32 t) → h 118 = o 118 → h 119 = o 119 → (∀ q, 32 ≤ q → h 114 q = o 114 q) → Sf (mm_takesLaw_L2 (nI k) k0 n (nI t) h) Q := by
  intro n
  induction n with
  | zero => intro t h h1 h2; omega
  | succ n ih =>
    intro t h hn ht st tb e8 e9 e4
    rw [mm_takesLaw_L2]
    by_cases etk : t = k
    · subst etk
      rw [if_pos (nI_le (Nat.le_refl _) (by omega))]
      exact hk0 h st tb e8 e9
    · rw [if_neg (nI_ge (by omega) (by omega))]
      have e32 : (32 : Int32) + nI t = nI (32 + t) := nI_add 32 t
      have z : ∀ g : PH, g 104 24 = 0 → (16 : Int32) * g 104 24 + nI t = nI t := fun g hg => by rw [hg, show (16 : Int32) * 0 = 0 from rfl, Int32.zero_add]
      have i32 : ix (nI (32 + t)) = 32 + t := nI_clamp (by omega)
      have it : ix (nI t) = t := nI_clamp (by omega)
      have c32 : ∀ {ρ : Type} (q : Option ρ), ck (nI (32 + t)) 48 q = q := fun q => ck_nI (by omega) (by decide)
      have ct : ∀ {ρ : Type} (q : Option ρ), ck (nI t) 48 q = q := fun q => ck_nI (by omega) (by decide)
      have s1 := tl_put (j := t) (v := h 114 (32 + t)) st (b := 114) (by decide)
      have b1 : ∀ b, 115 ≤ b → b ≤ 117 → TB o (up h 114 t (h 114 (32 + t))) b 32 32 t := fun b h1 h2 => tb_oc (tb b h1 h2) (by omega)
      rw [e32, z h st.2.2.1, c32, ct, i32, it, lt_e, z _ s1.2.2.1, c32, ct, it]
      have f1 : up h 114 t (h 114 (32 + t)) 118 = o 118 := by rw [up_cell (by decide)]; exact e8
      have f2 : up h 114 t (h 114 (32 + t)) 119 = o 119 := by rw [up_cell (by decide)]; exact e9
      have f3 : ∀ q, 32 ≤ q → up h 114 t (h 114 (32 + t)) 114 q = o 114 q := fun q hq => by rw [up_oj (by omega)]; exact e4 q hq
      generalize up h 114 t (h 114 (32 + t)) = g1 at s1 b1 f1 f2 f3 ⊢
      rw [(b1 115 (by decide) (by decide)).1 (32 + t) (by omega), lt_e]
      have s2 := tl_put (j := t) (v := o 115 (32 + t)) s1 (b := 115) (by decide)
      have b2 : TB o (up g1 115 t (o 115 (32 + t))) 115 32 32 (t + 1) := tb_put (b1 115 (by decide) (by decide)) (by omega)
      have b2' : ∀ b, 116 ≤ b → b ≤ 117 → TB o (up g1 115 t (o 115 (32 + t))) b 32 32 t := fun b h1 h2 => tb_oc (b1 b (by omega) h2) (by omega)
      have f4 : up g1 115 t (o 115 (32 + t)) 118 = o 118 := by rw [up_cell (by decide)]; exact f1
      have f5 : up g1 115 t (o 115 (32 + t)) 119 = o 119 := by rw [up_cell (by decide)]; exact f2
      have f6 : ∀ q, 32 ≤ q → up g1 115 t (o 115 (32 + t)) 114 q = o 114 q := fun q hq => by rw [up_oc (by decide)]; exact f3 q hq
      generalize up g1 115 t (o 115 (32 + t)) = g2 at s2 b2 b2' f4 f5 f6 ⊢
      rw [z _ s2.2.2.1, c32, ct, it, (b2' 116 (by decide) (by decide)).1 (32 + t) (by omega), lt_e]
      have s3 := tl_put (j := t) (v := o 116 (32 + t)) s2 (b := 116) (by decide)
      have b3 : TB o (up g2 116 t (o 116 (32 + t))) 115 32 32 (t + 1) := tb_oc b2 (by decide)
      have b3' : TB o (up g2 116 t (o 116 (32 + t))) 116 32 32 (t + 1) := tb_put (b2' 116 (by decide) (by decide)) (by omega)
      have b3'' : TB o (up g2 116 t (o 116 (32 + t))) 117 32 32 t := tb_oc (b2' 117 (by decide) (by decide)) (by decide)
      have f7 : up g2 116 t (o 116 (32 + t)) 118 = o 118 := by rw [up_cell (by decide)]; exact f4
      have f8 : up g2 116 t (o 116 (32 + t)) 119 = o 119 := by rw [up_cell (by decide)]; exact f5
      have f9 : ∀ q, 32 ≤ q → up g2 116 t (o 116 (32 + t)) 114 q = o 114 q := fun q hq => by rw [up_oc (by decide)]; exact f6 q hq
      generalize up g2 116 t (o 116 (32 + t)) = g3 at s3 b3 b3' b3'' f7 f8 f9 ⊢
      rw [z _ s3.2.2.1, c32, ct, it, b3''.1 (32 + t) (by omega), lt_e, nI_1]
      refine ih (t + 1) _ (by omega) (by omega) (tl_put s3 (by decide)) (fun b h1 h2 => ?_) (by rw [up_cell (by decide)]; exact f7) (by rw [up_cell (by decide)]; exact f8) (fun q hq => by rw [up_oc (by decide)]; exact f9 q hq)
      have h3 : b = 115 ∨ b = 116 ∨ b = 117 := by omega
      rcases h3 with rfl | rfl | rfl
      · exact tb_oc b3 (by decide)
      · exact tb_oc b3' (by decide)
      · exact tb_put b3'' (by omega)
theorem tk107 (o : PH) (c k : Nat) (hc : c ≤ 400) (p1 : Int32) (k0 : PH → Option PH) {Q : PH → Prop} (hk0 : ∀ g, TL o g c → (∀ b, 115 ≤ b → b ≤ 117 → TB o g b 32 32 k) → TB o g 118 800 800 c → TB o g 119 800 800 c → Sf (k0 g) Q) : ∀ (n t : Nat) (h : PH), 400 < n + t → t ≤ c → TL o h c → (∀ b, 115 ≤ b → b ≤ 117 → TB o h b 32 32 k) → TB o h 118 800 800 t → TB o h 119 800 800 t → Sf (mm_takesLaw_L107 p1 k0 n (nI t) h) Q := by
  intro n
  induction n with
  | zero => intro t h h1 h2; omega
  | succ n ih =>
    intro t h hn ht st tb b8 b9
    rw [mm_takesLaw_L107, st.2.2.2]
    by_cases etk : t = c
    · subst etk
      rw [if_pos (nI_le (Nat.le_refl _) (by omega))]
      exact hk0 h st tb b8 b9
    · rw [if_neg (nI_ge (by omega) (by omega))]
      have e8 : (800 : Int32) + nI t = nI (800 + t) := nI_add 800 t
      have z : ∀ g : PH, g 104 24 = 0 → (400 : Int32) * g 104 24 + nI t = nI t := fun g hg => by rw [hg, show (400 : Int32) * 0 = 0 from rfl, Int32.zero_add]
      have i8 : ix (nI (800 + t)) = 800 + t := nI_clamp (by omega)
      have it : ix (nI t) = t := nI_clamp (by omega)
      have c8 : ∀ {ρ : Type} (q : Option ρ), ck (nI (800 + t)) 1200 q = q := fun q => ck_nI (by omega) (by decide)
      have ct : ∀ {ρ : Type} (q : Option ρ), ck (nI t) 1200 q = q := fun q => ck_nI (by omega) (by decide)
      rw [e8, z h st.2.2.1, c8, ct, i8, it, b8.1 (800 + t) (by omega), lt_e]
      have s1 := tl_put (j := t) (v := o 118 (800 + t)) st (b := 118) (by decide)
      have n8 : TB o (up h 118 t (o 118 (800 + t))) 118 800 800 (t + 1) := tb_put b8 (by omega)
      have n9 : TB o (up h 118 t (o 118 (800 + t))) 119 800 800 t := tb_oc b9 (by decide)
      have nb : ∀ b, 115 ≤ b → b ≤ 117 → TB o (up h 118 t (o 118 (800 + t))) b 32 32 k := fun b h1 h2 => tb_oc (tb b h1 h2) (by omega)
      generalize up h 118 t (o 118 (800 + t)) = g1 at s1 n8 n9 nb ⊢
      rw [z _ s1.2.2.1, c8, ct, it, n9.1 (800 + t) (by omega), lt_e, nI_1]
      exact ih (t + 1) _ (by omega) (by omega) (tl_put s1 (by decide)) (fun b h1 h2 => tb_oc (nb b h1 h2) (by omega)) (tb_oc n8 (by decide)) (tb_put n9 (by omega))
theorem sf_m_takesLaw (k c : Nat) (hk : k ≤ 16) (hc : c ≤ 400) (o : PH) (i : IM o) (e25 : o 104 25 = nI c) (e24 : o 104 24 = 0) (dl : ∀ l, l < k → DL l c o) : Sf (mm_takesLaw (nI k) o) IM := by
  unfold mm_takesLaw
  have key := tk2 o c k hk (fun (h5 : PH) => mm_takesLaw_L107 (nI k) (fun (h8 : PH) => ck (h8 104 24) 2 <| lt (up h8 113 (ix (h8 104 24)) (nI k)) fun h9 => some h9) FU 0 h5) (Q := IM) (fun g st tb e8 e9 => by
    have := tk107 o c k hc (nI k) (fun (h8 : PH) => ck (h8 104 24) 2 <| lt (up h8 113 (ix (h8 104 24)) (nI k)) fun h9 => some h9) (Q := IM) (fun g st tb b8 b9 => by
      rw [st.2.2.1, c0_2, lt_e, show ix (0 : Int32) = 0 from rfl]
      refine s_some ⟨inv_up st.1 (show R 0 16 (nI k) from ⟨by rw [nI_toInt (by omega)]; omega, by rw [nI_toInt (by omega)]; omega⟩), ?_, ?_⟩
      · intro l hl
        rw [up_same, nI_toInt (by omega)] at hl
        rw [up_cell (by decide), up_cell (by decide), up_cell (by decide), up_cell (by decide), up_cell (by decide)]
        obtain ⟨a, b, e, y1, y2, y3, y4, y5, y6, y7, y8⟩ := dl l (by omega)
        have hq : ∀ q, q < c → g 118 q = dOp o q ∧ g 119 q = dAr o q := fun q hq => ⟨b8.2 q hq, b9.2 q hq⟩
        exact ⟨a, b, e, by rw [(tb 115 (by decide) (by decide)).2 l (by omega)]; exact y1, by rw [(tb 116 (by decide) (by decide)).2 l (by omega)]; exact y2, by rw [(tb 117 (by decide) (by decide)).2 l (by omega)]; exact y3, y4, y5, by omega, seg_x hq y4 (by omega) y7, seg_x hq y5 (by omega) y8⟩
      · unfold LawImg
        rw [up_cell (by decide), st.2.1]
        exact i.2.2) FU 0 g (by unfold FU; omega) (by omega) st tb ⟨fun q _ => by rw [e8], fun q hq => by omega⟩ ⟨fun q _ => by rw [e9], fun q hq => by omega⟩
    rw [nI_0] at this
    exact this) FU 0 o (by unfold FU; omega) (by omega) ⟨i.1, rfl, e24, e25⟩ (fun b _ _ => ⟨fun _ _ => rfl, fun q hq => by omega⟩) rfl rfl (fun _ _ => rfl)
  rw [nI_0] at key
  exact key
end
section
/-! SAFETY of the model's reader: the other texts, and text -/
def RT (h : PH) : Prop := IM h ∧ (h 104 12).toInt ≤ (h 104 11).toInt
def NQ (a b : Int) (h : PH) (r : Int32 × PH) : Prop := (r.1 = -1 ∨ R a b r.1) ∧ RT r.2 ∧ ∀ x, x ≠ 104 → r.2 x = h x
theorem rt_reads {h : PH} (st : RT h) : Sf (mm_reads h) (fun g => RT g ∧ ∀ x, x ≠ 104 → g x = h x) :=
  s_w (sf_m_reads h st.1 st.2) (fun g q => ⟨⟨q.1, q.2.2.2.2.1⟩, q.2.1.1⟩)
theorem rt_errs (p : Int32) {h : PH} (st : RT h) (a b : Int) : Sf (bd2 (mm_errs p h) fun r g => some (r, g)) (NQ a b h) := by
  unfold mm_errs
  rw [lt_e, lt_e]
  refine s_bd2 (P := NQ a b h) (s_some ⟨Or.inl rfl, ⟨im_put (im_put st.1 (show sp 104 29 = (-2147483648, 2147483647) from rfl) (r_full _) (by decide)) (show sp 104 30 = (-2147483648, 2147483647) from rfl) (r_full _) (by decide), ?_⟩, fun x hx => ?_⟩) (fun r g q => s_some q)
  · show (up (up h 104 29 p) 104 30 (up h 104 29 p 104 13) 104 12).toInt ≤ (up (up h 104 29 p) 104 30 (up h 104 29 p 104 13) 104 11).toInt
    rw [up_oj (by decide), up_oj (by decide), up_oj (by decide), up_oj (by decide)]
    exact st.2
  · show up (up h 104 29 p) 104 30 (up h 104 29 p 104 13) x = h x
    rw [up_cell hx, up_cell hx]
theorem sf_m_readNumber (p1 p2 : Int32) {a b : Int} {h : PH} (st : RT h) (hab : ∀ v, p1 ≤ v → v ≤ p2 → R a b v) : Sf (mm_readNumber p1 p2 h) (NQ a b h) := by
  unfold mm_readNumber
  refine s_if (fun _ => ?_) (fun _ => rt_errs 1 st a b)
  refine s_isin (fun r1 _ w => ?_)
  refine s_if (fun _ => rt_errs 2 st a b) (fun z => ?_)
  rw [lt_e]
  refine s_bd (rt_reads st) (fun h5 q => s_some ⟨Or.inr (hab _ (w z).1 (w z).2), q.1, q.2⟩)
theorem sf_m_readMark (p : Int32) {h : PH} (st : RT h) : Sf (mm_readMark p h) (NQ 0 0 h) := by
  unfold mm_readMark
  refine s_sign (fun r1 _ => ?_)
  refine s_if (fun _ => rt_errs 1 st 0 0) (fun z => ?_)
  exact s_bd (rt_reads st) (fun h5 q => s_some ⟨Or.inr (show R 0 0 (0 : Int32) from ⟨by decide, by decide⟩), q.1, q.2⟩)
theorem sf_m_readTold (p p1 p2 : Int32) {a b : Int} {h : PH} (st : RT h) (hab : ∀ v, p1 ≤ v → v ≤ p2 → R a b v) : Sf (mm_readTold p p1 p2 h) (NQ a b h) := by
  unfold mm_readTold
  refine s_word (fun r1 _ => ?_)
  refine s_if (fun _ => rt_errs 1 st a b) (fun z => ?_)
  refine s_bd (rt_reads st) (fun h4 q => ?_)
  refine s_bd2 (sf_m_readNumber p1 p2 q.1 hab) (fun r5 h6 w => s_some ⟨w.1, w.2.1, fun x hx => by rw [w.2.2 x hx, q.2 x hx]⟩)
theorem le_rng {a b : Int} {x y v : Int32} (hx : x.toInt = a) (hy : y.toInt = b) (h1 : x ≤ v) (h2 : v ≤ y) : R a b v := by
  rw [Int32.le_iff_toInt_le] at h1 h2
  exact ⟨by omega, by omega⟩
theorem rt_put {h : PH} (st : RT h) {b j : Nat} (v : Int32) (hs : sp b j = rF) (hb : (b < 113 ∨ 119 < b) ∧ ¬ b = 148) (h104 : b ≠ 104) : RT (up h b j v) :=
  ⟨im_put st.1 hs (r_full v) hb, by rw [up_oc (fun q => h104 q.symm), up_oc (fun q => h104 q.symm)]; exact st.2⟩
theorem sf_m_readSkyLine (a : Nat) (ha : a + 2 < 96) {h : PH} (st : RT h) : Sf (mm_readSkyLine (nI a) h) (fun r => RT r.2) := by
  unfold mm_readSkyLine
  have c0 : ∀ {ρ : Type} (q : Option ρ), ck (nI a) 96 q = q := fun q => ck_nI (by omega) (by decide)
  have c1 : ∀ {ρ : Type} (q : Option ρ), ck (nI a + 1) 96 q = q := fun q => by rw [nI_1]; exact ck_nI (by omega) (by decide)
  have c2 : ∀ {ρ : Type} (q : Option ρ), ck (nI a + 2) 96 q = q := fun q => by rw [show nI a + 2 = nI (a + 2) from nI_add a 2]; exact ck_nI (by omega) (by decide)
  refine s_bd2 (sf_m_readTold 19 0 999 (a := 0) (b := 999) st (fun v h1 h2 => le_rng rfl rfl h1 h2)) (fun r1 h2 q => ?_)
  rw [c0, lt_e, c0]
  have st2 : RT h2 := q.2.1
  have st3 := rt_put st2 (b := 121) (j := ix (nI a)) r1 rfl (by decide) (by decide)
  generalize up h2 121 (ix (nI a)) r1 = h3 at st3 ⊢
  refine s_if (fun _ => s_some st3) (fun _ => ?_)
  refine s_word (fun r4 _ => ?_)
  refine s_jn1 (P := fun _ => True) (fun x6 _ => ?_) (fun j5 kj => ?_)
  · refine s_if (fun _ => s_w (rt_errs 1 st3 0 0) (fun r q => q.2.1)) (fun _ => ?_)
    refine s_bd (rt_reads st3) (fun h9 q9 => ?_)
    rw [c1, lt_e]
    have st10 := rt_put q9.1 (b := 121) (j := ix (nI a + 1)) x6 rfl (by decide) (by decide)
    generalize up h9 121 (ix (nI a + 1)) x6 = h10 at st10 ⊢
    refine s_jn2 (P := fun _ g => RT g) (fun x12 h13 s13 => ?_) (fun j11 kj => ?_)
    · rw [c2, lt_e, c2]
      have st14 := rt_put s13 (b := 121) (j := ix (nI a + 2)) x12 rfl (by decide) (by decide)
      generalize up h13 121 (ix (nI a + 2)) x12 = h14 at st14 ⊢
      refine s_if (fun _ => s_some st14) (fun _ => ?_)
      exact s_bd2 (sf_m_readMark 59 st14) (fun r15 h16 q => s_some q.2.1)
    · refine s_if (fun _ => ?_) (fun _ => kj _ _ st10)
      exact s_bd2 (sf_m_readNumber 0 9 (a := 0) (b := 9) st10 (fun v h1 h2 => le_rng rfl rfl h1 h2)) (fun r17 h18 q => kj _ _ q.2.1)
  · refine s_if (fun _ => ?_) (fun _ => kj _ trivial)
    refine s_word (fun r19 _ => ?_)
    refine s_if (fun _ => ?_) (fun _ => kj _ trivial)
    refine s_word (fun r20 _ => ?_)
    exact s_if (fun _ => kj _ trivial) (fun _ => kj _ trivial)
/-- what a text's reader answers: -1, or how many lines -/
def TQ (P : Nat → PH → Prop) (r : Int32 × PH) : Prop := (r.1 = -1 ∧ IM r.2) ∨ (∃ k, r.1 = nI k ∧ k ≤ 16 ∧ RT r.2 ∧ P k r.2)
theorem er_T {P : Nat → PH → Prop} (p : Int32) {h : PH} (i : IM h) : Sf (bd2 (mm_errs p h) fun r g => some (r, g)) (TQ P) := s_w (er_bd p i) (fun r q => Or.inl q)
theorem k16 {k : Nat} (hk : k ≤ 16) (n : ¬ nI k = 16) : k < 16 := by
  by_cases e : k = 16
  · subst e; exact absurd rfl n
  · omega
theorem sky_go : ∀ (n k : Nat) (hv : PH), 16 < n + k → k ≤ 16 → RT hv → Sf (mm_readSky_L2 (fun (h5 : PH) => bd2 (mm_errs 3 h5) fun r6 h7 => some (r6, h7)) (fun (x8 : Int32) (h9 : PH) => if (h9 104 14) = 0 then some (x8, h9) else bd2 (mm_errs 1 h9) fun r10 h11 => some (r10, h11)) n (nI k) hv) (TQ fun _ _ => True) := by
  intro n
  induction n with
  | zero => intro k hv h1 h2; omega
  | succ n ih =>
    intro k hv hn hk st
    rw [mm_readSky_L2]
    refine s_word (fun r1 _ => ?_)
    refine s_if (fun _ => ?_) (fun _ => ?_)
    · exact s_if (fun _ => s_some (Or.inr ⟨k, rfl, hk, st, trivial⟩)) (fun _ => er_T 1 st.1)
    · refine s_if (fun _ => er_T 3 st.1) (fun n16 => ?_)
      have hk2 := k16 hk n16
      have e : (48 : Int32) + 3 * nI k = nI (48 + 3 * k) := by rw [show (3 : Int32) * nI k = nI (3 * k) from nI_mul 3 k]; exact nI_add 48 (3 * k)
      rw [e]
      refine s_bd2 (sf_m_readSkyLine (48 + 3 * k) (by omega) st) (fun r2 h3 q => ?_)
      have q : RT h3 := q
      refine s_if (fun _ => s_some (Or.inl ⟨rfl, q.1⟩)) (fun _ => ?_)
      rw [lt_e, nI_1]
      exact ih (k + 1) h3 (by omega) (by omega) q
theorem sf_m_readSky {h : PH} (st : RT h) : Sf (mm_readSky h) (TQ fun _ _ => True) := by
  unfold mm_readSky
  have := sky_go FU 0 h (by unfold FU; omega) (by omega) st
  rw [nI_0] at this
  exact this
theorem sp122 {j : Nat} (h : 80 ≤ j) : sp 122 j = rF := by
  show spD j = rF
  unfold spD
  rw [if_neg (by omega), if_neg (by omega)]
/-- line n of the office's draft -/
def DD (n : Nat) (h : PH) : Prop := R 0 11 (h 122 (80 + 5 * n + 2)) ∧ R 0 3 (h 122 (80 + 5 * n + 3))
def DeedQ (a : Nat) (h : PH) (r : Int32 × PH) : Prop := IM r.2 ∧ (¬ r.1 = -1 → RT r.2 ∧ R 0 11 (r.2 122 (a + 2)) ∧ R 0 3 (r.2 122 (a + 3)) ∧ ∀ j, j < a → r.2 122 j = h 122 j)
theorem rt122 {h : PH} (st : RT h) {j : Nat} (hj : 80 ≤ j) (v : Int32) : RT (up h 122 j v) := rt_put st v (sp122 hj) (by decide) (by decide)
theorem sf_m_readDeed (a : Nat) (ha : 80 ≤ a ∧ a + 4 < 160) {h : PH} (st : RT h) : Sf (mm_readDeed (nI a) h) (DeedQ a h) := by
  unfold mm_readDeed
  have c0 : ∀ {ρ : Type} (q : Option ρ), ck (nI a) 160 q = q := fun q => ck_nI (by omega) (by decide)
  have e1 : nI a + 1 = nI (a + 1) := nI_1 a
  have e2 : nI a + 2 = nI (a + 2) := nI_add a 2
  have e3 : nI a + 3 = nI (a + 3) := nI_add a 3
  have e4 : nI a + 4 = nI (a + 4) := nI_add a 4
  have c1 : ∀ {ρ : Type} (q : Option ρ), ck (nI a + 1) 160 q = q := fun q => by rw [e1]; exact ck_nI (by omega) (by decide)
  have c2 : ∀ {ρ : Type} (q : Option ρ), ck (nI a + 2) 160 q = q := fun q => by rw [e2]; exact ck_nI (by omega) (by decide)
  have c3 : ∀ {ρ : Type} (q : Option ρ), ck (nI a + 3) 160 q = q := fun q => by rw [e3]; exact ck_nI (by omega) (by decide)
  have c4 : ∀ {ρ : Type} (q : Option ρ), ck (nI a + 4) 160 q = q := fun q => by rw [e4]; exact ck_nI (by omega) (by decide)
  have i0 : ix (nI a) = a := nI_clamp (by omega)
  have i1 : ix (nI a + 1) = a + 1 := by rw [e1]; exact nI_clamp (by omega)
  have i2 : ix (nI a + 2) = a + 2 := by rw [e2]; exact nI_clamp (by omega)
  have i3 : ix (nI a + 3) = a + 3 := by rw [e3]; exact nI_clamp (by omega)
  have i4 : ix (nI a + 4) = a + 4 := by rw [e4]; exact nI_clamp (by omega)
  have bad : ∀ g, IM g → Sf (some ((-1 : Int32), g)) (DeedQ a h) := fun g ig => s_some ⟨ig, fun z => absurd rfl z⟩
  refine s_bd2 (sf_m_readTold 19 0 999 (a := 0) (b := 999) st (fun v h1 h2 => le_rng rfl rfl h1 h2)) (fun r1 h2 q => ?_)
  rw [c0, lt_e, c0, i0]
  have st2 : RT h2 := q.2.1
  have k2 : h2 122 = h 122 := q.2.2 122 (by decide)
  have st3 := rt122 st2 (j := a) (by omega) r1
  have k3 : ∀ j, j < a → up h2 122 a r1 122 j = h 122 j := fun j hj => by rw [up_oj (by omega), k2]
  generalize up h2 122 a r1 = h3 at st3 k3 ⊢
  refine s_if (fun _ => bad _ st3.1) (fun _ => ?_)
  have er3 : Sf (bd2 (mm_errs 1 h3) fun r5 h6 => some (r5, h6)) (DeedQ a h) := s_w (er_bd 1 st3.1) (fun r q => ⟨q.2, fun z => absurd q.1 z⟩)
  rw [jn0_e]
  refine s_if (fun _ => ?_) (fun _ => er3)
  refine s_isin (fun r7 _ _ => ?_)
  refine s_if (fun _ => er3) (fun _ => ?_)
  rw [lt_e]
  generalize h3 104 15 - 21 = x8
  refine s_bd (rt_reads st3) (fun h9 q9 => ?_)
  rw [c1, lt_e, i1]
  have st10 := rt122 q9.1 (j := a + 1) (by omega) x8
  have k10 : ∀ j, j < a → up h9 122 (a + 1) x8 122 j = h 122 j := fun j hj => by rw [up_oj (by omega), q9.2 122 (by decide)]; exact k3 j hj
  generalize up h9 122 (a + 1) x8 = h10 at st10 k10 ⊢
  have f6 : R 0 12 (h10 104 6) := inv_rng st10.1.1 rfl
  have f7 : R (-1) 11 (h10 104 6 - 1) := r_sub f6 (show R 1 1 (1 : Int32) from ⟨by decide, by decide⟩) (by decide)
  refine s_bd2 (sf_m_readNumber 0 (h10 104 6 - 1) (a := 0) (b := 11) st10 (fun v h1 h2 => ?_)) (fun r11 h12 q => ?_)
  · rw [Int32.le_iff_toInt_le] at h1 h2
    have := f7.2
    exact ⟨h1, by omega⟩
  rw [c2, lt_e, c2, i2]
  have q12 : r11 = -1 ∨ R 0 11 r11 := q.1
  have st13 := rt122 (show RT h12 from q.2.1) (j := a + 2) (by omega) r11
  have q122 : h12 122 = h10 122 := q.2.2 122 (by decide)
  have k13 : ∀ j, j < a → up h12 122 (a + 2) r11 122 j = h 122 j := fun j hj => by rw [up_oj (by omega), q122]; exact k10 j hj
  have v13 : up h12 122 (a + 2) r11 122 (a + 2) = r11 := up_same
  generalize up h12 122 (a + 2) r11 = h13 at st13 k13 v13 ⊢
  rw [v13]
  refine s_if (fun _ => bad _ st13.1) (fun z2 => ?_)
  have f2 : R 0 11 (h13 122 (a + 2)) := by
    rw [v13]
    rcases q12 with w | w
    · exact absurd w z2
    · exact w
  refine s_jn2 (P := fun x g => (x = -1 ∨ R 0 3 x) ∧ RT g ∧ g 122 = h13 122) (fun x15 h16 w => ?_) (fun j14 kj => ?_)
  · obtain ⟨w1, w2, w3⟩ := w
    rw [c3, lt_e, c3, i3]
    have st17 := rt122 w2 (j := a + 3) (by omega) x15
    have k17 : ∀ j, j < a + 3 → up h16 122 (a + 3) x15 122 j = h13 122 j := fun j hj => by rw [up_oj (by omega), w3]
    have v17 : up h16 122 (a + 3) x15 122 (a + 3) = x15 := up_same
    generalize up h16 122 (a + 3) x15 = h17 at st17 k17 v17 ⊢
    rw [v17]
    refine s_if (fun _ => bad _ st17.1) (fun z3 => ?_)
    have f3 : R 0 3 (h17 122 (a + 3)) := by
      rw [v17]
      rcases w1 with w | w
      · exact absurd w z3
      · exact w
    refine s_jn2 (P := fun _ g => RT g ∧ g 122 = h17 122) (fun x19 h20 w => ?_) (fun j18 kj => ?_)
    · obtain ⟨w4, w5⟩ := w
      rw [c4, lt_e, c4, i4]
      have st21 := rt122 w4 (j := a + 4) (by omega) x19
      have k21 : ∀ j, j < a + 4 → up h20 122 (a + 4) x19 122 j = h17 122 j := fun j hj => by rw [up_oj (by omega), w5]
      generalize up h20 122 (a + 4) x19 = h21 at st21 k21 ⊢
      refine s_if (fun _ => bad _ st21.1) (fun _ => ?_)
      refine s_bd2 (sf_m_readMark 59 st21) (fun r22 h23 q => ?_)
      have k23 : h23 122 = h21 122 := q.2.2 122 (by decide)
      refine s_some ⟨q.2.1.1, fun _ => ⟨q.2.1, ?_, ?_, fun j hj => ?_⟩⟩
      · show R 0 11 (h23 122 (a + 2))
        rw [k23, k21 _ (by omega), k17 _ (by omega)]; exact f2
      · show R 0 3 (h23 122 (a + 3))
        rw [k23, k21 _ (by omega)]; exact f3
      · show h23 122 j = h 122 j
        rw [k23, k21 _ (by omega), k17 _ (by omega)]; exact k13 j hj
    · have n199 : Sf (bd2 (mm_readNumber 1 99 h17) fun r25 h26 => j18 r25 h26) (DeedQ a h) := s_bd2 (sf_m_readNumber 1 99 (a := 1) (b := 99) st17 (fun v h1 h2 => le_rng rfl rfl h1 h2)) (fun r25 h26 q => kj _ _ ⟨q.2.1, q.2.2 122 (by decide)⟩)
      rw [jn0_e]
      exact s_if (fun _ => n199) (fun _ => s_if (fun _ => n199) (fun _ => kj _ _ ⟨st17, rfl⟩))
  · refine s_if (fun _ => ?_) (fun _ => kj _ _ ⟨Or.inr ⟨by decide, by decide⟩, st13, rfl⟩)
    exact s_bd2 (sf_m_readNumber 0 3 (a := 0) (b := 3) st13 (fun v h1 h2 => le_rng rfl rfl h1 h2)) (fun r27 h28 q => kj _ _ ⟨q.1, q.2.1, q.2.2 122 (by decide)⟩)
theorem office_go : ∀ (n k : Nat) (hv : PH), 16 < n + k → k ≤ 16 → RT hv → (∀ l, l < k → DD l hv) → Sf (mm_readOffice_L2 (fun (h5 : PH) => bd2 (mm_errs 3 h5) fun r6 h7 => some (r6, h7)) (fun (x8 : Int32) (h9 : PH) => if (h9 104 14) = 0 then some (x8, h9) else bd2 (mm_errs 1 h9) fun r10 h11 => some (r10, h11)) n (nI k) hv) (TQ fun k g => ∀ l, l < k → DD l g) := by
  intro n
  induction n with
  | zero => intro k hv h1 h2; omega
  | succ n ih =>
    intro k hv hn hk st dd
    rw [mm_readOffice_L2]
    refine s_word (fun r1 _ => ?_)
    refine s_if (fun _ => ?_) (fun _ => ?_)
    · exact s_if (fun _ => s_some (Or.inr ⟨k, rfl, hk, st, dd⟩)) (fun _ => er_T 1 st.1)
    · refine s_if (fun _ => er_T 3 st.1) (fun n16 => ?_)
      have hk2 := k16 hk n16
      have e : (80 : Int32) + 5 * nI k = nI (80 + 5 * k) := by rw [show (5 : Int32) * nI k = nI (5 * k) from nI_mul 5 k]; exact nI_add 80 (5 * k)
      rw [e]
      refine s_bd2 (sf_m_readDeed (80 + 5 * k) (by omega) st) (fun r2 h3 q => ?_)
      obtain ⟨q1, q2⟩ := q
      have q1 : IM h3 := q1
      refine s_if (fun _ => s_some (Or.inl ⟨rfl, q1⟩)) (fun nz => ?_)
      obtain ⟨y1, y2, y3, y4⟩ := q2 nz
      have y4 : ∀ j, j < 80 + 5 * k → h3 122 j = hv 122 j := y4
      rw [lt_e, nI_1]
      refine ih (k + 1) h3 (by omega) (by omega) y1 (fun l hl => ?_)
      by_cases el : l = k
      · subst el; exact ⟨y2, y3⟩
      · obtain ⟨d1, d2⟩ := dd l (by omega)
        exact ⟨by rw [y4 _ (by omega)]; exact d1, by rw [y4 _ (by omega)]; exact d2⟩
theorem sf_m_readOffice {h : PH} (st : RT h) : Sf (mm_readOffice h) (TQ fun k g => ∀ l, l < k → DD l g) := by
  unfold mm_readOffice
  have := office_go FU 0 h (by unfold FU; omega) (by omega) st (fun l hl => by omega)
  rw [nI_0] at this
  exact this
theorem rt123 {h : PH} (st : RT h) {j : Nat} (v : Int32) : RT (up h 123 j v) := rt_put st v rfl (by decide) (by decide)
theorem ck12 {ρ : Type} {r : Int32} (f : R 0 11 r) (q : Option ρ) : ck (12 + r) 24 q = q := by
  obtain ⟨k, k1, k2, rfl⟩ := nat_of f (by decide)
  rw [show (12 : Int32) + nI k = nI (12 + k) from nI_add 12 k]
  exact ck_nI (by omega) (by decide)
theorem sf_m_readNext {h : PH} (st : RT h) : Sf (mm_readNext h) (fun r => RT r.2) := by
  unfold mm_readNext
  have hs : ∀ g, RT g → ∀ v, (0 : Int32) ≤ v → v ≤ g 104 6 - 1 → R 0 11 v := fun g sg v h1 h2 => by
    have f6 : R 0 12 (g 104 6) := inv_rng sg.1.1 rfl
    have f7 : R (-1) 11 (g 104 6 - 1) := r_sub f6 (show R 1 1 (1 : Int32) from ⟨by decide, by decide⟩) (by decide)
    rw [Int32.le_iff_toInt_le] at h1 h2
    have := f7.2
    exact ⟨h1, by omega⟩
  refine s_bd2 (sf_m_readTold 25 0 (h 104 6 - 1) (a := 0) (b := 11) st (hs h st)) (fun r1 h2 q => ?_)
  have st2 : RT h2 := q.2.1
  refine s_if (fun _ => s_some st2) (fun z1 => ?_)
  have f1 : R 0 11 r1 := by
    rcases q.1 with w | w
    · exact absurd w z1
    · exact w
  refine s_word (fun r3 _ => ?_)
  refine s_if (fun _ => s_w (rt_errs 1 st2 0 0) (fun r q => q.2.1)) (fun _ => ?_)
  refine s_bd (rt_reads st2) (fun h6 q6 => ?_)
  have main : Sf (bd2 (mm_readNumber 0 ((h6 104 6) - 1) h6) fun r8 h9 => if r8 = (-1) then some ((-1 : Int32), h9) else ck (12 + r1) 24 <| ck (12 + r1) 24 <| lt (up h9 123 (ix (12 + r1)) ((h9 123 (ix (12 + r1))) ||| (1 <<< (r8 &&& 31)))) fun h10 => ck (12 + r8) 24 <| ck (12 + r8) 24 <| lt (up h10 123 (ix (12 + r8)) ((h10 123 (ix (12 + r8))) ||| (1 <<< (r1 &&& 31)))) fun h11 => bd2 (mm_readMark 59 h11) fun r12 h13 => some (r12, h13)) (fun r => RT r.2) := by
    refine s_bd2 (sf_m_readNumber 0 (h6 104 6 - 1) (a := 0) (b := 11) q6.1 (hs h6 q6.1)) (fun r8 h9 q9 => ?_)
    have st9 : RT h9 := q9.2.1
    refine s_if (fun _ => s_some st9) (fun z8 => ?_)
    have f8 : R 0 11 r8 := by
      rcases q9.1 with w | w
      · exact absurd w z8
      · exact w
    rw [ck12 f1, ck12 f1, lt_e, ck12 f8, ck12 f8, lt_e]
    exact s_bd2 (sf_m_readMark 59 (rt123 (rt123 st9 _) _)) (fun r12 h13 q => s_some q.2.1)
  rw [jn0_e]
  exact s_if (fun _ => s_if (fun _ => s_w (rt_errs 2 q6.1 0 0) (fun r q => q.2.1)) (fun _ => main)) (fun _ => main)
theorem nexts_go : ∀ (n k : Nat) (hv : PH), 16 < n + k → k ≤ 16 → RT hv → Sf (mm_readNexts_L26 (fun (h7 : PH) => bd2 (mm_errs 3 h7) fun r8 h9 => some (r8, h9)) (fun (x10 : Int32) (h11 : PH) => if (h11 104 14) = 0 then some (x10, h11) else bd2 (mm_errs 1 h11) fun r12 h13 => some (r12, h13)) n (nI k) hv) (TQ fun _ _ => True) := by
  intro n
  induction n with
  | zero => intro k hv h1 h2; omega
  | succ n ih =>
    intro k hv hn hk st
    rw [mm_readNexts_L26]
    refine s_word (fun r1 _ => ?_)
    refine s_if (fun _ => ?_) (fun _ => ?_)
    · exact s_if (fun _ => s_some (Or.inr ⟨k, rfl, hk, st, trivial⟩)) (fun _ => er_T 1 st.1)
    · refine s_if (fun _ => er_T 3 st.1) (fun n16 => ?_)
      have hk2 := k16 hk n16
      refine s_bd2 (sf_m_readNext st) (fun r2 h3 q => ?_)
      have q : RT h3 := q
      refine s_if (fun _ => s_some (Or.inl ⟨rfl, q.1⟩)) (fun _ => ?_)
      rw [lt_e, nI_1]
      exact ih (k + 1) h3 (by omega) (by omega) q
theorem nexts0 (k0 : PH → Option (Int32 × PH)) {Q : Int32 × PH → Prop} (hk0 : ∀ g, RT g → Sf (k0 g) Q) : ∀ (n k : Nat) (hv : PH), 12 < n + k → k ≤ 12 → RT hv → Sf (mm_readNexts_L2 k0 n (nI k) hv) Q := by
  intro n
  induction n with
  | zero => intro k hv h1 h2; omega
  | succ n ih =>
    intro k hv hn hk st
    rw [mm_readNexts_L2]
    refine s_if (fun _ => hk0 hv st) (fun c => ?_)
    have hk2 : k < 12 := by
      by_cases e : k = 12
      · subst e; exact absurd (by decide) c
      · omega
    rw [show (12 : Int32) + nI k = nI (12 + k) from nI_add 12 k, ck_nI (by omega) (by decide), lt_e, nI_1]
    exact ih (k + 1) _ (by omega) (by omega) (rt123 st _)
theorem sf_m_readNexts {h : PH} (st : RT h) : Sf (mm_readNexts h) (TQ fun _ _ => True) := by
  unfold mm_readNexts
  have := nexts0 (fun (h2 : PH) => mm_readNexts_L26 (fun (h7 : PH) => bd2 (mm_errs 3 h7) fun r8 h9 => some (r8, h9)) (fun (x10 : Int32) (h11 : PH) => if (h11 104 14) = 0 then some (x10, h11) else bd2 (mm_errs 1 h11) fun r12 h13 => some (r12, h13)) FU 0 h2) (Q := TQ fun _ _ => True) (fun g sg => by
    have := nexts_go FU 0 g (by unfold FU; omega) (by omega) sg
    rw [nI_0] at this
    exact this) FU 0 h (by unfold FU; omega) (by omega) st
  rw [nI_0] at this
  exact this
/-! the taking of the other texts -/
theorem to7 (p2 : Int32) (k0 : PH → Option PH) {Q : PH → Prop} (hk0 : ∀ g, IM g → Sf (k0 g) Q) : ∀ (n k : Nat) (hv : PH), 12 < n + k → k ≤ 12 → IM hv → Sf (mm_takesOther_L7 p2 k0 n (nI k) hv) Q := by
  intro n
  induction n with
  | zero => intro k hv h1 h2; omega
  | succ n ih =>
    intro k hv hn hk st
    rw [mm_takesOther_L7]
    refine s_if (fun _ => hk0 hv st) (fun c => ?_)
    have hk2 : k < 12 := by
      by_cases e : k = 12
      · subst e; exact absurd (by decide) c
      · omega
    rw [show (12 : Int32) + nI k = nI (12 + k) from nI_add 12 k, ck_nI (by omega) (by decide), ck_nI (by omega) (by decide), lt_e, nI_1]
    exact ih (k + 1) _ (by omega) (by omega) (im_put st (show sp 123 (ix (nI k)) = (-2147483648, 2147483647) from rfl) (r_full _) (by decide))
theorem to47 (m : Nat) (hm : m ≤ 16) (k0 : PH → Option PH) {Q : PH → Prop} (hk0 : ∀ g, IM g → Sf (k0 g) Q) : ∀ (n k : Nat) (hv : PH), 48 < n + k → k ≤ 3 * m → IM hv → Sf (mm_takesOther_L47 (nI m) k0 n (nI k) hv) Q := by
  intro n
  induction n with
  | zero => intro k hv h1 h2; omega
  | succ n ih =>
    intro k hv hn hk st
    rw [mm_takesOther_L47, show (3 : Int32) * nI m = nI (3 * m) from nI_mul 3 m]
    by_cases e : k = 3 * m
    · subst e
      rw [if_pos (nI_le (Nat.le_refl _) (by omega))]
      exact hk0 hv st
    · rw [if_neg (nI_ge (by omega) (by omega)), show (48 : Int32) + nI k = nI (48 + k) from nI_add 48 k, ck_nI (by omega) (by decide), ck_nI (by omega) (by decide), lt_e, nI_1]
      exact ih (k + 1) _ (by omega) (by omega) (im_put st (show sp 121 (ix (nI k)) = (-2147483648, 2147483647) from rfl) (r_full _) (by decide))
theorem to85 (m : Nat) (hm : m ≤ 16) (k0 : PH → Option PH) {Q : PH → Prop} (hk0 : ∀ g, IM g → Sf (k0 g) Q) : ∀ (n k : Nat) (hv : PH), 80 < n + k → k ≤ 5 * m → IM hv → (∀ l, l < m → DD l hv) → Sf (mm_takesOther_L85 (nI m) k0 n (nI k) hv) Q := by
  intro n
  induction n with
  | zero => intro k hv h1 h2; omega
  | succ n ih =>
    intro k hv hn hk st dd
    rw [mm_takesOther_L85, show (5 : Int32) * nI m = nI (5 * m) from nI_mul 5 m]
    by_cases e : k = 5 * m
    · subst e
      rw [if_pos (nI_le (Nat.le_refl _) (by omega))]
      exact hk0 hv st
    · rw [if_neg (nI_ge (by omega) (by omega)), show (80 : Int32) + nI k = nI (80 + k) from nI_add 80 k, ck_nI (by omega) (by decide), ck_nI (by omega) (by decide), lt_e, nI_1, show ix (nI k) = k from nI_clamp (by omega), show ix (nI (80 + k)) = 80 + k from nI_clamp (by omega)]
      refine ih (k + 1) _ (by omega) (by omega) ?_ (fun l hl => ?_)
      · by_cases k2 : k % 5 = 2
        · have es : sp 122 k = (0, 11) := by
            show spD k = _
            unfold spD
            rw [if_pos ⟨by omega, k2⟩]
          have d := (dd (k / 5) (by omega)).1
          rw [show 80 + 5 * (k / 5) + 2 = 80 + k by omega] at d
          exact im_put st es d (by decide)
        · by_cases k3 : k % 5 = 3
          · have es : sp 122 k = (0, 3) := by
              show spD k = _
              unfold spD
              rw [if_neg (by omega), if_pos ⟨by omega, k3⟩]
            have d := (dd (k / 5) (by omega)).2
            rw [show 80 + 5 * (k / 5) + 3 = 80 + k by omega] at d
            exact im_put st es d (by decide)
          · have es : sp 122 k = (-2147483648, 2147483647) := by
              show spD k = _
              unfold spD
              rw [if_neg (by omega), if_neg (by omega)]
              rfl
            exact im_put st es (r_full _) (by decide)
      · obtain ⟨d1, d2⟩ := dd l hl
        exact ⟨by rw [up_oj (by omega)]; exact d1, by rw [up_oj (by omega)]; exact d2⟩
theorem im_104 {h : PH} (i : IM h) {j : Nat} {a b : Int} {v : Int32} (e : sp 104 j = (a, b)) (hv : R a b v) : IM (up h 104 j v) := im_put i e hv (by decide)
theorem sf_m_takesOther (p1 : Int32) (m : Nat) (hm : m ≤ 16) {h : PH} (i : IM h) (dd : p1 = 1 ∨ p1 = 3 ∨ ∀ l, l < m → DD l h) : Sf (mm_takesOther p1 (nI m) h) IM := by
  unfold mm_takesOther
  have rm : R 0 16 (nI m) := ⟨by rw [nI_toInt (by omega)]; omega, by rw [nI_toInt (by omega)]; omega⟩
  have z0 : R 0 6 (0 : Int32) := ⟨by decide, by decide⟩
  refine s_if (fun _ => ?_) (fun n3 => ?_)
  · have := to7 (nI m) (fun (h2 : PH) => lt (up h2 104 37 (nI m)) fun h3 => some h3) (Q := IM) (fun g ig => by
      rw [lt_e]
      exact s_some (im_104 ig (show sp 104 37 = (0, 16) from rfl) rm)) FU 0 h (by unfold FU; omega) (by omega) i
    rw [nI_0] at this
    exact this
  · refine s_jn1 (P := IM) (fun h5 i5 => ?_) (fun j4 kj => ?_)
    · rw [lt_e]
      exact s_some (im_104 i5 (show sp 104 3 = (0, 6) from rfl) z0)
    · refine s_if (fun _ => ?_) (fun n1 => ?_)
      · have := to47 m hm (fun (h8 : PH) => lt (up h8 104 33 (nI m)) fun h9 => j4 h9) (Q := IM) (fun g ig => by
          rw [lt_e]
          exact kj _ (im_104 ig (show sp 104 33 = (0, 16) from rfl) rm)) FU 0 h (by unfold FU; omega) (by omega) i
        rw [nI_0] at this
        exact this
      · have d2 : ∀ l, l < m → DD l h := by
          rcases dd with w | w | w
          · exact absurd w n1
          · exact absurd w n3
          · exact w
        have := to85 m hm (fun (h8 : PH) => lt (up h8 104 35 (nI m)) fun h9 => j4 h9) (Q := IM) (fun g ig => by
          rw [lt_e]
          exact kj _ (im_104 ig (show sp 104 35 = (0, 16) from rfl) rm)) FU 0 h (by unfold FU; omega) (by omega) i d2
        rw [nI_0] at this
        exact this
/-! text -/
def XQ (p1 : Int32) (r : Int32 × PH) : Prop := (r.1 = -1 ∧ IM r.2) ∨ (p1 = 0 ∧ ∃ k c, r.1 = nI k ∧ k ≤ 16 ∧ c ≤ 400 ∧ IM r.2 ∧ r.2 104 25 = nI c ∧ r.2 104 24 = 0 ∧ ∀ l, l < k → DL l c r.2) ∨ (¬ p1 = 0 ∧ ∃ k, r.1 = nI k ∧ k ≤ 16 ∧ IM r.2 ∧ (p1 = 1 ∨ p1 = 3 ∨ ∀ l, l < k → DD l r.2))
theorem sf_m_readsText (p1 : Int32) (hp : R 0 3 p1) {h : PH} (i : IM h) (e12 : h 104 12 = 0) (e25 : h 104 25 = 0) (e26 : h 104 26 = 0) : Sf (mm_readsText p1 h) (XQ p1) := by
  unfold mm_readsText
  rw [lt_e]
  have i1 : IM (up h 104 24 0) := im_104 i (show sp 104 24 = (-2147483648, 2147483647) from rfl) (r_full _)
  have t1 : (up h 104 24 0 104 12).toInt ≤ (up h 104 24 0 104 11).toInt := by
    rw [up_oj (by decide), up_oj (by decide), e12]
    exact (rtp i).1
  have s1 : (((0 : Nat) : Int)) + ((0 : Nat) : Int) ≤ (up h 104 24 0 104 12).toInt := by
    rw [up_oj (by decide), e12]
    decide
  have e1 : up h 104 24 0 104 25 = nI 0 := by rw [up_oj (by decide)]; exact e25
  refine s_bd (rs_reads (c := 0) (k := 0) i1 e1 t1 s1) (fun h2 q => ?_)
  obtain ⟨st, fr⟩ := q
  have rt : RT h2 := ⟨st.1, st.2.2.1⟩
  have w24 : h2 104 24 = 0 := by rw [fr.2 24 (by decide) (by decide) (by decide) (by decide), up_same]
  have w26 : h2 104 26 = 0 := by rw [fr.2 26 (by decide) (by decide) (by decide) (by decide), up_oj (by decide)]; exact e26
  refine s_if (fun c1 => ?_) (fun n1 => ?_)
  · refine s_bd2 (sf_m_readSky rt) (fun r3 h4 q => s_some ?_)
    rcases q with q | ⟨k, q1, q2, q3, -⟩
    · exact Or.inl q
    · exact Or.inr (Or.inr ⟨by rw [c1]; decide, k, q1, q2, q3.1, Or.inl c1⟩)
  refine s_if (fun c2 => ?_) (fun n2 => ?_)
  · refine s_bd2 (sf_m_readOffice rt) (fun r3 h4 q => s_some ?_)
    rcases q with q | ⟨k, q1, q2, q3, q4⟩
    · exact Or.inl q
    · exact Or.inr (Or.inr ⟨by rw [c2]; decide, k, q1, q2, q3.1, Or.inr (Or.inr q4)⟩)
  refine s_if (fun c3 => ?_) (fun n3 => ?_)
  · refine s_bd2 (sf_m_readNexts rt) (fun r3 h4 q => s_some ?_)
    rcases q with q | ⟨k, q1, q2, q3, -⟩
    · exact Or.inl q
    · exact Or.inr (Or.inr ⟨by rw [c3]; decide, k, q1, q2, q3.1, Or.inr (Or.inl c3)⟩)
  · have p0 : p1 = 0 := by
      obtain ⟨k, k1, k2, rfl⟩ := nat_of hp (by decide)
      have h4 : k = 0 ∨ k = 1 ∨ k = 2 ∨ k = 3 := by omega
      rcases h4 with rfl | rfl | rfl | rfl
      · rfl
      · exact absurd rfl n1
      · exact absurd rfl n2
      · exact absurd rfl n3
    refine s_bd2 (sf_m_readLaw st w24 w26) (fun r3 h4 q => s_some ?_)
    rcases q with q | ⟨k, c, q1, q2, q3, q4, q5⟩
    · exact Or.inl q
    · exact Or.inr (Or.inl ⟨p0, k, c, q1, q2, by have := rs_le q3; omega, q3.1, q3.2.1, q4, q5⟩)
theorem dl_104 {l c j : Nat} {h : PH} {v : Int32} (d : DL l c h) : DL l c (up h 104 j v) := by
  obtain ⟨a, b, e, y1, y2, y3, y4, y5, y6, y7, y8⟩ := d
  refine ⟨a, b, e, by rw [up_oc (by decide)]; exact y1, by rw [up_oc (by decide)]; exact y2, by rw [up_oc (by decide)]; exact y3, y4, y5, y6, ?_, ?_⟩
  · rw [dOp_up (by decide), dAr_up (by decide)]; exact y7
  · rw [dOp_up (by decide), dAr_up (by decide)]; exact y8
theorem sf_m_text (p1 : Int32) {h0 : PH} (i : IM h0) : Sf (mm_text p1 h0) (fun r => IM r.2) := by
  unfold mm_text
  rw [lt_e, lt_e, lt_e, lt_e, lt_e, lt_e]
  have z400 : R 0 400 (0 : Int32) := ⟨by decide, by decide⟩
  have i6 : IM (up (up (up (up (up (up h0 104 0 0) 104 31 0) 104 32 (-1)) 104 12 0) 104 25 0) 104 26 0) := by
    refine im_104 (im_104 (im_104 (im_104 (im_104 (im_104 i (show sp 104 0 = (-2147483648, 2147483647) from rfl) (r_full _)) (show sp 104 31 = (-2147483648, 2147483647) from rfl) (r_full _)) (show sp 104 32 = (-2147483648, 2147483647) from rfl) (r_full _)) (show sp 104 12 = (0, 400) from rfl) z400) (show sp 104 25 = (-2147483648, 2147483647) from rfl) (r_full _)) (show sp 104 26 = (-2147483648, 2147483647) from rfl) (r_full _)
  have e26 : up (up (up (up (up (up h0 104 0 0) 104 31 0) 104 32 (-1)) 104 12 0) 104 25 0) 104 26 0 104 26 = 0 := up_same
  have e25 : up (up (up (up (up (up h0 104 0 0) 104 31 0) 104 32 (-1)) 104 12 0) 104 25 0) 104 26 0 104 25 = 0 := by rw [up_oj (by decide), up_same]
  have e12 : up (up (up (up (up (up h0 104 0 0) 104 31 0) 104 32 (-1)) 104 12 0) 104 25 0) 104 26 0 104 12 = 0 := by rw [up_oj (by decide), up_oj (by decide), up_same]
  generalize up (up (up (up (up (up h0 104 0 0) 104 31 0) 104 32 (-1)) 104 12 0) 104 25 0) 104 26 0 = h6 at i6 e26 e25 e12 ⊢
  refine s_isin (fun r7 _ w7 => ?_)
  refine s_jn2 (P := fun x g => XQ p1 (x, g)) (fun x9 h10 q => ?_) (fun j8 kj => ?_)
  · rw [lt_e]
    have t11 : ∀ g, IM g → IM (up g 104 11 0) := fun g ig => im_104 ig (show sp 104 11 = (0, 400) from rfl) z400
    rcases q with ⟨q1, q2⟩ | ⟨q0, k, c, q1, q2, q3, q4, q5, q6, q7⟩ | ⟨q0, k, q1, q2, q3, q4⟩
    · have q1 : x9 = -1 := q1
      rw [if_pos q1]
      exact s_some (t11 _ q2)
    · have q1 : x9 = nI k := q1
      refine s_if (fun _ => s_some (t11 _ q4)) (fun _ => ?_)
      rw [if_pos q0, q1]
      refine s_bd (sf_m_takesLaw k c q2 q3 _ (t11 _ q4) (by rw [up_oj (by decide)]; exact q5) (by rw [up_oj (by decide)]; exact q6) (fun l hl => dl_104 (q7 l hl))) (fun h12 i12 => s_some i12)
    · have q1 : x9 = nI k := q1
      refine s_if (fun _ => s_some (t11 _ q3)) (fun _ => ?_)
      rw [if_neg q0, q1]
      refine s_bd (sf_m_takesOther p1 k q2 (t11 _ q3) ?_) (fun h12 i12 => s_some i12)
      rcases q4 with w | w | w
      · exact Or.inl w
      · exact Or.inr (Or.inl w)
      · exact Or.inr (Or.inr (fun l hl => by
          obtain ⟨d1, d2⟩ := w l hl
          exact ⟨by rw [up_oc (by decide)]; exact d1, by rw [up_oc (by decide)]; exact d2⟩))
  · refine s_if (fun _ => kj _ _ (Or.inl ⟨rfl, i6⟩)) (fun n7 => ?_)
    have rp : R 0 3 p1 := le_rng rfl rfl (w7 n7).1 (w7 n7).2
    refine s_bd2 (sf_m_readsText p1 rp i6 e12 e25 e26) (fun r14 h15 q => ?_)
    refine s_if (fun c14 => ?_) (fun _ => kj _ _ q)
    rw [lt_e, lt_e]
    have i15 : IM h15 := by
      rcases q with ⟨-, q2⟩ | ⟨-, k, c, -, -, -, q4, -⟩ | ⟨-, k, -, -, q3, -⟩
      · exact q2
      · exact q4
      · exact q3
    refine kj _ _ (Or.inl ⟨c14, ?_⟩)
    exact im_104 (im_104 i15 (show sp 104 31 = (-2147483648, 2147483647) from rfl) (r_full _)) (show sp 104 32 = (-2147483648, 2147483647) from rfl) (r_full _)
end
section
/-! SAFETY of a call on both sides -/
theorem law_c {h g : PH} (i : IM h) (ig : Inv g) (e : ∀ b, 104 ≤ b → g b = h b) : IM g := by
  refine ⟨ig, ?_, ?_⟩
  · unfold LawOK
    rw [e 113 (by decide), e 115 (by decide), e 116 (by decide), e 117 (by decide), e 118 (by decide), e 119 (by decide)]
    exact i.2.1
  · unfold LawImg
    rw [e 148 (by decide)]
    exact i.2.2
theorem gi_c {h g : PH} (gi : GI h) (e1 : g 102 = h 102) (e2 : g 103 = h 103) : GI g := by
  unfold GI
  rw [e1, e2]
  exact gi
/-- what a call does: both sides end, each leaves the other's cells -/
def CS (h h1 h2 : PH) : Prop := IM h2 ∧ GI h2 ∧ Inv h1 ∧ (∀ b, 104 ≤ b → h1 b = h b) ∧ ∀ b, b < 104 → h2 b = h1 b
theorem cs_mk {S T : List Nat} {h h1 h2 : PH} (i : IM h) (gi : GI h) (i1 : Inv h1) (f1 : Fr S h1 h) (hS : ∀ b, b ∈ S → b < 102) (i2 : IM h1 → IM h2) (f2 : Fr T h2 h1) (hT : ∀ b, b ∈ T → 104 ≤ b) : CS h h1 h2 := by
  have a1 : ∀ b, 102 ≤ b → h1 b = h b := fun b hb => f1 b (fun q => by have := hS b q; omega)
  have a2 : ∀ b, b < 104 → h2 b = h1 b := fun b hb => f2 b (fun q => by have := hT b q; omega)
  exact ⟨i2 (law_c i i1 (fun b hb => a1 b (by omega))), gi_c (gi_c gi (a1 102 (by decide)) (a1 103 (by decide))) (a2 102 (by decide)) (a2 103 (by decide)), i1, fun b hb => a1 b (by omega), a2⟩
theorem cs_state (a1 : Int32) (h : PH) (i : IM h) (gi : GI h) : ∃ rX h1 rm h2, mX_state a1 h = some (rX, h1) ∧ mm_state a1 h1 = some (rm, h2) ∧ CS h h1 h2 := by
  obtain ⟨⟨rX, h1⟩, e1, q1⟩ := sf_X_state a1 i.1
  have f1 := fpX_state a1 h e1
  have hS : ∀ b, b ∈ FPdX_state a1 → b < 102 := (by decide : ∀ b, b ∈ FPdX_state 0 → b < 102)
  have i1 : IM h1 := law_c i q1.2 (fun b hb => f1 b (fun q => by have := hS b q; omega))
  obtain ⟨⟨rm, h2⟩, e2, q⟩ := sf_m_state a1 i1
  exact ⟨rX, h1, rm, h2, e1, e2, cs_mk i gi q1.2 f1 hS (fun _ => q.2) (fpm_state a1 h1 e2) (show ∀ b, b ∈ FPdm_state a1 → 104 ≤ b from (by decide : ∀ b, b ∈ FPdm_state 0 → 104 ≤ b))⟩
theorem cs_house (a1 a2 a3 : Int32) (h : PH) (i : IM h) (gi : GI h) : ∃ rX h1 rm h2, mX_house a1 a2 a3 h = some (rX, h1) ∧ mm_house a1 a2 a3 h1 = some (rm, h2) ∧ CS h h1 h2 := by
  obtain ⟨⟨rX, h1⟩, e1, q1⟩ := sf_X_house a1 a2 a3 i.1
  have f1 := fpX_house a1 a2 a3 h e1
  have hS : ∀ b, b ∈ FPdX_house a1 a2 a3 → b < 102 := (by decide : ∀ b, b ∈ FPdX_house 0 0 0 → b < 102)
  have i1 : IM h1 := law_c i q1.2 (fun b hb => f1 b (fun q => by have := hS b q; omega))
  obtain ⟨⟨rm, h2⟩, e2, q⟩ := sf_m_house a1 a2 a3 i1
  exact ⟨rX, h1, rm, h2, e1, e2, cs_mk i gi q1.2 f1 hS (fun _ => q.2) (fpm_house a1 a2 a3 h1 e2) (show ∀ b, b ∈ FPdm_house a1 a2 a3 → 104 ≤ b from (by decide : ∀ b, b ∈ FPdm_house 0 0 0 → 104 ≤ b))⟩
theorem cs_set (a1 a2 a3 : Int32) (h : PH) (i : IM h) (gi : GI h) : ∃ rX h1 rm h2, mX_set a1 a2 a3 h = some (rX, h1) ∧ mm_set a1 a2 a3 h1 = some (rm, h2) ∧ CS h h1 h2 := by
  obtain ⟨⟨rX, h1⟩, e1, q1⟩ := sf_X_set a1 a2 a3 i.1
  have f1 := fpX_set a1 a2 a3 h e1
  have hS : ∀ b, b ∈ FPdX_set a1 a2 a3 → b < 102 := (by decide : ∀ b, b ∈ FPdX_set 0 0 0 → b < 102)
  have i1 : IM h1 := law_c i q1.2 (fun b hb => f1 b (fun q => by have := hS b q; omega))
  obtain ⟨⟨rm, h2⟩, e2, q⟩ := sf_m_set a1 a2 a3 i1
  exact ⟨rX, h1, rm, h2, e1, e2, cs_mk i gi q1.2 f1 hS (fun _ => q.2) (fpm_set a1 a2 a3 h1 e2) (show ∀ b, b ∈ FPdm_set a1 a2 a3 → 104 ≤ b from (by decide : ∀ b, b ∈ FPdm_set 0 0 0 → 104 ≤ b))⟩
theorem cs_act (a1 a2 a3 : Int32) (h : PH) (i : IM h) (gi : GI h) : ∃ rX h1 rm h2, mX_act a1 a2 a3 h = some (rX, h1) ∧ mm_act a1 a2 a3 h1 = some (rm, h2) ∧ CS h h1 h2 := by
  obtain ⟨⟨rX, h1⟩, e1, q1⟩ := sf_X_act a1 a2 a3 i.1
  have f1 := fpX_act a1 a2 a3 h e1
  have hS : ∀ b, b ∈ FPdX_act a1 a2 a3 → b < 102 := (by decide : ∀ b, b ∈ FPdX_act 0 0 0 → b < 102)
  have i1 : IM h1 := law_c i q1.2 (fun b hb => f1 b (fun q => by have := hS b q; omega))
  obtain ⟨⟨rm, h2⟩, e2, q⟩ := sf_m_act a1 a2 a3 i1
  exact ⟨rX, h1, rm, h2, e1, e2, cs_mk i gi q1.2 f1 hS (fun _ => q.2) (fpm_act a1 a2 a3 h1 e2) (show ∀ b, b ∈ FPdm_act a1 a2 a3 → 104 ≤ b from (by decide : ∀ b, b ∈ FPdm_act 0 0 0 → 104 ≤ b))⟩
theorem cs_quarters (a1 : Int32) (h : PH) (i : IM h) (gi : GI h) : ∃ rX h1 rm h2, mX_quarters a1 h = some (rX, h1) ∧ mm_quarters a1 h1 = some (rm, h2) ∧ CS h h1 h2 := by
  obtain ⟨⟨rX, h1⟩, e1, q1⟩ := sf_X_quarters a1 i.1
  have f1 := fpX_quarters a1 h e1
  have hS : ∀ b, b ∈ FPdX_quarters a1 → b < 102 := (by decide : ∀ b, b ∈ FPdX_quarters 0 → b < 102)
  have i1 : IM h1 := law_c i q1.2 (fun b hb => f1 b (fun q => by have := hS b q; omega))
  obtain ⟨⟨rm, h2⟩, e2, q⟩ := sf_m_quarters a1 i1
  exact ⟨rX, h1, rm, h2, e1, e2, cs_mk i gi q1.2 f1 hS (fun _ => q.2) (fpm_quarters a1 h1 e2) (show ∀ b, b ∈ FPdm_quarters a1 → 104 ≤ b from (by decide : ∀ b, b ∈ FPdm_quarters 0 → 104 ≤ b))⟩
theorem cs_feed (a1 a2 a3 a4 a5 : Int32) (h : PH) (i : IM h) (gi : GI h) : ∃ rX h1 rm h2, mX_feed a1 a2 a3 a4 a5 h = some (rX, h1) ∧ mm_feed a1 a2 a3 a4 a5 h1 = some (rm, h2) ∧ CS h h1 h2 := by
  obtain ⟨⟨rX, h1⟩, e1, q1⟩ := sf_X_feed a1 a2 a3 a4 a5 i.1
  have f1 := fpX_feed a1 a2 a3 a4 a5 h e1
  have hS : ∀ b, b ∈ FPdX_feed a1 a2 a3 a4 a5 → b < 102 := (by decide : ∀ b, b ∈ FPdX_feed 0 0 0 0 0 → b < 102)
  have i1 : IM h1 := law_c i q1.2 (fun b hb => f1 b (fun q => by have := hS b q; omega))
  obtain ⟨⟨rm, h2⟩, e2, q⟩ := sf_m_feed a1 a2 a3 a4 a5 i1
  exact ⟨rX, h1, rm, h2, e1, e2, cs_mk i gi q1.2 f1 hS (fun _ => q.2) (fpm_feed a1 a2 a3 a4 a5 h1 e2) (show ∀ b, b ∈ FPdm_feed a1 a2 a3 a4 a5 → 104 ≤ b from (by decide : ∀ b, b ∈ FPdm_feed 0 0 0 0 0 → 104 ≤ b))⟩
theorem cs_end (a1 : Int32) (h : PH) (i : IM h) (gi : GI h) : ∃ rX h1 rm h2, mX_end a1 h = some (rX, h1) ∧ mm_end a1 h1 = some (rm, h2) ∧ CS h h1 h2 := by
  obtain ⟨⟨rX, h1⟩, e1, q1⟩ := sf_X_end a1 i.1
  have f1 := fpX_end a1 h e1
  have hS : ∀ b, b ∈ FPdX_end a1 → b < 102 := (by decide : ∀ b, b ∈ FPdX_end 0 → b < 102)
  have i1 : IM h1 := law_c i q1.2 (fun b hb => f1 b (fun q => by have := hS b q; omega))
  obtain ⟨⟨rm, h2⟩, e2, q⟩ := sf_m_end a1 i1
  exact ⟨rX, h1, rm, h2, e1, e2, cs_mk i gi q1.2 f1 hS (fun _ => q.2) (fpm_end a1 h1 e2) (show ∀ b, b ∈ FPdm_end a1 → 104 ≤ b from (by decide : ∀ b, b ∈ FPdm_end 0 → 104 ≤ b))⟩
theorem cs_text (a1 : Int32) (h : PH) (i : IM h) (gi : GI h) : ∃ rX h1 rm h2, mX_text a1 h = some (rX, h1) ∧ mm_text a1 h1 = some (rm, h2) ∧ CS h h1 h2 := by
  obtain ⟨⟨rX, h1⟩, e1, q1⟩ := sf_X_text a1 i.1
  have f1 := fpX_text a1 h e1
  have hS : ∀ b, b ∈ FPdX_text a1 → b < 102 := (by decide : ∀ b, b ∈ FPdX_text 0 → b < 102)
  have i1 : IM h1 := law_c i q1.2 (fun b hb => f1 b (fun q => by have := hS b q; omega))
  obtain ⟨⟨rm, h2⟩, e2, q⟩ := sf_m_text a1 i1
  exact ⟨rX, h1, rm, h2, e1, e2, cs_mk i gi q1.2 f1 hS (fun _ => q) (fpm_text a1 h1 e2) (show ∀ b, b ∈ FPdm_text a1 → 104 ≤ b from (by decide : ∀ b, b ∈ FPdm_text 0 → 104 ≤ b))⟩
theorem cs_fault (a1 : Int32) (h : PH) (i : IM h) (gi : GI h) : ∃ rX rm h2, mX_fault a1 h = some rX ∧ mm_fault a1 h = some (rm, h2) ∧ CS h h h2 := by
  obtain ⟨rX, e1, -⟩ := sf_X_fault a1 i.1
  obtain ⟨⟨rm, h2⟩, e2, q⟩ := sf_m_fault a1 i
  exact ⟨rX, rm, h2, e1, e2, cs_mk (S := []) i gi i.1 (fun _ _ => rfl) (fun b q => absurd q (List.not_mem_nil)) (fun _ => q.2) (fpm_fault a1 h e2) (show ∀ b, b ∈ FPdm_fault a1 → 104 ≤ b from (by decide : ∀ b, b ∈ FPdm_fault 0 → 104 ≤ b))⟩
theorem cs_of (a1 a2 : Int32) (h : PH) (i : IM h) (gi : GI h) : ∃ rX h1 rm h2, mX_of a1 a2 h = some (rX, h1) ∧ mm_of a1 a2 h1 = some (rm, h2) ∧ CS h h1 h2 := by
  obtain ⟨⟨rX, h1⟩, e1, q1⟩ := sf_X_of a1 a2 i.1
  have f1 := fpX_of a1 a2 h e1
  have hS : ∀ b, b ∈ FPdX_of a1 a2 → b < 102 := (by decide : ∀ b, b ∈ FPdX_of 0 0 → b < 102)
  have i1 : IM h1 := law_c i q1.2 (fun b hb => f1 b (fun q => by have := hS b q; omega))
  obtain ⟨⟨rm, h2⟩, e2, q⟩ := sf_m_of a1 a2 i1
  exact ⟨rX, h1, rm, h2, e1, e2, cs_mk i gi q1.2 f1 hS (fun _ => q.2) (fpm_of a1 a2 h1 e2) (show ∀ b, b ∈ FPdm_of a1 a2 → 104 ≤ b from (by decide : ∀ b, b ∈ FPdm_of 0 0 → 104 ≤ b))⟩
theorem cs_book (a1 a2 : Int32) (h : PH) (i : IM h) (gi : GI h) : ∃ rX rm h2, mX_book a1 a2 h = some rX ∧ mm_book a1 a2 h = some (rm, h2) ∧ CS h h h2 := by
  obtain ⟨rX, e1, -⟩ := sf_X_book a1 a2 i.1
  obtain ⟨⟨rm, h2⟩, e2, q⟩ := sf_m_book a1 a2 i
  exact ⟨rX, rm, h2, e1, e2, cs_mk (S := []) i gi i.1 (fun _ _ => rfl) (fun b q => absurd q (List.not_mem_nil)) (fun _ => q.2) (fpm_book a1 a2 h e2) (show ∀ b, b ∈ FPdm_book a1 a2 → 104 ≤ b from (by decide : ∀ b, b ∈ FPdm_book 0 0 → 104 ≤ b))⟩
theorem cs_goes (a1 a2 : Int32) (h : PH) (i : IM h) (gi : GI h) : ∃ rX h1 rm h2, mX_goes a1 a2 h = some (rX, h1) ∧ mm_goes a1 a2 h1 = some (rm, h2) ∧ CS h h1 h2 := by
  obtain ⟨⟨rX, h1⟩, e1, q1⟩ := sf_X_goes a1 a2 i.1
  have f1 := fpX_goes a1 a2 h e1
  have hS : ∀ b, b ∈ FPdX_goes a1 a2 → b < 102 := (by decide : ∀ b, b ∈ FPdX_goes 0 0 → b < 102)
  have i1 : IM h1 := law_c i q1.2 (fun b hb => f1 b (fun q => by have := hS b q; omega))
  obtain ⟨⟨rm, h2⟩, e2, q⟩ := sf_m_goes a1 a2 i1
  exact ⟨rX, h1, rm, h2, e1, e2, cs_mk i gi q1.2 f1 hS (fun _ => q.2) (fpm_goes a1 a2 h1 e2) (show ∀ b, b ∈ FPdm_goes a1 a2 → 104 ≤ b from (by decide : ∀ b, b ∈ FPdm_goes 0 0 → 104 ≤ b))⟩
theorem cs_stands (a1 : Int32) (h : PH) (i : IM h) (gi : GI h) : ∃ rX h1 rm h2, mX_stands a1 h = some (rX, h1) ∧ mm_stands a1 h1 = some (rm, h2) ∧ CS h h1 h2 := by
  obtain ⟨⟨rX, h1⟩, e1, q1⟩ := sf_X_stands a1 i.1
  have f1 := fpX_stands a1 h e1
  have hS : ∀ b, b ∈ FPdX_stands a1 → b < 102 := (by decide : ∀ b, b ∈ FPdX_stands 0 → b < 102)
  have i1 : IM h1 := law_c i q1.2 (fun b hb => f1 b (fun q => by have := hS b q; omega))
  obtain ⟨⟨rm, h2⟩, e2, q⟩ := sf_m_stands a1 i1
  exact ⟨rX, h1, rm, h2, e1, e2, cs_mk i gi q1.2 f1 hS (fun _ => q.2) (fpm_stands a1 h1 e2) (show ∀ b, b ∈ FPdm_stands a1 → 104 ≤ b from (by decide : ∀ b, b ∈ FPdm_stands 0 → 104 ≤ b))⟩
theorem cs_hears (a1 a2 : Int32) (h : PH) (i : IM h) (gi : GI h) : ∃ rX h1 rm h2, mX_hears a1 a2 h = some (rX, h1) ∧ mm_hears a1 a2 h1 = some (rm, h2) ∧ CS h h1 h2 := by
  obtain ⟨⟨rX, h1⟩, e1, q1⟩ := sf_X_hears a1 a2 i.1
  have f1 := fpX_hears a1 a2 h e1
  have hS : ∀ b, b ∈ FPdX_hears a1 a2 → b < 102 := (by decide : ∀ b, b ∈ FPdX_hears 0 0 → b < 102)
  have i1 : IM h1 := law_c i q1.2 (fun b hb => f1 b (fun q => by have := hS b q; omega))
  obtain ⟨⟨rm, h2⟩, e2, q⟩ := sf_m_hears a1 a2 i1
  exact ⟨rX, h1, rm, h2, e1, e2, cs_mk i gi q1.2 f1 hS (fun _ => q.2) (fpm_hears a1 a2 h1 e2) (show ∀ b, b ∈ FPdm_hears a1 a2 → 104 ≤ b from (by decide : ∀ b, b ∈ FPdm_hears 0 0 → 104 ≤ b))⟩
theorem cs_heard (a1 a2 : Int32) (h : PH) (i : IM h) (gi : GI h) : ∃ rX h1 rm h2, mX_heard a1 a2 h = some (rX, h1) ∧ mm_heard a1 a2 h1 = some (rm, h2) ∧ CS h h1 h2 := by
  obtain ⟨⟨rX, h1⟩, e1, q1⟩ := sf_X_heard a1 a2 i.1
  have f1 := fpX_heard a1 a2 h e1
  have hS : ∀ b, b ∈ FPdX_heard a1 a2 → b < 102 := (by decide : ∀ b, b ∈ FPdX_heard 0 0 → b < 102)
  have i1 : IM h1 := law_c i q1.2 (fun b hb => f1 b (fun q => by have := hS b q; omega))
  obtain ⟨⟨rm, h2⟩, e2, q⟩ := sf_m_heard a1 a2 i1
  exact ⟨rX, h1, rm, h2, e1, e2, cs_mk i gi q1.2 f1 hS (fun _ => q.2) (fpm_heard a1 a2 h1 e2) (show ∀ b, b ∈ FPdm_heard a1 a2 → 104 ≤ b from (by decide : ∀ b, b ∈ FPdm_heard 0 0 → 104 ≤ b))⟩
theorem cs_ants (a1 a2 : Int32) (h : PH) (i : IM h) (gi : GI h) : ∃ rX h1 rm h2, mX_ants a1 a2 h = some (rX, h1) ∧ mm_ants a1 a2 h1 = some (rm, h2) ∧ CS h h1 h2 := by
  obtain ⟨⟨rX, h1⟩, e1, q1⟩ := sf_X_ants a1 a2 i.1
  have f1 := fpX_ants a1 a2 h e1
  have hS : ∀ b, b ∈ FPdX_ants a1 a2 → b < 102 := (by decide : ∀ b, b ∈ FPdX_ants 0 0 → b < 102)
  have i1 : IM h1 := law_c i q1.2 (fun b hb => f1 b (fun q => by have := hS b q; omega))
  obtain ⟨⟨rm, h2⟩, e2, q⟩ := sf_m_ants a1 a2 i1
  exact ⟨rX, h1, rm, h2, e1, e2, cs_mk i gi q1.2 f1 hS (fun _ => q.2) (fpm_ants a1 a2 h1 e2) (show ∀ b, b ∈ FPdm_ants a1 a2 → 104 ≤ b from (by decide : ∀ b, b ∈ FPdm_ants 0 0 → 104 ≤ b))⟩
theorem cs_piece (a1 : Int32) (h : PH) (i : IM h) (gi : GI h) : ∃ rX h1 rm h2, mX_piece a1 h = some (rX, h1) ∧ mm_piece a1 h1 = some (rm, h2) ∧ CS h h1 h2 := by
  obtain ⟨⟨rX, h1⟩, e1, q1⟩ := sf_X_piece a1 i.1
  have f1 := fpX_piece a1 h e1
  have hS : ∀ b, b ∈ FPdX_piece a1 → b < 102 := (by decide : ∀ b, b ∈ FPdX_piece 0 → b < 102)
  have i1 : IM h1 := law_c i q1.2 (fun b hb => f1 b (fun q => by have := hS b q; omega))
  obtain ⟨⟨rm, h2⟩, e2, q⟩ := sf_m_piece a1 i1
  exact ⟨rX, h1, rm, h2, e1, e2, cs_mk i gi q1.2 f1 hS (fun _ => q.2) (fpm_piece a1 h1 e2) (show ∀ b, b ∈ FPdm_piece a1 → 104 ≤ b from (by decide : ∀ b, b ∈ FPdm_piece 0 → 104 ≤ b))⟩
theorem cs_plate (a1 a2 : Int32) (h : PH) (i : IM h) (gi : GI h) : ∃ rX rm h2, mX_plate a1 a2 h = some rX ∧ mm_plate a1 a2 h = some (rm, h2) ∧ CS h h h2 := by
  obtain ⟨rX, e1, -⟩ := sf_X_plate a1 a2 i.1
  obtain ⟨⟨rm, h2⟩, e2, q⟩ := sf_m_plate a1 a2 i
  exact ⟨rX, rm, h2, e1, e2, cs_mk (S := []) i gi i.1 (fun _ _ => rfl) (fun b q => absurd q (List.not_mem_nil)) (fun _ => q.2) (fpm_plate a1 a2 h e2) (show ∀ b, b ∈ FPdm_plate a1 a2 → 104 ≤ b from (by decide : ∀ b, b ∈ FPdm_plate 0 0 → 104 ≤ b))⟩
theorem cs_dough (a1 : Int32) (h : PH) (i : IM h) (gi : GI h) : ∃ rX h1 rm h2, mX_dough a1 h = some (rX, h1) ∧ mm_dough a1 h1 = some (rm, h2) ∧ CS h h1 h2 := by
  obtain ⟨⟨rX, h1⟩, e1, q1⟩ := sf_X_dough a1 i.1
  have f1 := fpX_dough a1 h e1
  have hS : ∀ b, b ∈ FPdX_dough a1 → b < 102 := (by decide : ∀ b, b ∈ FPdX_dough 0 → b < 102)
  have i1 : IM h1 := law_c i q1.2 (fun b hb => f1 b (fun q => by have := hS b q; omega))
  obtain ⟨⟨rm, h2⟩, e2, q⟩ := sf_m_dough a1 i1
  exact ⟨rX, h1, rm, h2, e1, e2, cs_mk i gi q1.2 f1 hS (fun _ => q.2) (fpm_dough a1 h1 e2) (show ∀ b, b ∈ FPdm_dough a1 → 104 ≤ b from (by decide : ∀ b, b ∈ FPdm_dough 0 → 104 ≤ b))⟩
theorem cs_pans (a1 a2 : Int32) (h : PH) (i : IM h) (gi : GI h) : ∃ rX h1 rm h2, mX_pans a1 a2 h = some (rX, h1) ∧ mm_pans a1 a2 h1 = some (rm, h2) ∧ CS h h1 h2 := by
  obtain ⟨⟨rX, h1⟩, e1, q1⟩ := sf_X_pans a1 a2 i.1
  have f1 := fpX_pans a1 a2 h e1
  have hS : ∀ b, b ∈ FPdX_pans a1 a2 → b < 102 := (by decide : ∀ b, b ∈ FPdX_pans 0 0 → b < 102)
  have i1 : IM h1 := law_c i q1.2 (fun b hb => f1 b (fun q => by have := hS b q; omega))
  obtain ⟨⟨rm, h2⟩, e2, q⟩ := sf_m_pans a1 a2 i1
  exact ⟨rX, h1, rm, h2, e1, e2, cs_mk i gi q1.2 f1 hS (fun _ => q.2) (fpm_pans a1 a2 h1 e2) (show ∀ b, b ∈ FPdm_pans a1 a2 → 104 ≤ b from (by decide : ∀ b, b ∈ FPdm_pans 0 0 → 104 ≤ b))⟩
theorem cs_mortgage (a1 a2 a3 a4 : Int32) (h : PH) (i : IM h) (gi : GI h) : ∃ rX rm h2, mX_mortgage a1 a2 a3 a4 h = some rX ∧ mm_mortgage a1 a2 a3 a4 h = some (rm, h2) ∧ CS h h h2 := by
  obtain ⟨rX, e1, -⟩ := sf_X_mortgage a1 a2 a3 a4 i.1
  obtain ⟨⟨rm, h2⟩, e2, q⟩ := sf_m_mortgage a1 a2 a3 a4 i
  exact ⟨rX, rm, h2, e1, e2, cs_mk (S := []) i gi i.1 (fun _ _ => rfl) (fun b q => absurd q (List.not_mem_nil)) (fun _ => q.2) (fpm_mortgage a1 a2 a3 a4 h e2) (show ∀ b, b ∈ FPdm_mortgage a1 a2 a3 a4 → 104 ≤ b from (by decide : ∀ b, b ∈ FPdm_mortgage 0 0 0 0 → 104 ≤ b))⟩
theorem cs_mark (a1 : Int32) (h : PH) (i : IM h) (gi : GI h) : ∃ rX h1 rm h2, mX_mark a1 h = some (rX, h1) ∧ mm_mark a1 h1 = some (rm, h2) ∧ CS h h1 h2 := by
  obtain ⟨⟨rX, h1⟩, e1, q1⟩ := sf_X_mark a1 i.1
  have f1 := fpX_mark a1 h e1
  have hS : ∀ b, b ∈ FPdX_mark a1 → b < 102 := (by decide : ∀ b, b ∈ FPdX_mark 0 → b < 102)
  have i1 : IM h1 := law_c i q1.2 (fun b hb => f1 b (fun q => by have := hS b q; omega))
  obtain ⟨⟨rm, h2⟩, e2, q⟩ := sf_m_mark a1 i1
  exact ⟨rX, h1, rm, h2, e1, e2, cs_mk i gi q1.2 f1 hS (fun _ => q.2) (fpm_mark a1 h1 e2) (show ∀ b, b ∈ FPdm_mark a1 → 104 ≤ b from (by decide : ∀ b, b ∈ FPdm_mark 0 → 104 ≤ b))⟩
theorem cs_measures (a1 : Int32) (h : PH) (i : IM h) (gi : GI h) : ∃ rX rm h2, mX_measures a1 h = some rX ∧ mm_measures a1 h = some (rm, h2) ∧ CS h h h2 := by
  obtain ⟨rX, e1, -⟩ := sf_X_measures a1 i.1
  obtain ⟨⟨rm, h2⟩, e2, q⟩ := sf_m_measures a1 i
  exact ⟨rX, rm, h2, e1, e2, cs_mk (S := []) i gi i.1 (fun _ _ => rfl) (fun b q => absurd q (List.not_mem_nil)) (fun _ => q.2) (fpm_measures a1 h e2) (show ∀ b, b ∈ FPdm_measures a1 → 104 ≤ b from (by decide : ∀ b, b ∈ FPdm_measures 0 → 104 ≤ b))⟩
theorem cs_bite (a1 a2 : Int32) (h : PH) (i : IM h) (gi : GI h) : ∃ rX h1 rm h2, mX_bite a1 a2 h = some (rX, h1) ∧ mm_bite a1 a2 h1 = some (rm, h2) ∧ CS h h1 h2 := by
  obtain ⟨⟨rX, h1⟩, e1, q1⟩ := sf_X_bite a1 a2 i.1
  have f1 := fpX_bite a1 a2 h e1
  have hS : ∀ b, b ∈ FPdX_bite a1 a2 → b < 102 := (by decide : ∀ b, b ∈ FPdX_bite 0 0 → b < 102)
  have i1 : IM h1 := law_c i q1.2 (fun b hb => f1 b (fun q => by have := hS b q; omega))
  obtain ⟨⟨rm, h2⟩, e2, q⟩ := sf_m_bite a1 a2 i1
  exact ⟨rX, h1, rm, h2, e1, e2, cs_mk i gi q1.2 f1 hS (fun _ => q.2) (fpm_bite a1 a2 h1 e2) (show ∀ b, b ∈ FPdm_bite a1 a2 → 104 ≤ b from (by decide : ∀ b, b ∈ FPdm_bite 0 0 → 104 ≤ b))⟩
theorem cs_whose (a1 a2 : Int32) (h : PH) (i : IM h) (gi : GI h) : ∃ rX rm h2, mX_whose a1 a2 h = some rX ∧ mm_whose a1 a2 h = some (rm, h2) ∧ CS h h h2 := by
  obtain ⟨rX, e1, -⟩ := sf_X_whose a1 a2 i.1
  obtain ⟨⟨rm, h2⟩, e2, q⟩ := sf_m_whose a1 a2 i
  exact ⟨rX, rm, h2, e1, e2, cs_mk (S := []) i gi i.1 (fun _ _ => rfl) (fun b q => absurd q (List.not_mem_nil)) (fun _ => q.2) (fpm_whose a1 a2 h e2) (show ∀ b, b ∈ FPdm_whose a1 a2 → 104 ≤ b from (by decide : ∀ b, b ∈ FPdm_whose 0 0 → 104 ≤ b))⟩
theorem cs_crumb (a1 : Int32) (h : PH) (i : IM h) (gi : GI h) : ∃ rX h1 rm h2, mX_crumb a1 h = some (rX, h1) ∧ mm_crumb a1 h1 = some (rm, h2) ∧ CS h h1 h2 := by
  obtain ⟨⟨rX, h1⟩, e1, q1⟩ := sf_X_crumb a1 i.1
  have f1 := fpX_crumb a1 h e1
  have hS : ∀ b, b ∈ FPdX_crumb a1 → b < 102 := (by decide : ∀ b, b ∈ FPdX_crumb 0 → b < 102)
  have i1 : IM h1 := law_c i q1.2 (fun b hb => f1 b (fun q => by have := hS b q; omega))
  obtain ⟨⟨rm, h2⟩, e2, q⟩ := sf_m_crumb a1 i1
  exact ⟨rX, h1, rm, h2, e1, e2, cs_mk i gi q1.2 f1 hS (fun _ => q.2) (fpm_crumb a1 h1 e2) (show ∀ b, b ∈ FPdm_crumb a1 → 104 ≤ b from (by decide : ∀ b, b ∈ FPdm_crumb 0 → 104 ≤ b))⟩
theorem cs_crumbs (a1 : Int32) (h : PH) (i : IM h) (gi : GI h) : ∃ rX h1 rm h2, mX_crumbs a1 h = some (rX, h1) ∧ mm_crumbs a1 h1 = some (rm, h2) ∧ CS h h1 h2 := by
  obtain ⟨⟨rX, h1⟩, e1, q1⟩ := sf_X_crumbs a1 i.1
  have f1 := fpX_crumbs a1 h e1
  have hS : ∀ b, b ∈ FPdX_crumbs a1 → b < 102 := (by decide : ∀ b, b ∈ FPdX_crumbs 0 → b < 102)
  have i1 : IM h1 := law_c i q1.2 (fun b hb => f1 b (fun q => by have := hS b q; omega))
  obtain ⟨⟨rm, h2⟩, e2, q⟩ := sf_m_crumbs a1 i1
  exact ⟨rX, h1, rm, h2, e1, e2, cs_mk i gi q1.2 f1 hS (fun _ => q.2) (fpm_crumbs a1 h1 e2) (show ∀ b, b ∈ FPdm_crumbs a1 → 104 ≤ b from (by decide : ∀ b, b ∈ FPdm_crumbs 0 → 104 ≤ b))⟩
theorem cs_loaf (a1 a2 : Int32) (h : PH) (i : IM h) (gi : GI h) : ∃ rX h1 rm h2, mX_loaf a1 a2 h = some (rX, h1) ∧ mm_loaf a1 a2 h1 = some (rm, h2) ∧ CS h h1 h2 := by
  obtain ⟨⟨rX, h1⟩, e1, q1⟩ := sf_X_loaf a1 a2 i.1
  have f1 := fpX_loaf a1 a2 h e1
  have hS : ∀ b, b ∈ FPdX_loaf a1 a2 → b < 102 := (by decide : ∀ b, b ∈ FPdX_loaf 0 0 → b < 102)
  have i1 : IM h1 := law_c i q1.2 (fun b hb => f1 b (fun q => by have := hS b q; omega))
  obtain ⟨⟨rm, h2⟩, e2, q⟩ := sf_m_loaf a1 a2 i1
  exact ⟨rX, h1, rm, h2, e1, e2, cs_mk i gi q1.2 f1 hS (fun _ => q.2) (fpm_loaf a1 a2 h1 e2) (show ∀ b, b ∈ FPdm_loaf a1 a2 → 104 ≤ b from (by decide : ∀ b, b ∈ FPdm_loaf 0 0 → 104 ≤ b))⟩
theorem cs_ovens (a1 : Int32) (h : PH) (i : IM h) (gi : GI h) : ∃ rX rm h2, mX_ovens a1 h = some rX ∧ mm_ovens a1 h = some (rm, h2) ∧ CS h h h2 := by
  obtain ⟨rX, e1, -⟩ := sf_X_ovens a1 i.1
  obtain ⟨⟨rm, h2⟩, e2, q⟩ := sf_m_ovens a1 i
  exact ⟨rX, rm, h2, e1, e2, cs_mk (S := []) i gi i.1 (fun _ _ => rfl) (fun b q => absurd q (List.not_mem_nil)) (fun _ => q.2) (fpm_ovens a1 h e2) (show ∀ b, b ∈ FPdm_ovens a1 → 104 ≤ b from (by decide : ∀ b, b ∈ FPdm_ovens 0 → 104 ≤ b))⟩
theorem cs_alone (a1 : Int32) (h : PH) (i : IM h) (gi : GI h) : ∃ rX h1 rm h2, mX_alone a1 h = some (rX, h1) ∧ mm_alone a1 h1 = some (rm, h2) ∧ CS h h1 h2 := by
  obtain ⟨⟨rX, h1⟩, e1, q1⟩ := sf_X_alone a1 i.1
  have f1 := fpX_alone a1 h e1
  have hS : ∀ b, b ∈ FPdX_alone a1 → b < 102 := (by decide : ∀ b, b ∈ FPdX_alone 0 → b < 102)
  have i1 : IM h1 := law_c i q1.2 (fun b hb => f1 b (fun q => by have := hS b q; omega))
  obtain ⟨⟨rm, h2⟩, e2, q⟩ := sf_m_alone a1 i1
  exact ⟨rX, h1, rm, h2, e1, e2, cs_mk i gi q1.2 f1 hS (fun _ => q.2) (fpm_alone a1 h1 e2) (show ∀ b, b ∈ FPdm_alone a1 → 104 ≤ b from (by decide : ∀ b, b ∈ FPdm_alone 0 → 104 ≤ b))⟩
theorem cs_heir (a1 a2 : Int32) (h : PH) (i : IM h) (gi : GI h) : ∃ rX h1 rm h2, mX_heir a1 a2 h = some (rX, h1) ∧ mm_heir a1 a2 h1 = some (rm, h2) ∧ CS h h1 h2 := by
  obtain ⟨⟨rX, h1⟩, e1, q1⟩ := sf_X_heir a1 a2 i.1
  have f1 := fpX_heir a1 a2 h e1
  have hS : ∀ b, b ∈ FPdX_heir a1 a2 → b < 102 := (by decide : ∀ b, b ∈ FPdX_heir 0 0 → b < 102)
  have i1 : IM h1 := law_c i q1.2 (fun b hb => f1 b (fun q => by have := hS b q; omega))
  obtain ⟨⟨rm, h2⟩, e2, q⟩ := sf_m_heir a1 a2 i1
  exact ⟨rX, h1, rm, h2, e1, e2, cs_mk i gi q1.2 f1 hS (fun _ => q.2) (fpm_heir a1 a2 h1 e2) (show ∀ b, b ∈ FPdm_heir a1 a2 → 104 ≤ b from (by decide : ∀ b, b ∈ FPdm_heir 0 0 → 104 ≤ b))⟩
theorem cs_line (a1 a2 : Int32) (h : PH) (i : IM h) (gi : GI h) : ∃ rX rm h2, mX_line a1 a2 h = some rX ∧ mm_line a1 a2 h = some (rm, h2) ∧ CS h h h2 := by
  obtain ⟨rX, e1, -⟩ := sf_X_line a1 a2 i.1
  obtain ⟨⟨rm, h2⟩, e2, q⟩ := sf_m_line a1 a2 i
  exact ⟨rX, rm, h2, e1, e2, cs_mk (S := []) i gi i.1 (fun _ _ => rfl) (fun b q => absurd q (List.not_mem_nil)) (fun _ => q.2) (fpm_line a1 a2 h e2) (show ∀ b, b ∈ FPdm_line a1 a2 → 104 ≤ b from (by decide : ∀ b, b ∈ FPdm_line 0 0 → 104 ≤ b))⟩
theorem cs_window (a1 : Int32) (h : PH) (i : IM h) (gi : GI h) : ∃ rX rm h2, mX_window a1 h = some rX ∧ mm_window a1 h = some (rm, h2) ∧ CS h h h2 := by
  obtain ⟨rX, e1, -⟩ := sf_X_window a1 i.1
  obtain ⟨⟨rm, h2⟩, e2, q⟩ := sf_m_window a1 i
  exact ⟨rX, rm, h2, e1, e2, cs_mk (S := []) i gi i.1 (fun _ _ => rfl) (fun b q => absurd q (List.not_mem_nil)) (fun _ => q.2) (fpm_window a1 h e2) (show ∀ b, b ∈ FPdm_window a1 → 104 ≤ b from (by decide : ∀ b, b ∈ FPdm_window 0 → 104 ≤ b))⟩
theorem cs_member (a1 a2 : Int32) (h : PH) (i : IM h) (gi : GI h) : ∃ rX h1 rm h2, mX_member a1 a2 h = some (rX, h1) ∧ mm_member a1 a2 h1 = some (rm, h2) ∧ CS h h1 h2 := by
  obtain ⟨⟨rX, h1⟩, e1, q1⟩ := sf_X_member a1 a2 i.1
  have f1 := fpX_member a1 a2 h e1
  have hS : ∀ b, b ∈ FPdX_member a1 a2 → b < 102 := (by decide : ∀ b, b ∈ FPdX_member 0 0 → b < 102)
  have i1 : IM h1 := law_c i q1.2 (fun b hb => f1 b (fun q => by have := hS b q; omega))
  obtain ⟨⟨rm, h2⟩, e2, q⟩ := sf_m_member a1 a2 i1
  exact ⟨rX, h1, rm, h2, e1, e2, cs_mk i gi q1.2 f1 hS (fun _ => q.2) (fpm_member a1 a2 h1 e2) (show ∀ b, b ∈ FPdm_member a1 a2 → 104 ≤ b from (by decide : ∀ b, b ∈ FPdm_member 0 0 → 104 ≤ b))⟩
theorem cs_council (a1 : Int32) (h : PH) (i : IM h) (gi : GI h) : ∃ rX rm h2, mX_council a1 h = some rX ∧ mm_council a1 h = some (rm, h2) ∧ CS h h h2 := by
  obtain ⟨rX, e1, -⟩ := sf_X_council a1 i.1
  obtain ⟨⟨rm, h2⟩, e2, q⟩ := sf_m_council a1 i
  exact ⟨rX, rm, h2, e1, e2, cs_mk (S := []) i gi i.1 (fun _ _ => rfl) (fun b q => absurd q (List.not_mem_nil)) (fun _ => q.2) (fpm_council a1 h e2) (show ∀ b, b ∈ FPdm_council a1 → 104 ≤ b from (by decide : ∀ b, b ∈ FPdm_council 0 → 104 ≤ b))⟩
theorem cs_game (a1 a2 : Int32) (h : PH) (i : IM h) (gi : GI h) : ∃ rX h1 rm h2, mX_game a1 a2 h = some (rX, h1) ∧ mm_game a1 a2 h1 = some (rm, h2) ∧ CS h h1 h2 := by
  obtain ⟨⟨rX, h1⟩, e1, j1, j2, -, -⟩ := game_class a1 a2 h i.1 gi
  have f1 := fpX_game a1 a2 h e1
  have a1' : ∀ b, 104 ≤ b → h1 b = h b := fun b hb => f1 b (fun q => by have : ∀ b, b ∈ FPdX_game a1 a2 → b < 104 := (by decide : ∀ b, b ∈ FPdX_game 0 0 → b < 104); have := this b q; omega)
  obtain ⟨⟨rm, h2⟩, e2, k1, -, -⟩ := game_model a1 a2 h1 (law_c i j1 a1')
  have f2 := fpm_game a1 a2 h1 e2
  have a2' : ∀ b, b < 104 → h2 b = h1 b := fun b hb => f2 b (fun q => by have : ∀ b, b ∈ FPdm_game a1 a2 → 104 ≤ b := (by decide : ∀ b, b ∈ FPdm_game 0 0 → 104 ≤ b); have := this b q; omega)
  exact ⟨rX, h1, rm, h2, e1, e2, k1, gi_c j2 (a2' 102 (by decide)) (a2' 103 (by decide)), j1, a1', a2'⟩
theorem cs_undo (h : PH) (i : IM h) (gi : GI h) : ∃ rX h1 rm h2, mX_undo h = some (rX, h1) ∧ mm_undo h1 = some (rm, h2) ∧ CS h h1 h2 := by
  obtain ⟨⟨rX, h1⟩, e1, q1⟩ := sf_X_undo i.1
  have f1 := fpX_undo h e1
  have hS : ∀ b, b ∈ FPdX_undo → b < 102 := (by decide : ∀ b, b ∈ FPdX_undo → b < 102)
  have i1 : IM h1 := law_c i q1.2 (fun b hb => f1 b (fun q => by have := hS b q; omega))
  obtain ⟨⟨rm, h2⟩, e2, q⟩ := sf_m_undo i1
  exact ⟨rX, h1, rm, h2, e1, e2, cs_mk i gi q1.2 f1 hS (fun _ => q.2) (fpm_undo h1 e2) (show ∀ b, b ∈ FPdm_undo → 104 ≤ b from (by decide : ∀ b, b ∈ FPdm_undo → 104 ≤ b))⟩
theorem cs_image (a1 : Int32) (h : PH) (i : IM h) (gi : GI h) : ∃ rX h1 rm h2, mX_image (if a1 = 0 then 0 else 1) h = some (rX, h1) ∧ mm_image (if a1 = 0 then 0 else 1) h1 = some (rm, h2) ∧ CS h h1 h2 := by
  obtain ⟨⟨rX, h1⟩, e1, q1⟩ := sf_X_image (if a1 = 0 then 0 else 1) i.1
  have f1 := fpX_image (if a1 = 0 then 0 else 1) h e1
  have hS : ∀ b, b ∈ FPdX_image (if a1 = 0 then 0 else 1) → b < 102 := (by decide : ∀ b, b ∈ FPdX_image 0 → b < 102)
  have i1 : IM h1 := law_c i q1.2 (fun b hb => f1 b (fun q => by have := hS b q; omega))
  obtain ⟨⟨rm, h2⟩, e2, q⟩ := sf_m_image (if a1 = 0 then 0 else 1) (by split; exact Or.inl rfl; exact Or.inr rfl) i1
  exact ⟨rX, h1, rm, h2, e1, e2, cs_mk i gi q1.2 f1 hS (fun _ => q.2) (fpm_image (if a1 = 0 then 0 else 1) h1 e2) (show ∀ b, b ∈ FPdm_image (if a1 = 0 then 0 else 1) → 104 ≤ b from (by decide : ∀ b, b ∈ FPdm_image 0 → 104 ≤ b))⟩
theorem cs_look (a1 : Int32) (h : PH) (i : IM h) (gi : GI h) : ∃ rX rm h2, mX_look a1 h = some rX ∧ mm_look a1 h = some (rm, h2) ∧ CS h h h2 := by
  obtain ⟨rX, e1, -⟩ := sf_X_look a1 i.1
  obtain ⟨⟨rm, h2⟩, e2, q⟩ := sf_m_look a1 i
  exact ⟨rX, rm, h2, e1, e2, cs_mk (S := []) i gi i.1 (fun _ _ => rfl) (fun b q => absurd q (List.not_mem_nil)) (fun _ => q.2) (fpm_look a1 h e2) (show ∀ b, b ∈ FPdm_look a1 → 104 ≤ b from (by decide : ∀ b, b ∈ FPdm_look 0 → 104 ≤ b))⟩
end
section
/-! WHAT NEEDS NO STATE: window, mortgage, game answer alike -/
theorem wn_window (h : PH) (a : Int32) : ∃ r hf, mX_window a h = some r ∧ mm_window a h = some (r, hf) := by
  unfold mX_window mm_window
  simp only [within_eq, isIn_eq, bd, bd2, lt]
  by_cases c : 1 ≤ a ∧ a ≤ 20
  · obtain ⟨N, h1, h2, rfl⟩ := win_in c.1 c.2
    simp only [c, and_self, if_true, show ¬ (1 : Int32) = 0 by decide, if_false]
    have hc : mK_windowWays (nI N) h = some (wo N + wt N) := win_class N h2 h FU 0 (by unfold FU; omega) (by omega)
    have ckk : ∀ (ρ : Type) (q : Option ρ), ck (nI N) 21 q = q := fun _ _ => ck_nI (by omega) (by omega)
    have ixk : ix (nI N) = N := nI_clamp (by omega)
    obtain ⟨hf, e1, e2⟩ := win_model N h2 (fun h12 => ck (nI N) 21 <| ck (nI N) 21 <| some ((h12 142 (ix (nI N))) + (h12 143 (ix (nI N))), h12)) FU 0 (up h 104 0 0) (by unfold FU; omega) (by omega) (fun u hu => by omega)
    rw [nI_0] at e1
    simp only [ckk, ixk] at e1 ⊢
    rw [hc, e1]
    simp only [(e2 N (Nat.le_refl N)).1, (e2 N (Nat.le_refl N)).2]
    exact ⟨_, hf, rfl, rfl⟩
  · exact ⟨-1, up h 104 0 0, by simp [c], by simp [c]⟩
theorem ag_window (a : Int32) (h : PH) {rX rm : Int32} {h2 : PH} (e1 : mX_window a h = some rX) (e2 : mm_window a h = some (rm, h2)) : rX = rm := by
  obtain ⟨r, hf, q1, q2⟩ := wn_window h a
  rw [q1] at e1
  rw [q2] at e2
  cases e1
  cases e2
  rfl
theorem wn_mortgage (h : PH) (a1 a2 a3 a4 : Int32) : ∃ r, mX_mortgage a1 a2 a3 a4 h = some r ∧ mm_mortgage a1 a2 a3 a4 h = some (r, up h 104 0 0) := by
  simp only [mX_mortgage, mm_mortgage, within_eq, isIn_eq, bd, bd2, lt, jn1]
  by_cases c1 : 1 ≤ a1 ∧ a1 ≤ 9999
  · by_cases c2 : 0 ≤ a2 ∧ a2 ≤ 50
    · by_cases c3 : 1 ≤ a3 ∧ a3 ≤ 999
      · by_cases c4 : 0 ≤ a4 ∧ a4 ≤ 1
        · simp only [c1, c2, c3, c4, and_self, if_true, show ¬ (1 : Int32) = 0 by decide, if_false]
          by_cases c5 : a4 = 0
          · obtain ⟨r, hr⟩ := payOff_some a1 a2 a3 1 h
            have hs := mort_sim a2 a3 a4 1 h (up h 104 0 0) (fun x y => if (1 : Int32) = 0 then some x else some y) (fun x y => if a4 = 0 then some (y, up h 104 0 0) else some (x, up h 104 0 0)) (fun x y => by simp [c5]) FU a1 0 1
            have hr' : mK_payOff_L9 a2 a3 1 h (fun x y => if (1 : Int32) = 0 then some x else some y) FU a1 0 1 = some r := hr
            rw [hr'] at hs
            simp only [if_pos c5, hr]
            simp only [c5, if_true] at hs
            exact ⟨r, by simp, by simp [c5, hs]⟩
          · obtain ⟨r, hr⟩ := payOff_some a1 a2 a3 0 h
            have hs := mort_sim a2 a3 a4 0 h (up h 104 0 0) (fun x y => if (0 : Int32) = 0 then some x else some y) (fun x y => if a4 = 0 then some (y, up h 104 0 0) else some (x, up h 104 0 0)) (fun x y => by simp [c5]) FU a1 0 1
            have hr' : mK_payOff_L9 a2 a3 0 h (fun x y => if (0 : Int32) = 0 then some x else some y) FU a1 0 1 = some r := hr
            rw [hr'] at hs
            simp only [if_neg c5, hr]
            simp only [c5, if_false] at hs
            exact ⟨r, by simp, by simp [c5, hs]⟩
        · exact ⟨-1, by simp [c1, c2, c3, c4], by simp [c1, c2, c3, c4]⟩
      · exact ⟨-1, by simp [c1, c2, c3], by simp [c1, c2, c3]⟩
    · exact ⟨-1, by simp [c1, c2], by simp [c1, c2]⟩
  · exact ⟨-1, by simp [c1], by simp [c1]⟩
theorem ag_mortgage (a1 a2 a3 a4 : Int32) (h : PH) {rX rm : Int32} {h2 : PH} (e1 : mX_mortgage a1 a2 a3 a4 h = some rX) (e2 : mm_mortgage a1 a2 a3 a4 h = some (rm, h2)) : rX = rm := by
  obtain ⟨r, q1, q2⟩ := wn_mortgage h a1 a2 a3 a4
  rw [q1] at e1
  rw [q2] at e2
  cases e1
  cases e2
  rfl
end
