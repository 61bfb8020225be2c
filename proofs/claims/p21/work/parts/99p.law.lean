/-! SAFETY of the model's reader: THE LAW, read and taken -/
theorem dep_x {op arg op' arg' : Nat → Int32} {c : Nat} (hc : ∀ q, q < c → op' q = op q ∧ arg' q = arg q) (f : Nat) : ∀ (m k d : Nat), k + m ≤ c → dep op' arg' f m k d = dep op arg f m k d := by
  intro m
  induction m with
  | zero => intro k d _; rfl
  | succ m ih =>
    intro k d hk
    obtain ⟨u1, u2⟩ := hc k (by omega)
    obtain ⟨w1, w2⟩ := hc (k - 1) (by omega)
    rw [dep, dep]
    have e : stC op' arg' f k d = stC op arg f k d := by
      unfold stC
      rw [u1, u2, w1, w2]
    rw [e]
    congr 1
    funext d'
    exact ih (k + 1) d' (by omega)
theorem seg_x {op arg op' arg' : Nat → Int32} {c a b : Nat} (hc : ∀ q, q < c → op' q = op q ∧ arg' q = arg q) (hab : a ≤ b) (hb : b ≤ c) (s : SegOK op arg a b) : SegOK op' arg' a b := by
  obtain ⟨d, hd⟩ := s
  exact ⟨d, by rw [dep_x hc a (b - a) a 0 (by omega)]; exact hd⟩
/-- line l of the draft is good, its code below c -/
def DL (l c : Nat) (h : PH) : Prop := ∃ a b e : Nat, h 115 (32 + l) = nI a ∧ h 116 (32 + l) = nI b ∧ h 117 (32 + l) = nI e ∧ a ≤ b ∧ b ≤ e ∧ e ≤ c ∧ SegOK (dOp h) (dAr h) a b ∧ SegOK (dOp h) (dAr h) b e
def LawQ (r : Int32 × PH) : Prop := (r.1 = -1 ∧ IM r.2) ∨ (∃ k c, r.1 = nI k ∧ k ≤ 16 ∧ RS c 0 r.2 ∧ r.2 104 24 = 0 ∧ ∀ l, l < k → DL l c r.2)
theorem rs_draft {c k : Nat} {h : PH} (st : RS c k h) {b j : Nat} (hb : 114 ≤ b ∧ b ≤ 117) (hj : 16 ≤ j) (v : Int32) : RS c k (up h b j v) := by
  obtain ⟨i, e, s1, s2, s3, s4⟩ := st
  have q : ∀ x, up h b j v 104 x = h 104 x := fun x => up_oc (by omega)
  refine ⟨im_draft v i (Or.inr ⟨hb, hj⟩), ?_, ?_, ?_, ?_, ?_⟩
  · rw [q]; exact e
  · rw [q, q]; exact s1
  · rw [q, q]; exact s2
  · rw [q, q, q]; exact s3
  · rw [q]; exact s4
theorem up_cell {h : PH} {b j x : Nat} {v : Int32} (hx : x ≠ b) : up h b j v x = h x := funext fun q => up_oc hx
theorem law_go (k0 k1 : PH → Option (Int32 × PH)) (k2 : Int32 → PH → Option (Int32 × PH)) (e0 : ∀ g, IM g → Sf (k0 g) ErQ) (e1 : ∀ g, IM g → Sf (k1 g) ErQ) (e2 : ∀ (k c : Nat) (g : PH), k ≤ 16 → RS c 0 g → g 104 24 = 0 → (∀ l, l < k → DL l c g) → Sf (k2 (nI k) g) LawQ) : ∀ (n k c : Nat) (hv : PH), 16 < n + k → k ≤ 16 → RS c 0 hv → hv 104 24 = 0 → hv 104 26 = 0 → (∀ l, l < k → DL l c hv) → Sf (mm_readLaw_L2 k0 k1 k2 n (nI k) hv) LawQ := by
  intro n
  induction n with
  | zero => intro k c hv h1 h2; omega
  | succ n ih =>
    intro k c hv hn hk st w24 w26 dl
    rw [mm_readLaw_L2]
    refine s_bd (P := fun r => ¬ r = 0 → hv 104 14 = 2) ?_ (fun r1 hr1 => ?_)
    · unfold mm_isLineWord
      refine s_if (fun t => ?_) (fun _ => s_some (fun q => absurd rfl q))
      exact s_isin (fun r _ _ => s_if (fun _ => s_some (fun q => absurd rfl q)) (fun _ => s_some (fun _ => t)))
    · refine s_if (fun _ => e2 k c hv hk st w24 dl) (fun z => ?_)
      have t2 := hr1 z
      refine s_if (fun _ => s_w (e0 hv st.1) (fun r q => Or.inl q)) (fun n16 => ?_)
      have hk2 : k < 16 := by
        by_cases e : k = 16
        · subst e; exact absurd rfl n16
        · omega
      have e32 : (32 : Int32) + nI k = nI (32 + k) := nI_add 32 k
      rw [lt_e, e32, ck_nI (by omega) (by decide), show ix (nI (32 + k)) = 32 + k from nI_clamp (by omega), lt_e]
      have st3 : RS c 0 (up hv 114 (32 + k) (hv 104 15)) := rs_draft st (by omega) (by omega) _
      have t3 : up hv 114 (32 + k) (hv 104 15) 104 14 = 2 := by rw [up_oc (by decide)]; exact t2
      refine s_bd (rs_take st3 (by rw [t3]; decide)) (fun h4 q => ?_)
      obtain ⟨st4, fr4⟩ := q
      rw [ck_nI (by omega) (by decide), lt_e, st4.2.1]
      have st5 : RS c 1 (up h4 115 (32 + k) (nI c)) := rs_draft st4 (by omega) (by omega) _
      refine s_bd2 (sf_m_readSum st5) (fun r6 h7 q => ?_)
      rcases q with ⟨q1, q2⟩ | ⟨q1, c', q2, q3, q4, q5⟩
      · have q1 : r6 = -1 := q1
        rw [if_pos q1]
        exact s_some (Or.inl ⟨rfl, q2⟩)
      have q1 : r6 = 0 := q1
      have st7 : RS c' 1 h7 := q3
      have fr7 : FRc c (up h4 115 (32 + k) (nI c)) h7 := q4
      have u7 : Up1 c c' h7 := q5
      rw [if_neg (by rw [q1]; decide), ck_nI (by omega) (by decide), lt_e, st7.2.1]
      have st8 : RS c' 1 (up h7 116 (32 + k) (nI c')) := rs_draft st7 (by omega) (by omega) _
      have o8 : dOp (up h7 116 (32 + k) (nI c')) = dOp h7 := dOp_up (by decide)
      have a8 : dAr (up h7 116 (32 + k) (nI c')) = dAr h7 := dAr_up (by decide)
      have x24 : up h7 116 (32 + k) (nI c') 104 24 = 0 := by rw [up_oc (by decide), fr7.2.2 24 (by decide) (by decide) (by decide) (by decide) (by decide) (by decide) (by decide), up_oc (by decide), fr4.2 24 (by decide) (by decide) (by decide) (by decide), up_oc (by decide)]; exact w24
      have x26 : up h7 116 (32 + k) (nI c') 104 26 = 0 := by rw [up_oc (by decide), fr7.2.2 26 (by decide) (by decide) (by decide) (by decide) (by decide) (by decide) (by decide), up_oc (by decide), fr4.2 26 (by decide) (by decide) (by decide) (by decide), up_oc (by decide)]; exact w26
      have p115 : up h7 116 (32 + k) (nI c') 115 = up h4 115 (32 + k) (nI c) 115 := by rw [up_cell (by decide), fr7.1 115 (by decide) (by decide) (by decide)]
      have p4 : ∀ x, 115 ≤ x → x ≤ 117 → h4 x = hv x := fun x _ _ => by rw [fr4.1 x (by omega), up_cell (by omega)]
      have p116 : h7 116 = hv 116 := by rw [fr7.1 116 (by decide) (by decide) (by decide), up_cell (by decide), p4 116 (by decide) (by decide)]
      have p117 : up h7 116 (32 + k) (nI c') 117 = hv 117 := by rw [up_cell (by decide), fr7.1 117 (by decide) (by decide) (by decide), up_cell (by decide), p4 117 (by decide) (by decide)]
      have d8 : ∀ q, q < c → dOp h7 q = dOp hv q ∧ dAr h7 q = dAr hv q := fun q hq => by
        obtain ⟨y1, y2⟩ := fr7.2.1 q hq
        rw [dOp_up (by decide)] at y1
        rw [dAr_up (by decide)] at y2
        have y3 : dOp h4 = dOp hv := by
          unfold dOp
          rw [fr4.1 118 (by decide), up_cell (by decide)]
        have y4 : dAr h4 = dAr hv := by
          unfold dAr
          rw [fr4.1 119 (by decide), up_cell (by decide)]
        rw [y1, y2, y3, y4]
        exact ⟨rfl, rfl⟩
      have s8 : SegOK (dOp h7) (dAr h7) c c' := ⟨0 + 1, u7 c 0 (Nat.le_refl _)⟩
      have b16 : up h7 116 (32 + k) (nI c') 116 (32 + k) = nI c' := up_same
      have b16l : ∀ l, l < k → up h7 116 (32 + k) (nI c') 116 (32 + l) = hv 116 (32 + l) := fun l hl => by rw [up_oj (by omega), p116]
      generalize up h7 116 (32 + k) (nI c') = h8 at st8 o8 a8 x24 x26 p115 p117 b16 b16l ⊢
      refine s_word (fun r9 w9 => ?_)
      have fin : ∀ (h11 : PH) (e : Nat), RS e 0 h11 → c' ≤ e → SegOK (dOp h11) (dAr h11) c' e → FRa c' h8 h11 → h11 104 26 = 0 → Sf (ck (nI (32 + k)) 48 <| lt (up h11 117 (32 + k) (h11 104 25)) fun h12 => bd (mm_isSign 59 h12) fun r13 => if r13 = 0 then k1 h12 else bd (mm_reads h12) fun h14 => lt (nI k + 1) fun x15 => mm_readLaw_L2 k0 k1 k2 n x15 h14) LawQ := fun h11 e st11 ce sg fr11 z26 => by
        rw [ck_nI (by omega) (by decide), lt_e, st11.2.1]
        have st12 : RS e 0 (up h11 117 (32 + k) (nI e)) := rs_draft st11 (by omega) (by omega) _
        have o12 : dOp (up h11 117 (32 + k) (nI e)) = dOp h11 := dOp_up (by decide)
        have a12 : dAr (up h11 117 (32 + k) (nI e)) = dAr h11 := dAr_up (by decide)
        refine s_sign (fun r13 w13 => ?_)
        refine s_if (fun _ => s_w (e1 _ st12.1) (fun r q => Or.inl q)) (fun z13 => ?_)
        refine s_bd (rs_take st12 (by rw [w13 z13]; decide)) (fun h14 q => ?_)
        obtain ⟨st14, fr14⟩ := q
        rw [lt_e, nI_1]
        have o14 : dOp h14 = dOp h11 := by
          rw [← o12]
          unfold dOp
          rw [fr14.1 118 (by decide)]
        have a14 : dAr h14 = dAr h11 := by
          rw [← a12]
          unfold dAr
          rw [fr14.1 119 (by decide)]
        have v24 : h14 104 24 = 0 := by rw [fr14.2 24 (by decide) (by decide) (by decide) (by decide), up_oc (by decide), fr11.2.2 24 (by decide) (by decide) (by decide) (by decide) (by decide) (by decide) (by decide) (by decide) (by decide)]; exact x24
        have v26 : h14 104 26 = 0 := by rw [fr14.2 26 (by decide) (by decide) (by decide) (by decide), up_oc (by decide)]; exact z26
        have l115 : h14 115 = up h4 115 (32 + k) (nI c) 115 := by rw [fr14.1 115 (by decide), up_cell (by decide), fr11.1 115 (by decide) (by decide) (by decide) (by decide), p115]
        have l116 : h14 116 = h8 116 := by rw [fr14.1 116 (by decide), up_cell (by decide), fr11.1 116 (by decide) (by decide) (by decide) (by decide)]
        have l117 : h14 117 = up h11 117 (32 + k) (nI e) 117 := by rw [fr14.1 117 (by decide)]
        have m117 : h11 117 = hv 117 := by rw [fr11.1 117 (by decide) (by decide) (by decide) (by decide), p117]
        have dc : ∀ q, q < c' → dOp h14 q = dOp h7 q ∧ dAr h14 q = dAr h7 q := fun q hq => by
          obtain ⟨y1, y2⟩ := fr11.2.1 q hq
          rw [o14, a14, y1, y2, o8, a8]
          exact ⟨rfl, rfl⟩
        have dc0 : ∀ q, q < c → dOp h14 q = dOp hv q ∧ dAr h14 q = dAr hv q := fun q hq => by
          obtain ⟨y1, y2⟩ := dc q (by omega)
          obtain ⟨y3, y4⟩ := d8 q hq
          exact ⟨y1.trans y3, y2.trans y4⟩
        refine ih (k + 1) e h14 (by omega) (by omega) (rs_wk st14 (by omega)) v24 v26 (fun l hl => ?_)
        by_cases el : l = k
        · subst el
          refine ⟨c, c', e, ?_, ?_, ?_, by omega, ce, Nat.le_refl _, seg_x dc (by omega) (Nat.le_refl _) s8, ?_⟩
          · rw [l115, up_same]
          · rw [l116, b16]
          · rw [l117, up_same]
          · rw [o14, a14]; exact sg
        · obtain ⟨a, b, e3, y1, y2, y3, y4, y5, y6, y7, y8⟩ := dl l (by omega)
          refine ⟨a, b, e3, ?_, ?_, ?_, y4, y5, by omega, seg_x dc0 y4 (by omega) y7, seg_x dc0 y5 (by omega) y8⟩
          · rw [l115, up_oj (by omega), p4 115 (by decide) (by decide)]; exact y1
          · rw [l116, b16l l (by omega)]; exact y2
          · rw [l117, up_oj (by omega), m117]; exact y3
      rw [jn1_e]
      refine s_if (fun _ => ?_) (fun z9 => ?_)
      · exact fin h8 c' (rs_wk st8 (by omega)) (Nat.le_refl _) ⟨0, by rw [Nat.sub_self]; rfl⟩ ⟨fun _ _ _ _ _ => rfl, fun _ _ => ⟨rfl, rfl⟩, fun _ _ _ _ _ _ _ _ _ _ => rfl⟩ x26
      · refine s_bd (rs_take st8 (by rw [(w9 z9).1]; decide)) (fun h16 q => ?_)
        obtain ⟨st16, fr16⟩ := q
        have y26 : h16 104 26 = 0 := by rw [fr16.2 26 (by decide) (by decide) (by decide) (by decide)]; exact x26
        refine s_bd2 (sf_m_readAny st16 y26) (fun r17 h18 q => ?_)
        rcases q with ⟨q1, q2⟩ | ⟨q1, e, ke, q2⟩
        · have q1 : r17 = -1 := q1
          rw [if_pos q1]
          exact s_some (Or.inl ⟨rfl, q2⟩)
        · have q1 : r17 = 0 := q1
          rw [if_neg (by rw [q1]; decide)]
          obtain ⟨y1, y2, y3, y4, y5, y6, y7⟩ := q2
          have y1 : RS e ke h18 := y1
          have y7 : FRa c' h16 h18 := y7
          exact fin h18 e (rs_wk y1 (by omega)) y5 ⟨_, y6⟩ (fra_tr (fra_c (Nat.le_refl _) (frc_4 fr16)) y7) y4
theorem sf_m_readLaw {c : Nat} {h : PH} (st : RS c 0 h) (w24 : h 104 24 = 0) (w26 : h 104 26 = 0) : Sf (mm_readLaw h) LawQ := by
  unfold mm_readLaw
  have := law_go (fun (h19 : PH) => bd2 (mm_errs 3 h19) fun r20 h21 => some (r20, h21)) (fun (h22 : PH) => bd2 (mm_errs 1 h22) fun r23 h24 => some (r23, h24)) (fun (x25 : Int32) (h26 : PH) => if (h26 104 14) = 0 then some (x25, h26) else bd2 (mm_errs 1 h26) fun r27 h28 => some (r27, h28)) (fun g ig => er_bd 3 ig) (fun g ig => er_bd 1 ig) (fun k c g hk st w dl => by
    refine s_if (fun _ => s_some (Or.inr ⟨k, c, rfl, hk, st, w, dl⟩)) (fun _ => s_w (er_bd 1 st.1) (fun r q => Or.inl q))) FU 0 c h (by unfold FU; omega) (by omega) st w24 w26 (fun l hl => by omega)
  rw [nI_0] at this
  exact this
/-! the taking -/
def TL (o h : PH) (c : Nat) : Prop := Inv h ∧ h 148 = o 148 ∧ h 104 24 = 0 ∧ h 104 25 = nI c
theorem tl_put {o h : PH} {c b j : Nat} {v : Int32} (st : TL o h c) (hb : 114 ≤ b ∧ b ≤ 119) : TL o (up h b j v) c := by
  obtain ⟨i, e1, e2, e3⟩ := st
  have hs : sp b j = rF := by
    have h6 : b = 114 ∨ b = 115 ∨ b = 116 ∨ b = 117 ∨ b = 118 ∨ b = 119 := by omega
    rcases h6 with q | q | q | q | q | q <;> subst q <;> rfl
  exact ⟨inv_up i (by rw [hs]; exact r_full v), by rw [up_cell (by omega)]; exact e1, by rw [up_oc (by omega)]; exact e2, by rw [up_oc (by omega)]; exact e3⟩
def TB (o h : PH) (b m w t : Nat) : Prop := (∀ q, m ≤ q → h b q = o b q) ∧ ∀ q, q < t → h b q = o b (w + q)
theorem tb_put {o h : PH} {b m w t : Nat} (st : TB o h b m w t) (ht : t < m) : TB o (up h b t (o b (w + t))) b m w (t + 1) := by
  refine ⟨fun q hq => by rw [up_oj (by omega)]; exact st.1 q hq, fun q hq => ?_⟩
  by_cases e : q = t
  · subst e; exact up_same
  · rw [up_oj e]; exact st.2 q (by omega)
theorem tb_oc {o h : PH} {b m w t c j : Nat} {v : Int32} (st : TB o h b m w t) (hc : b ≠ c) : TB o (up h c j v) b m w t := ⟨fun q hq => by rw [up_oc hc]; exact st.1 q hq, fun q hq => by rw [up_oc hc]; exact st.2 q hq⟩
theorem tk2 (o : PH) (c k : Nat) (hk : k ≤ 16) (k0 : PH → Option PH) {Q : PH → Prop} (hk0 : ∀ g, TL o g c → (∀ b, 115 ≤ b → b ≤ 117 → TB o g b 32 32 k) → g 118 = o 118 → g 119 = o 119 → Sf (k0 g) Q) : ∀ (n t : Nat) (h : PH), 16 < n + t → t ≤ k → TL o h c → (∀ b, 115 ≤ b → b ≤ 117 → TB o h b 32 32 t) → h 118 = o 118 → h 119 = o 119 → (∀ q, 32 ≤ q → h 114 q = o 114 q) → Sf (mm_takesLaw_L2 (nI k) k0 n (nI t) h) Q := by
  intro n
  induction n with
  | zero => intro t h h1 h2; omega
  | succ n ih =>
    intro t h hn ht st tb e8 e9 e4
    rw [mm_takesLaw_L2]
    by_cases etk : t = k
    · subst etk
      rw [if_pos (nI_le (Nat.le_refl _) (by omega))]
      exact hk0 h st tb e8 e9
    · rw [if_neg (nI_ge (by omega) (by omega))]
      have e32 : (32 : Int32) + nI t = nI (32 + t) := nI_add 32 t
      have z : ∀ g : PH, g 104 24 = 0 → (16 : Int32) * g 104 24 + nI t = nI t := fun g hg => by rw [hg, show (16 : Int32) * 0 = 0 from rfl, Int32.zero_add]
      have i32 : ix (nI (32 + t)) = 32 + t := nI_clamp (by omega)
      have it : ix (nI t) = t := nI_clamp (by omega)
      have c32 : ∀ {ρ : Type} (q : Option ρ), ck (nI (32 + t)) 48 q = q := fun q => ck_nI (by omega) (by decide)
      have ct : ∀ {ρ : Type} (q : Option ρ), ck (nI t) 48 q = q := fun q => ck_nI (by omega) (by decide)
      have s1 := tl_put (j := t) (v := h 114 (32 + t)) st (b := 114) (by decide)
      have b1 : ∀ b, 115 ≤ b → b ≤ 117 → TB o (up h 114 t (h 114 (32 + t))) b 32 32 t := fun b h1 h2 => tb_oc (tb b h1 h2) (by omega)
      rw [e32, z h st.2.2.1, c32, ct, i32, it, lt_e, z _ s1.2.2.1, c32, ct, it]
      have f1 : up h 114 t (h 114 (32 + t)) 118 = o 118 := by rw [up_cell (by decide)]; exact e8
      have f2 : up h 114 t (h 114 (32 + t)) 119 = o 119 := by rw [up_cell (by decide)]; exact e9
      have f3 : ∀ q, 32 ≤ q → up h 114 t (h 114 (32 + t)) 114 q = o 114 q := fun q hq => by rw [up_oj (by omega)]; exact e4 q hq
      generalize up h 114 t (h 114 (32 + t)) = g1 at s1 b1 f1 f2 f3 ⊢
      rw [(b1 115 (by decide) (by decide)).1 (32 + t) (by omega), lt_e]
      have s2 := tl_put (j := t) (v := o 115 (32 + t)) s1 (b := 115) (by decide)
      have b2 : TB o (up g1 115 t (o 115 (32 + t))) 115 32 32 (t + 1) := tb_put (b1 115 (by decide) (by decide)) (by omega)
      have b2' : ∀ b, 116 ≤ b → b ≤ 117 → TB o (up g1 115 t (o 115 (32 + t))) b 32 32 t := fun b h1 h2 => tb_oc (b1 b (by omega) h2) (by omega)
      have f4 : up g1 115 t (o 115 (32 + t)) 118 = o 118 := by rw [up_cell (by decide)]; exact f1
      have f5 : up g1 115 t (o 115 (32 + t)) 119 = o 119 := by rw [up_cell (by decide)]; exact f2
      have f6 : ∀ q, 32 ≤ q → up g1 115 t (o 115 (32 + t)) 114 q = o 114 q := fun q hq => by rw [up_oc (by decide)]; exact f3 q hq
      generalize up g1 115 t (o 115 (32 + t)) = g2 at s2 b2 b2' f4 f5 f6 ⊢
      rw [z _ s2.2.2.1, c32, ct, it, (b2' 116 (by decide) (by decide)).1 (32 + t) (by omega), lt_e]
      have s3 := tl_put (j := t) (v := o 116 (32 + t)) s2 (b := 116) (by decide)
      have b3 : TB o (up g2 116 t (o 116 (32 + t))) 115 32 32 (t + 1) := tb_oc b2 (by decide)
      have b3' : TB o (up g2 116 t (o 116 (32 + t))) 116 32 32 (t + 1) := tb_put (b2' 116 (by decide) (by decide)) (by omega)
      have b3'' : TB o (up g2 116 t (o 116 (32 + t))) 117 32 32 t := tb_oc (b2' 117 (by decide) (by decide)) (by decide)
      have f7 : up g2 116 t (o 116 (32 + t)) 118 = o 118 := by rw [up_cell (by decide)]; exact f4
      have f8 : up g2 116 t (o 116 (32 + t)) 119 = o 119 := by rw [up_cell (by decide)]; exact f5
      have f9 : ∀ q, 32 ≤ q → up g2 116 t (o 116 (32 + t)) 114 q = o 114 q := fun q hq => by rw [up_oc (by decide)]; exact f6 q hq
      generalize up g2 116 t (o 116 (32 + t)) = g3 at s3 b3 b3' b3'' f7 f8 f9 ⊢
      rw [z _ s3.2.2.1, c32, ct, it, b3''.1 (32 + t) (by omega), lt_e, nI_1]
      refine ih (t + 1) _ (by omega) (by omega) (tl_put s3 (by decide)) (fun b h1 h2 => ?_) (by rw [up_cell (by decide)]; exact f7) (by rw [up_cell (by decide)]; exact f8) (fun q hq => by rw [up_oc (by decide)]; exact f9 q hq)
      have h3 : b = 115 ∨ b = 116 ∨ b = 117 := by omega
      rcases h3 with rfl | rfl | rfl
      · exact tb_oc b3 (by decide)
      · exact tb_oc b3' (by decide)
      · exact tb_put b3'' (by omega)
theorem tk107 (o : PH) (c k : Nat) (hc : c ≤ 400) (p1 : Int32) (k0 : PH → Option PH) {Q : PH → Prop} (hk0 : ∀ g, TL o g c → (∀ b, 115 ≤ b → b ≤ 117 → TB o g b 32 32 k) → TB o g 118 800 800 c → TB o g 119 800 800 c → Sf (k0 g) Q) : ∀ (n t : Nat) (h : PH), 400 < n + t → t ≤ c → TL o h c → (∀ b, 115 ≤ b → b ≤ 117 → TB o h b 32 32 k) → TB o h 118 800 800 t → TB o h 119 800 800 t → Sf (mm_takesLaw_L107 p1 k0 n (nI t) h) Q := by
  intro n
  induction n with
  | zero => intro t h h1 h2; omega
  | succ n ih =>
    intro t h hn ht st tb b8 b9
    rw [mm_takesLaw_L107, st.2.2.2]
    by_cases etk : t = c
    · subst etk
      rw [if_pos (nI_le (Nat.le_refl _) (by omega))]
      exact hk0 h st tb b8 b9
    · rw [if_neg (nI_ge (by omega) (by omega))]
      have e8 : (800 : Int32) + nI t = nI (800 + t) := nI_add 800 t
      have z : ∀ g : PH, g 104 24 = 0 → (400 : Int32) * g 104 24 + nI t = nI t := fun g hg => by rw [hg, show (400 : Int32) * 0 = 0 from rfl, Int32.zero_add]
      have i8 : ix (nI (800 + t)) = 800 + t := nI_clamp (by omega)
      have it : ix (nI t) = t := nI_clamp (by omega)
      have c8 : ∀ {ρ : Type} (q : Option ρ), ck (nI (800 + t)) 1200 q = q := fun q => ck_nI (by omega) (by decide)
      have ct : ∀ {ρ : Type} (q : Option ρ), ck (nI t) 1200 q = q := fun q => ck_nI (by omega) (by decide)
      rw [e8, z h st.2.2.1, c8, ct, i8, it, b8.1 (800 + t) (by omega), lt_e]
      have s1 := tl_put (j := t) (v := o 118 (800 + t)) st (b := 118) (by decide)
      have n8 : TB o (up h 118 t (o 118 (800 + t))) 118 800 800 (t + 1) := tb_put b8 (by omega)
      have n9 : TB o (up h 118 t (o 118 (800 + t))) 119 800 800 t := tb_oc b9 (by decide)
      have nb : ∀ b, 115 ≤ b → b ≤ 117 → TB o (up h 118 t (o 118 (800 + t))) b 32 32 k := fun b h1 h2 => tb_oc (tb b h1 h2) (by omega)
      generalize up h 118 t (o 118 (800 + t)) = g1 at s1 n8 n9 nb ⊢
      rw [z _ s1.2.2.1, c8, ct, it, n9.1 (800 + t) (by omega), lt_e, nI_1]
      exact ih (t + 1) _ (by omega) (by omega) (tl_put s1 (by decide)) (fun b h1 h2 => tb_oc (nb b h1 h2) (by omega)) (tb_oc n8 (by decide)) (tb_put n9 (by omega))
theorem sf_m_takesLaw (k c : Nat) (hk : k ≤ 16) (hc : c ≤ 400) (o : PH) (i : IM o) (e25 : o 104 25 = nI c) (e24 : o 104 24 = 0) (dl : ∀ l, l < k → DL l c o) : Sf (mm_takesLaw (nI k) o) IM := by
  unfold mm_takesLaw
  have key := tk2 o c k hk (fun (h5 : PH) => mm_takesLaw_L107 (nI k) (fun (h8 : PH) => ck (h8 104 24) 2 <| lt (up h8 113 (ix (h8 104 24)) (nI k)) fun h9 => some h9) FU 0 h5) (Q := IM) (fun g st tb e8 e9 => by
    have := tk107 o c k hc (nI k) (fun (h8 : PH) => ck (h8 104 24) 2 <| lt (up h8 113 (ix (h8 104 24)) (nI k)) fun h9 => some h9) (Q := IM) (fun g st tb b8 b9 => by
      rw [st.2.2.1, c0_2, lt_e, show ix (0 : Int32) = 0 from rfl]
      refine s_some ⟨inv_up st.1 (show R 0 16 (nI k) from ⟨by rw [nI_toInt (by omega)]; omega, by rw [nI_toInt (by omega)]; omega⟩), ?_, ?_⟩
      · intro l hl
        rw [up_same, nI_toInt (by omega)] at hl
        rw [up_cell (by decide), up_cell (by decide), up_cell (by decide), up_cell (by decide), up_cell (by decide)]
        obtain ⟨a, b, e, y1, y2, y3, y4, y5, y6, y7, y8⟩ := dl l (by omega)
        have hq : ∀ q, q < c → g 118 q = dOp o q ∧ g 119 q = dAr o q := fun q hq => ⟨b8.2 q hq, b9.2 q hq⟩
        exact ⟨a, b, e, by rw [(tb 115 (by decide) (by decide)).2 l (by omega)]; exact y1, by rw [(tb 116 (by decide) (by decide)).2 l (by omega)]; exact y2, by rw [(tb 117 (by decide) (by decide)).2 l (by omega)]; exact y3, y4, y5, by omega, seg_x hq y4 (by omega) y7, seg_x hq y5 (by omega) y8⟩
      · unfold LawImg
        rw [up_cell (by decide), st.2.1]
        exact i.2.2) FU 0 g (by unfold FU; omega) (by omega) st tb ⟨fun q _ => by rw [e8], fun q hq => by omega⟩ ⟨fun q _ => by rw [e9], fun q hq => by omega⟩
    rw [nI_0] at this
    exact this) FU 0 o (by unfold FU; omega) (by omega) ⟨i.1, rfl, e24, e25⟩ (fun b _ _ => ⟨fun _ _ => rfl, fun q hq => by omega⟩) rfl rfl (fun _ _ => rfl)
  rw [nI_0] at key
  exact key
