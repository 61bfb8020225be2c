/-! TEXTS (the five literals, by number) and LONGS -/
section TX
variable {G : GG} {M : MM} {d pc pc' : Nat} {L : List (Option Value)} {st : List Value} {h h' : PH} {v : Option Value}
/-- entry i of a text's bytes -/
def sby (i j : Nat) : Int32 := (stB.getD i []).getD j 0
def sln (i : Nat) : Nat := stN.getD i 0
theorem v_ldcS {idx i : Nat} {tx : String} (hd : dn M pc (.ldc idx) 2 pc') (hs : stL[i]? = some (M.1.cls, idx, tx)) (k : Vx G M d pc' L (.ref (gS G i) :: st) h v h') : Vx G M d pc L st h v h' := by
  obtain ⟨hd, rfl⟩ := hd
  intro p e s m args below meth c C H locs ls hR hS hL
  have hx : SX G s s.heap := C.2.2.2.2.2.2.2.2
  have hq : vk_R (M.1.cls, idx, tx).1 (M.1.cls, idx, tx).2.1 (M.1.cls, idx, tx).2.2 (gS G i) s := hx.2.1 i (M.1.cls, idx, tx) hs
  have hq2 : vk_R M.1.cls idx tx (gS G i) s := hq
  exact va_ldcS C.1 C.2.1 C.2.2.2.2.1 hq2 hd (k p e s m args below meth c C H locs ls hR hS hL)
theorem v_getCoder {idx i : Nat} (hd : dn M pc (.getfield idx) 3 pc') (hl : Cond.fieldLink M.1.cls idx "java/lang/String" "coder" "B" ∈ tb) (hi : i < 5) (k : Vx G M d pc' L (.int 0 :: st) h v h') : Vx G M d pc L (.ref (gS G i) :: st) h v h' := by
  obtain ⟨hd, rfl⟩ := hd
  intro p e s m args below meth c C H locs ls hR hS hL
  exact vk_getf C.1 C.2.1 (C.2.2.2.2.2.2.2.2.2.2.1.1 i hi).2.1 hS C.2.2.2.2.1 (C.2.2.2.2.2.1 _ hl) (fun x hx => hx) hd (k p e s m args below meth c C H locs ls hR hS hL)
theorem v_getVal {idx i : Nat} (hd : dn M pc (.getfield idx) 3 pc') (hl : Cond.fieldLink M.1.cls idx "java/lang/String" "value" "[B" ∈ tb) (hi : i < 5) (k : Vx G M d pc' L (.ref (gV G i) :: st) h v h') : Vx G M d pc L (.ref (gS G i) :: st) h v h' := by
  obtain ⟨hd, rfl⟩ := hd
  intro p e s m args below meth c C H locs ls hR hS hL
  exact vk_getf C.1 C.2.1 (C.2.2.2.2.2.2.2.2.2.2.1.1 i hi).2.2.1 hS C.2.2.2.2.1 (C.2.2.2.2.2.1 _ hl) (fun x hx => hx) hd (k p e s m args below meth c C H locs ls hR hS hL)
theorem v_getCS {idx : Nat} (hd : dn M pc (.getstatic idx) 3 pc') (hl : Cond.fieldLink M.1.cls idx "java/lang/String" "COMPACT_STRINGS" "Z" ∈ tb) (k : Vx G M d pc' L (.int 1 :: st) h v h') : Vx G M d pc L st h v h' := by
  obtain ⟨hd, rfl⟩ := hd
  intro p e s m args below meth c C H locs ls hR hS hL
  exact va_gets C.1 C.2.1 C.2.2.2.2.2.2.2.2.2.2.2.1 hS C.2.2.2.2.1 (C.2.2.2.2.2.1 _ hl) (fun x hx => hx) hd (k p e s m args below meth c C H locs ls hR hS hL)
theorem v_getFm {idx : Nat} (hd : dn M pc (.getstatic idx) 3 pc') (hl : Cond.fieldLink M.1.cls idx "jdk/internal/util/Preconditions" "SIOOBE_FORMATTER" "Ljava/util/function/BiFunction;" ∈ tb) (k : Vx G M d pc' L (fmtV G :: st) h v h') : Vx G M d pc L st h v h' := by
  obtain ⟨hd, rfl⟩ := hd
  intro p e s m args below meth c C H locs ls hR hS hL
  exact va_gets C.1 C.2.1 C.2.2.2.2.2.2.2.2.2.2.2.2 hS C.2.2.2.2.1 (C.2.2.2.2.2.1 _ hl) (fun x hx => hx) hd (k p e s m args below meth c C H locs ls hR hS hL)
theorem v_alenT {i : Nat} (hd : dn M pc .arraylength 1 pc') (hi : i < 5) (k : Vx G M d pc' L (.int (Int32.ofNat (sln i)) :: st) h v h') : Vx G M d pc L (.ref (gV G i) :: st) h v h' := by
  obtain ⟨hd, rfl⟩ := hd
  intro p e s m args below meth c C H locs ls hR hS hL
  exact va_tlen C.1 C.2.1 (C.2.2.2.2.2.2.2.2.2.2.1.1 i hi).2.2.2 hS rfl hd (k p e s m args below meth c C H locs ls hR hS hL)
theorem v_baldT {i : Nat} {x : Int32} (hd : dn M pc .baload 1 pc') (hi : i < 5) (hin : vp_in x (sln i)) (k : Vx G M d pc' L (.int (sby i (ix x)) :: st) h v h') : Vx G M d pc L (.int x :: .ref (gV G i) :: st) h v h' := by
  obtain ⟨hd, rfl⟩ := hd
  intro p e s m args below meth c C H locs ls hR hS hL
  exact va_tb C.1 C.2.1 (C.2.2.2.2.2.2.2.2.2.2.1.1 i hi).2.2.2 hS hin rfl hd (k p e s m args below meth c C H locs ls hR hS hL)
def nc (x : Int32) : Int32 := x.toUInt32.toUInt16.toUInt32.toInt32
theorem v_cret {x : Int32} (hd : dn M pc .ireturn 1 pc') (hr : M.2.2.2 = some .char) : Vx G M d pc L [.int x] h (some (.int (nc x))) h := by
  obtain ⟨hd, rfl⟩ := hd
  intro p e s m args below meth c C H locs ls hR hS hL
  exact W_zretN C.1 C.2.1 (C.2.2.1.trans hr) rfl (fun t ht _ => ⟨rfl, by rw [ht]; exact hR, hS.F ht⟩) hS.2.2 hd C.2.2.2.2.2.2.1
theorem v_bret {x : Int32} (hd : dn M pc .ireturn 1 pc') (hr : M.2.2.2 = some .byte) : Vx G M d pc L [.int x] h (some (.int (i2b x))) h := by
  obtain ⟨hd, rfl⟩ := hd
  intro p e s m args below meth c C H locs ls hR hS hL
  exact W_zretN C.1 C.2.1 (C.2.2.1.trans hr) rfl (fun t ht _ => ⟨rfl, by rw [ht]; exact hR, hS.F ht⟩) hS.2.2 hd C.2.2.2.2.2.2.1
theorem v_aret {a : Nat} {c : String} (hd : dn M pc .areturn 1 pc') (hr : M.2.2.2 = some (.object c)) : Vx G M d pc L [.ref a] h (some (.ref a)) h := by
  obtain ⟨hd, rfl⟩ := hd
  intro p e s m args below meth c C H locs ls hR hS hL
  exact W.aret C.1 C.2.1 (C.2.2.1.trans hr) (Or.inl ⟨_, rfl⟩) (Or.inr ⟨_, rfl⟩) (fun t ht _ => ⟨rfl, by rw [ht]; exact hR, hS.F ht⟩) hS.2.2 hd C.2.2.2.2.2.2.1
/-- a call of a text's method -/
theorem v_callT {M' : MM} {idx n i : Nat} {As : List Value} {w : Option Value} {h1 : PH} {st0 : List Value} (hd : dn M pc (.invokevirtual idx) 3 pc') (hl : Cond.methodLink M.1.cls idx M'.1 ∈ tb) (hm : mV M' n) (hi : i < 5) (hci : M'.1.cls = "java/lang/String") (hn : As.length = n) (hst : st0 = As.reverse ++ .ref (gS G i) :: st) (hrest : (st.map fun v => v.category).sum ≤ 8)
    (hK : Kx G M' d (.ref (gS G i) :: As) h w h1) (k : Vx G M (d + 1) pc' L (w.toList ++ st) h1 v h') : Vx G M (d + 1) pc L st0 h v h' := by
  obtain ⟨hd, rfl⟩ := hd
  intro p e s m args below meth c C H locs ls hR hS hL
  have hts := C.2.2.2.2.2.1
  have hKs := C.2.2.2.2.2.2.2.1
  have hLB := C.2.2.2.2.2.2.2.2
  have hrecv := vk_recv hLB.2.2.1 hi hS
  rw [← hci] at hrecv
  refine v_run (va_runV (n := n) (As := As) (rest := st) (Ts := tb) (bytes := M'.2.1) (maxL := M'.2.2.1) (ret := M'.2.2.2) ⟨C.1, C.2.1, C.2.2.2.1, C.2.2.2.2.1, hts⟩ hK ⟨callB_of n hts (wsM_good hm.1) rfl rfl rfl (hts _ hm.1.2.1) (hts _ hl) hm.1.2.2.1 (rm_ok hm.1.2.2.2), hts _ hm.2.1, hts _ hm.2.2⟩ ⟨blind, hrecv, fun U hU hW => ⟨rfl, by rw [hU]; exact hR, va_K.moved hW.alike hKs, by rw [hU]; exact (hLB.warm hW).go hS⟩⟩ rfl hn hL.1 hst (lv_room hrest) hd ⟨Nat.le_refl _, Nat.le_refl _⟩) hS (fun H1 locs1 hR1 hS1 => ?_)
  exact k p e s m args below meth c C H1 locs1 ls hR1 hS1 hL
theorem v_ct0i {r : Int32} {M' : MM} {idx i : Nat} {h1 : PH} (hd : dn M pc (.invokevirtual idx) 3 pc') (hl : Cond.methodLink M.1.cls idx M'.1 ∈ tb) (hm : mV M' 0) (hi : i < 5) (hci : M'.1.cls = "java/lang/String") (hrest : (st.map fun v => v.category).sum ≤ 8) (hK : Kx G M' d [.ref (gS G i)] h (some (.int r)) h1) (k : Vx G M (d + 1) pc' L (.int r :: st) h1 v h') : Vx G M (d + 1) pc L (.ref (gS G i) :: st) h v h' := v_callT hd hl hm hi hci rfl rfl hrest hK k
theorem v_ct1i {r : Int32} {y0 : Value} {M' : MM} {idx i : Nat} {h1 : PH} (hd : dn M pc (.invokevirtual idx) 3 pc') (hl : Cond.methodLink M.1.cls idx M'.1 ∈ tb) (hm : mV M' 1) (hi : i < 5) (hci : M'.1.cls = "java/lang/String") (hrest : (st.map fun v => v.category).sum ≤ 8) (hK : Kx G M' d [.ref (gS G i), y0] h (some (.int r)) h1) (k : Vx G M (d + 1) pc' L (.int r :: st) h1 v h') : Vx G M (d + 1) pc L (y0 :: .ref (gS G i) :: st) h v h' := v_callT hd hl hm hi hci rfl rfl hrest hK k
theorem v_ct2i {r : Int32} {y0 y1 : Value} {M' : MM} {idx i : Nat} {h1 : PH} (hd : dn M pc (.invokevirtual idx) 3 pc') (hl : Cond.methodLink M.1.cls idx M'.1 ∈ tb) (hm : mV M' 2) (hi : i < 5) (hci : M'.1.cls = "java/lang/String") (hrest : (st.map fun v => v.category).sum ≤ 8) (hK : Kx G M' d [.ref (gS G i), y0, y1] h (some (.int r)) h1) (k : Vx G M (d + 1) pc' L (.int r :: st) h1 v h') : Vx G M (d + 1) pc L (y1 :: y0 :: .ref (gS G i) :: st) h v h' := v_callT hd hl hm hi hci rfl rfl hrest hK k
/-- a call that answers a text, one that answers a long, one of a long -/
theorem v_cs1s {r : Nat} {y0 : Value} {M' : MM} {idx : Nat} {h1 : PH} (hd : dn M pc (.invokestatic idx) 3 pc') (hl : Cond.methodLink M.1.cls idx M'.1 ∈ tb) (hm : mS M' 1) (hrest : (st.map fun v => v.category).sum ≤ 8) (hK : Kx G M' d [y0] h (some (.ref (gS G r))) h1) (k : Vx G M (d + 1) pc' L (.ref (gS G r) :: st) h1 v h') : Vx G M (d + 1) pc L (y0 :: st) h v h' := v_callS hd hl hm rfl rfl hrest hK k
theorem v_cs1l {r : Int64} {y0 : Value} {M' : MM} {idx : Nat} {h1 : PH} (hd : dn M pc (.invokestatic idx) 3 pc') (hl : Cond.methodLink M.1.cls idx M'.1 ∈ tb) (hm : mS M' 1) (hrest : (st.map fun v => v.category).sum ≤ 8) (hK : Kx G M' d [y0] h (some (.long r)) h1) (k : Vx G M (d + 1) pc' L (.long r :: st) h1 v h') : Vx G M (d + 1) pc L (y0 :: st) h v h' := v_callS hd hl hm rfl rfl hrest hK k
/-! longs -/
theorem v_lld_0 {t : List (Option Value)} {x : Int64} (hd : dl M pc .lload_n .lload 0 pc') (k : Vx G M d pc' (some (.long x) :: t) (.long x :: st) h v h') : Vx G M d pc (some (.long x) :: t) st h v h' := v_lload hd rfl k
theorem v_lld_1 {a0 : Option Value} {t : List (Option Value)} {x : Int64} (hd : dl M pc .lload_n .lload 1 pc') (k : Vx G M d pc' (a0 :: some (.long x) :: t) (.long x :: st) h v h') : Vx G M d pc (a0 :: some (.long x) :: t) st h v h' := v_lload hd rfl k
theorem LV.of2 {ls : Array Slot} {nL : Nat} {L : List (Option Value)} {i : Nat} {x : Value} (h : lv_has ls nL ((i, x) :: (aL L).filter (fun q => !(q.1 == i) && (!(q.1 == i + 1) && !(q.1 + 1 == i && q.2.category == 2))))) (hk : okS L i = true) : LV ls nL ((L.set i (some x)).set (i + 1) none) := by
  refine ⟨h.1, h.2.1, fun j w hj => ?_⟩
  by_cases h1 : j = i + 1
  · subst h1
    by_cases hl : i + 1 < (L.set i (some x)).length
    · rw [List.getElem?_set_self hl] at hj; cases hj
    · rw [List.getElem?_eq_none (by simpa using Nat.not_lt.mp hl)] at hj; cases hj
  · rw [List.getElem?_set_ne (Ne.symm h1)] at hj
    by_cases hji : j = i
    · subst hji
      have hl : j < L.length := by simpa using (List.getElem?_eq_some_iff.mp hj).1
      rw [List.getElem?_set_self hl] at hj
      cases hj
      exact h.2.2 (j, x) List.mem_cons_self
    · rw [List.getElem?_set_ne (Ne.symm hji)] at hj
      refine h.2.2 (j, w) (List.mem_cons_of_mem _ (List.mem_filter.mpr ⟨aL_mem.mpr hj, ?_⟩))
      have h2 : ¬ (j + 1 = i ∧ w.category = 2) := by
        rintro ⟨e1, e2⟩
        subst e1
        simp only [okS, hj] at hk
        rw [e2] at hk
        exact absurd hk (by decide)
      simp only [Bool.and_eq_true, Bool.not_eq_true', beq_eq_false_iff_ne, ne_eq, Bool.and_eq_false_iff]
      refine ⟨hji, h1, ?_⟩
      by_cases e1 : j + 1 = i
      · right; exact fun e2 => h2 ⟨e1, e2⟩
      · left; exact e1
theorem v_lstore {i : Nat} {x : Int64} (hd : dl M pc .lstore_n .lstore i pc') (hn : i + 1 < M.2.2.1) (hk : okS L i = true) (k : Vx G M d pc' ((L.set i (some (.long x))).set (i + 1) none) st h v h') : Vx G M d pc L (.long x :: st) h v h' := by
  intro p e s m args below meth c C H locs ls hR hS hL
  rcases hd with ⟨k0, hd, e1, rfl⟩ | ⟨hd, rfl⟩
  · exact lv_lstore_n C.1 C.2.1 hd e1 hL.has hn rfl (fun ls' hl' => k p e s m args below meth c C H locs ls' hR hS (LV.of2 hl' hk))
  · exact lv_lstore C.1 C.2.1 hd hL.has hn rfl (fun ls' hl' => k p e s m args below meth c C H locs ls' hR hS (LV.of2 hl' hk))
theorem v_lst_0 {a0 a1 : Option Value} {t : List (Option Value)} {x : Int64} (hd : dl M pc .lstore_n .lstore 0 pc') (hn : 0 + 1 < M.2.2.1) (k : Vx G M d pc' (some (.long x) :: none :: t) st h v h') : Vx G M d pc (a0 :: a1 :: t) (.long x :: st) h v h' := v_lstore hd hn rfl k
theorem v_lst_1 {a0 a1 a2 : Option Value} {t : List (Option Value)} {x : Int64} (hd : dl M pc .lstore_n .lstore 1 pc') (hn : 1 + 1 < M.2.2.1) (hk : okS (a0 :: a1 :: a2 :: t) 1 = true) (k : Vx G M d pc' (a0 :: some (.long x) :: none :: t) st h v h') : Vx G M d pc (a0 :: a1 :: a2 :: t) (.long x :: st) h v h' := v_lstore hd hn hk k
theorem v_lcmp {x y : Int64} (hd : dn M pc .lcmp 1 pc') (k : Vx G M d pc' L (.int (lg_cmp x y) :: st) h v h') : Vx G M d pc L (.long y :: .long x :: st) h v h' := by
  obtain ⟨hd, rfl⟩ := hd
  intro p e s m args below meth c C H locs ls hR hS hL
  exact W.lcmp C.1 C.2.1 hd (k p e s m args below meth c C H locs ls hR hS hL)
theorem v_ladd {x y : Int64} (hd : dn M pc .ladd 1 pc') (k : Vx G M d pc' L (.long (x + y) :: st) h v h') : Vx G M d pc L (.long y :: .long x :: st) h v h' := by
  obtain ⟨hd, rfl⟩ := hd
  intro p e s m args below meth c C H locs ls hR hS hL
  exact lv_ladd C.1 C.2.1 hd (k p e s m args below meth c C H locs ls hR hS hL)
theorem v_lsub {x y : Int64} (hd : dn M pc .lsub 1 pc') (k : Vx G M d pc' L (.long (x - y) :: st) h v h') : Vx G M d pc L (.long y :: .long x :: st) h v h' := by
  obtain ⟨hd, rfl⟩ := hd
  intro p e s m args below meth c C H locs ls hR hS hL
  exact lv_lsub C.1 C.2.1 hd (k p e s m args below meth c C H locs ls hR hS hL)
def lushr (x : Int64) (y : Int32) : Int64 := (x.toUInt64 >>> (y.toInt64.toUInt64 &&& Int64.toUInt64 63)).toInt64
theorem v_lushr {x : Int64} {y : Int32} (hd : dn M pc .lushr 1 pc') (k : Vx G M d pc' L (.long (lushr x y) :: st) h v h') : Vx G M d pc L (.int y :: .long x :: st) h v h' := by
  obtain ⟨hd, rfl⟩ := hd
  intro p e s m args below meth c C H locs ls hR hS hL
  exact lv_lushr C.1 C.2.1 hd rfl (k p e s m args below meth c C H locs ls hR hS hL)
theorem v_l2i {x : Int64} (hd : dn M pc .l2i 1 pc') (k : Vx G M d pc' L (.int x.toInt32 :: st) h v h') : Vx G M d pc L (.long x :: st) h v h' := by
  obtain ⟨hd, rfl⟩ := hd
  intro p e s m args below meth c C H locs ls hR hS hL
  exact lv_l2i C.1 C.2.1 hd rfl (k p e s m args below meth c C H locs ls hR hS hL)
theorem v_topl {ρ : Type} {x : Int64} {f : Int64 → Option ρ} {r : ρ} (hm : lt x f = some r) (k : ∀ y : Int64, f y = some r → Vx G M d pc L (.long y :: st) h v h') : Vx G M d pc L (.long x :: st) h v h' := k x hm
theorem K_of_VL {x : Int64} (hp : plainName M.1.cls = true) (hn : 2 ≤ M.2.2.1) (k : Vx G M d 0 (some (.long x) :: List.replicate (M.2.2.1 - 1) none) [] h v h') : Kx G M d [.long x] h v h' := by
  refine Met.ofW (cc := M.2.1) (maxL := M.2.2.1) (ret := M.2.2.2) hp rfl ?_
  intro p e s m args below meth c s₁ B hml hv
  obtain ⟨rfl, hR, hK, hLB⟩ := hv
  have hts : ∀ w ∈ wsM M, w.before [Value.long x].toArray s = true := atoms_spec (ws := wsM M) B.pre
  have hl := lv_entry [.long x] (n := M.2.2.1) hn
  rw [lg_entry_eq]
  refine k p e s m _ below meth c ⟨B.exec, B.bytes, B.returns, hml, findClass_of_methodNamed B.named, fun w hw => hts w (List.mem_cons_of_mem _ hw), B.notSynchronized, hK, hLB⟩ s.heap [] _ hR va_S.rf ⟨hl.1, hl.2.1, fun i w hi => ?_⟩
  cases i with
  | zero =>
    rw [List.getElem?_cons_zero] at hi
    cases hi
    exact hl.2.2 (0, .long x) List.mem_cons_self
  | succ i =>
    rw [List.getElem?_cons_succ] at hi
    have := List.mem_of_getElem? hi
    simp at this
end TX
