section TX
variable {G : GG} {M : MM} {d pc pc' : Nat} {L : List (Option Value)} {st : List Value} {h h' : PH} {v : Option Value}
/-- a call of a text's method -/
theorem v_callT {M' : MM} {idx n i : Nat} {As : List Value} {w : Option Value} {h1 : PH} {st0 : List Value} (hd : dn M pc (.invokevirtual idx) 3 pc') (hl : Cond.methodLink M.1.cls idx M'.1 ∈ tb) (hm : mV M' n) (hi : i < 5) (hci : M'.1.cls = "java/lang/String") (hn : As.length = n) (hst : st0 = As.reverse ++ .ref (gS G i) :: st) (hrest : (st.map fun v => v.category).sum ≤ 8)
    (hK : Kx G M' d (.ref (gS G i) :: As) h w h1) (k : Vx G M (d + 1) pc' L (w.toList ++ st) h1 v h') : Vx G M (d + 1) pc L st0 h v h' := by
  obtain ⟨hd, rfl⟩ := hd
  intro p e s m args below meth c C H locs ls hR hS hL
  have hts := C.2.2.2.2.2.1
  have hKs := C.2.2.2.2.2.2.2.1
  have hLB := C.2.2.2.2.2.2.2.2
  have hrecv := vk_recv hLB.2.2.1 hi hS
  rw [← hci] at hrecv
  refine v_run (va_runV (n := n) (As := As) (rest := st) (Ts := tb) (bytes := M'.2.1) (maxL := M'.2.2.1) (ret := M'.2.2.2) ⟨C.1, C.2.1, C.2.2.2.1, C.2.2.2.2.1, hts⟩ hK ⟨callB_of n hts (wsM_good hm.1) rfl rfl rfl (hts _ hm.1.2.1) (hts _ hl) hm.1.2.2.1 (rm_ok hm.1.2.2.2), hts _ hm.2.1, hts _ hm.2.2⟩ ⟨blind, hrecv, fun U hU hW => ⟨rfl, by rw [hU]; exact hR, va_K.moved hW.alike hKs, by rw [hU]; exact (hLB.warm hW).go hS⟩⟩ rfl hn hL.1 hst (lv_room hrest) hd ⟨Nat.le_refl _, Nat.le_refl _⟩) hS (fun H1 locs1 hR1 hS1 => ?_)
  exact k p e s m args below meth c C H1 locs1 ls hR1 hS1 hL
theorem v_ct0i {r : Int32} {M' : MM} {idx i : Nat} {h1 : PH} (hd : dn M pc (.invokevirtual idx) 3 pc') (hl : Cond.methodLink M.1.cls idx M'.1 ∈ tb) (hm : mV M' 0) (hi : i < 5) (hci : M'.1.cls = "java/lang/String") (hrest : (st.map fun v => v.category).sum ≤ 8) (hK : Kx G M' d [.ref (gS G i)] h (some (.int r)) h1) (k : Vx G M (d + 1) pc' L (.int r :: st) h1 v h') : Vx G M (d + 1) pc L (.ref (gS G i) :: st) h v h' := v_callT hd hl hm hi hci rfl rfl hrest hK k
theorem v_ct1i {r : Int32} {y0 : Value} {M' : MM} {idx i : Nat} {h1 : PH} (hd : dn M pc (.invokevirtual idx) 3 pc') (hl : Cond.methodLink M.1.cls idx M'.1 ∈ tb) (hm : mV M' 1) (hi : i < 5) (hci : M'.1.cls = "java/lang/String") (hrest : (st.map fun v => v.category).sum ≤ 8) (hK : Kx G M' d [.ref (gS G i), y0] h (some (.int r)) h1) (k : Vx G M (d + 1) pc' L (.int r :: st) h1 v h') : Vx G M (d + 1) pc L (y0 :: .ref (gS G i) :: st) h v h' := v_callT hd hl hm hi hci rfl rfl hrest hK k
theorem v_ct2i {r : Int32} {y0 y1 : Value} {M' : MM} {idx i : Nat} {h1 : PH} (hd : dn M pc (.invokevirtual idx) 3 pc') (hl : Cond.methodLink M.1.cls idx M'.1 ∈ tb) (hm : mV M' 2) (hi : i < 5) (hci : M'.1.cls = "java/lang/String") (hrest : (st.map fun v => v.category).sum ≤ 8) (hK : Kx G M' d [.ref (gS G i), y0, y1] h (some (.int r)) h1) (k : Vx G M (d + 1) pc' L (.int r :: st) h1 v h') : Vx G M (d + 1) pc L (y1 :: y0 :: .ref (gS G i) :: st) h v h' := v_callT hd hl hm hi hci rfl rfl hrest hK k
/-- a call that answers a text, one that answers a long, one of a long -/
theorem v_cs1s {r : Nat} {y0 : Value} {M' : MM} {idx : Nat} {h1 : PH} (hd : dn M pc (.invokestatic idx) 3 pc') (hl : Cond.methodLink M.1.cls idx M'.1 ∈ tb) (hm : mS M' 1) (hrest : (st.map fun v => v.category).sum ≤ 8) (hK : Kx G M' d [y0] h (some (.ref (gS G r))) h1) (k : Vx G M (d + 1) pc' L (.ref (gS G r) :: st) h1 v h') : Vx G M (d + 1) pc L (y0 :: st) h v h' := v_callS hd hl hm rfl rfl hrest hK k
theorem v_cs1l {r : Int64} {y0 : Value} {M' : MM} {idx : Nat} {h1 : PH} (hd : dn M pc (.invokestatic idx) 3 pc') (hl : Cond.methodLink M.1.cls idx M'.1 ∈ tb) (hm : mS M' 1) (hrest : (st.map fun v => v.category).sum ≤ 8) (hK : Kx G M' d [y0] h (some (.long r)) h1) (k : Vx G M (d + 1) pc' L (.long r :: st) h1 v h') : Vx G M (d + 1) pc L (y0 :: st) h v h' := v_callS hd hl hm rfl rfl hrest hK k
/-! longs -/
theorem v_lld_0 {t : List (Option Value)} {x : Int64} (hd : dl M pc .lload_n .lload 0 pc') (k : Vx G M d pc' (some (.long x) :: t) (.long x :: st) h v h') : Vx G M d pc (some (.long x) :: t) st h v h' := v_lload hd rfl k
theorem v_lld_1 {a0 : Option Value} {t : List (Option Value)} {x : Int64} (hd : dl M pc .lload_n .lload 1 pc') (k : Vx G M d pc' (a0 :: some (.long x) :: t) (.long x :: st) h v h') : Vx G M d pc (a0 :: some (.long x) :: t) st h v h' := v_lload hd rfl k
end TX
