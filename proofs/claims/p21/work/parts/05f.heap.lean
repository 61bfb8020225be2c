section HP
variable {G : GG} {M : MM} {d pc pc' : Nat} {L : List (Option Value)} {st : List Value} {h h' : PH} {v : Option Value}
theorem v_alen {a n : Nat} {x : Int32} (hd : dn M pc .arraylength 1 pc') (ha : shL[a]? = some (20, n)) (hx : Int32.ofNat n = x) (k : Vx G M d pc' L (.int x :: st) h v h') : Vx G M d pc L (.ref (gB G + a) :: st) h v h' := by
  obtain ⟨hd, rfl⟩ := hd
  intro p e s m args below meth c C H locs ls hR hS hL
  have he := wd_at (B := gB G) (cA := gA G) (h := h) ha
  exact va_alen C.1 C.2.1 C.2.2.2.2.2.2.2.1 hR a 0 he (ty := .int) rfl hx hd (k p e s m args below meth c C H locs ls hR hS hL)
/-! answers -/
theorem v_iret {x : Int32} (hd : dn M pc .ireturn 1 pc') (hr : M.2.2.2 = some .int) : Vx G M d pc L [.int x] h (some (.int x)) h := by
  obtain ⟨hd, rfl⟩ := hd
  intro p e s m args below meth c C H locs ls hR hS hL
  exact W.iret C.1 C.2.1 (C.2.2.1.trans hr) (fun t ht _ => ⟨rfl, by rw [ht]; exact hR, hS.F ht⟩) hS.2.2 hd C.2.2.2.2.2.2.1
theorem v_ret (hd : dn M pc .return_ 1 pc') (hr : M.2.2.2 = none) : Vx G M d pc L [] h none h := by
  obtain ⟨hd, rfl⟩ := hd
  intro p e s m args below meth c C H locs ls hR hS hL
  exact W.vret C.1 C.2.1 (C.2.2.1.trans hr) (fun t ht _ => ⟨rfl, by rw [ht]; exact hR, hS.F ht⟩) hS.2.2 hd C.2.2.2.2.2.2.1
theorem v_lret {x : Int64} (hd : dn M pc .lreturn 1 pc') (hr : M.2.2.2 = some .long) : Vx G M d pc L [.long x] h (some (.long x)) h := by
  obtain ⟨hd, rfl⟩ := hd
  intro p e s m args below meth c C H locs ls hR hS hL
  exact W.lret C.1 C.2.1 (C.2.2.1.trans hr) (fun t ht _ => ⟨rfl, by rw [ht]; exact hR, hS.F ht⟩) hS.2.2 hd C.2.2.2.2.2.2.1
theorem W_zretN {p : Program} {l : Launch} {e : Env} {R : Room} {s : State} {m : MethodId} {args : Array Value} {below : List Frame} {meth : Method} {c : Code} {H : Heap} {locs : List Loc} {cells slots : Nat} {cc : ByteArray} {Qc : Array Value → State → Outcome → State → Prop} {free : Addr → Prop} {x y : Int32} {ty : FieldType} (hexec : p.tables.exec = Jvm.exec) (hb : c.code = cc) (hr : meth.sig.returnType = some ty) (hn : narrow ty (.int x) = .int y)
    (hq : ∀ t : State, t.heap = H → s.WarmedH t.vm → Qc args s (.returned (some (.int y))) t) (hf : ∀ q ∈ locs, free q.base)
    {pc : Nat} {ls : Array Slot} (hdg : decode cc pc = .ok (.ireturn, 1)) (hlocks : meth.locks = false) : W p l e R s m args below meth c H locs cells slots (MQ below Qc args s cells slots free) (F0 m pc ls [.int x]) := by
  intro T hT X
  obtain ⟨fs, hret, hrun, hended, hW, hframe⟩ := X.leave (v := some (.int y)) (fun h => by rw [hr] at h; cases h)
  have hmeth' : T.vm.method? m = some meth := X.method'
  refine ⟨T.setFrames fs, ?_, .returned (some (.int y)), hrun, hended, hq _ hT hW, locs, ⟨⟨_, rfl⟩, hW, hframe⟩, hf⟩
  jvm_step X.here [X.here.top, hexec, hb, hdg, hmeth', hr, hn]
  (try refine ⟨rfl, ?_⟩); (try refine ⟨rfl, ?_⟩)
  first | (intro acts; rw [hret _ acts rfl rfl rfl]) | rw [hret _ _ rfl rfl rfl]
  exact Steps.refl _
theorem v_zret {x : Int32} (hd : dn M pc .ireturn 1 pc') (hr : M.2.2.2 = some .boolean) : Vx G M d pc L [.int x] h (some (.int (nb x))) h := by
  obtain ⟨hd, rfl⟩ := hd
  intro p e s m args below meth c C H locs ls hR hS hL
  exact W_zretN C.1 C.2.1 (C.2.2.1.trans hr) rfl (fun t ht _ => ⟨rfl, by rw [ht]; exact hR, hS.F ht⟩) hS.2.2 hd C.2.2.2.2.2.2.1
/-! calls -/
theorem v_run {p : Program} {e : Env} {s : State} {m : MethodId} {args : Array Value} {below : List Frame} {meth : Method} {c : Code} {H : Heap} {locs : List Loc} {ls : Array Slot} {a : Array Value} {w : Option Value} {h1 : PH} {st0 rest : List Value} {Q : State → Prop} {R : Room}
    (hr : va_Run p G.1 e R s m args below meth c H locs 0 0 0 0 (F0 m pc ls st0) rest (QC G w h1 a) (gF G)) (hS : va_S (gF G) s.heap H locs)
    (kk : ∀ (H1 : Heap) (locs1 : List Loc), HR G h1 H1 → va_S (gF G) s.heap H1 locs1 → W p G.1 e R s m args below meth c H1 locs1 0 0 Q (F0 m (pc + 3) ls (w.toList ++ rest))) : W p G.1 e R s m args below meth c H locs 0 0 Q (F0 m pc ls st0) := by
  intro T hT X
  obtain ⟨v, st₀, t, T', L, h0, X', hL, e1, e2, ⟨hv, hb, hz, hk⟩, st⟩ := hr T hT X
  cases hv
  rw [h0] at hz hk
  obtain ⟨t2, a1, b1⟩ := kk T'.heap (locs ++ L) (by rw [e1]; exact hb)
    ⟨Nat.le_trans hS.1 (by rw [e1]; exact hz), fun q h1 h2 => by rw [e1, hk q (Nat.lt_of_lt_of_le h1 hS.1) h2]; exact hS.2.1 q h1 h2, fun q hq => by
      rcases List.mem_append.mp hq with h | h
      · exact hS.2.2 q h
      · exact hL q h⟩ T' rfl X'
  exact ⟨t2, st t2 a1, b1⟩
/-- a method that can be called: its words -/
def mW (M' : MM) (n : Nat) : Prop := Cond.code M'.1 M'.2.1 M'.2.2.1 M'.2.2.2 ∈ tb ∧ Cond.initialized M'.1.cls ∈ tb ∧ (M'.1.cls ≠ "java/lang/invoke/MethodHandle" ∧ M'.1.cls ≠ "java/lang/invoke/VarHandle" ∧ (parseMethodDescriptor M'.1.desc).map (fun d => d.parameters.length) = some n) ∧ M'.2.2.1 ≤ 40
def mV (M' : MM) (n : Nat) : Prop := mW M' n ∧ Cond.instanceMethod M'.1 ∈ tb ∧ Cond.selects M'.1.cls M'.1 M'.1 ∈ tb
def mS (M' : MM) (n : Nat) : Prop := mW M' n ∧ Cond.static M'.1 ∈ tb
theorem wsM_good {M' : MM} {n : Nat} (h : mW M' n) : GoodIn tb (wsM M') := by
  intro w hw
  rcases List.mem_cons.mp hw with rfl | hw
  · exact tb_good _ h.1
  · exact tb_good w hw
theorem blind {G : GG} {As : List Value} {h : PH} : FrameBlind (fun (a : Array Value) (U : State) => a = As.toArray ∧ HR G h U.heap ∧ va_K (gD G) clsL (ty3 G) U ∧ SX G U U.heap) := fun a U g mk q => ⟨q.1, q.2.1, va_K.moved (u := U) (U := U.calling g mk a) (Vm.Alike.refl U.vm) q.2.2.1, SX.same (s := U) (U := U.calling g mk a) rfl q.2.2.2⟩
theorem rm_ok {d k : Nat} (h : k ≤ 40) : (rmd d).frames + 1 ≤ (rmd (d + 1)).frames ∧ 8 + (k + 11) + (rmd d).locals ≤ (rmd (d + 1)).locals := by
  simp only [rmd]; omega
theorem v_callV {M' : MM} {idx n a ci n2 : Nat} {As : List Value} {w : Option Value} {h1 : PH} {st0 : List Value} (hd : dn M pc (.invokevirtual idx) 3 pc') (hl : Cond.methodLink M.1.cls idx M'.1 ∈ tb) (hm : mV M' n) (ha : shL[a]? = some (ci, n2)) (hci : (clsL[ci]?.map fun r => r.1) = some M'.1.cls) (hn : As.length = n) (hst : st0 = As.reverse ++ .ref (gB G + a) :: st) (hrest : (st.map fun v => v.category).sum ≤ 8)
    (hK : Kx G M' d (.ref (gB G + a) :: As) h w h1) (k : Vx G M (d + 1) pc' L (w.toList ++ st) h1 v h') : Vx G M (d + 1) pc L st0 h v h' := by
  obtain ⟨hd, rfl⟩ := hd
  intro p e s m args below meth c C H locs ls hR hS hL
  have hts := C.2.2.2.2.2.1
  have hKs := C.2.2.2.2.2.2.2.1
  have hLB := C.2.2.2.2.2.2.2.2
  obtain ⟨r, hcl, hcn⟩ := Option.map_eq_some_iff.mp hci
  obtain ⟨hlt, -⟩ := clK_all ci _ hcl
  have he := wd_at (B := gB G) (cA := gA G) (h := h) ha
  rw [ce_obj hlt] at he
  have hrecv : ∃ cellB : Cell, H[gB G + a]? = some cellB ∧ cellB.vm.isStatics = false ∧ s.vm.findClass M'.1.cls = some cellB.cls := by
    obtain ⟨r2, h1, cell, q1, q2, q3, q4⟩ := hR a _ he
    have hr : r2 = r := Option.some.inj (h1.symm.trans hcl)
    subst hr
    refine ⟨cell, q1, by rw [q3]; rfl, ?_⟩
    rw [q2, ← hcn]
    exact (hKs.1 ci _ hcl).2.1
  refine v_run (va_runV (n := n) (As := As) (rest := st) (Ts := tb) (bytes := M'.2.1) (maxL := M'.2.2.1) (ret := M'.2.2.2) ⟨C.1, C.2.1, C.2.2.2.1, C.2.2.2.2.1, hts⟩ hK ⟨callB_of n hts (wsM_good hm.1) rfl rfl rfl (hts _ hm.1.2.1) (hts _ hl) hm.1.2.2.1 (rm_ok hm.1.2.2.2), hts _ hm.2.1, hts _ hm.2.2⟩ ⟨blind, hrecv, fun U hU hW => ⟨rfl, by rw [hU]; exact hR, va_K.moved hW.alike hKs, by rw [hU]; exact (hLB.warm hW).go hS⟩⟩ rfl hn hL.1 hst (lv_room hrest) hd ⟨Nat.le_refl _, Nat.le_refl _⟩) hS (fun H1 locs1 hR1 hS1 => ?_)
  exact k p e s m args below meth c C H1 locs1 ls hR1 hS1 hL
theorem v_callS {M' : MM} {idx n : Nat} {As : List Value} {w : Option Value} {h1 : PH} {st0 : List Value} (hd : dn M pc (.invokestatic idx) 3 pc') (hl : Cond.methodLink M.1.cls idx M'.1 ∈ tb) (hm : mS M' n) (hn : As.length = n) (hst : st0 = As.reverse ++ st) (hrest : (st.map fun v => v.category).sum ≤ 8)
    (hK : Kx G M' d As h w h1) (k : Vx G M (d + 1) pc' L (w.toList ++ st) h1 v h') : Vx G M (d + 1) pc L st0 h v h' := by
  obtain ⟨hd, rfl⟩ := hd
  intro p e s m args below meth c C H locs ls hR hS hL
  have hts := C.2.2.2.2.2.1
  have hKs := C.2.2.2.2.2.2.2.1
  have hLB := C.2.2.2.2.2.2.2.2
  refine v_run (va_runS (n := n) (As := As) (rest := st) (Ts := tb) (bytes := M'.2.1) (maxL := M'.2.2.1) (ret := M'.2.2.2) ⟨C.1, C.2.1, C.2.2.2.1, C.2.2.2.2.1, hts⟩ hK ⟨callB_of n hts (wsM_good hm.1) rfl rfl rfl (hts _ hm.1.2.1) (hts _ hl) hm.1.2.2.1 (rm_ok hm.1.2.2.2), hts _ hm.2⟩ ⟨blind, fun U hU hW => ⟨rfl, by rw [hU]; exact hR, va_K.moved hW.alike hKs, by rw [hU]; exact (hLB.warm hW).go hS⟩⟩ rfl hn hL.1 hst (lv_room hrest) hd ⟨Nat.le_refl _, Nat.le_refl _⟩) hS (fun H1 locs1 hR1 hS1 => ?_)
  exact k p e s m args below meth c C H1 locs1 ls hR1 hS1 hL
theorem v_callSN {M' : MM} {idx n : Nat} {As : List Value} {w : Option Value} {h1 : PH} {st0 : List Value} (hd : dn M pc (.invokestatic idx) 3 pc') (hl : (M.1.cls, idx, M'.1) ∈ nsL) (hm : mS M' n) (hn : As.length = n) (hst : st0 = As.reverse ++ st) (hrest : (st.map fun v => v.category).sum ≤ 8)
    (hK : Kx G M' d As h w h1) (k : Vx G M (d + 1) pc' L (w.toList ++ st) h1 v h') : Vx G M (d + 1) pc L st0 h v h' := by
  obtain ⟨hd, rfl⟩ := hd
  intro p e s m args below meth c C H locs ls hR hS hL
  have hts := C.2.2.2.2.2.1
  have hKs := C.2.2.2.2.2.2.2.1
  have hLB := C.2.2.2.2.2.2.2.2
  have hG := wsM_good hm.1
  have hr2 := rm_ok (d := d) hm.1.2.2.2
  have hcn : va_CN (rmd (d + 1)) s args M.1.cls idx M'.1 "GingerRents" M'.2.1 M'.2.2.1 M'.2.2.2 (wsM M') (rmd d) 0 0 n :=
    ⟨⟨rfl, rfl, hr2.1, hr2.2, pay_in hts hG, List.mem_cons_self⟩, hts _ hm.1.1, hts _ hm.1.2.1, ⟨hm.1.2.2.1.1, hm.1.2.2.1.2.1⟩, fun sig hsig => by have h2 := hm.1.2.2.1.2.2; rw [hsig] at h2; exact (Option.some.inj h2).symm, va_Nw.use rfl (hLB.1 _ hl)⟩
  refine v_run (va_runSN (n := n) (As := As) (rest := st) (Ts := tb) ⟨C.1, C.2.1, C.2.2.2.1, C.2.2.2.2.1, hts⟩ hK ⟨hcn, hts _ hm.2, trivial⟩ ⟨blind, fun U hU hW => ⟨rfl, by rw [hU]; exact hR, va_K.moved hW.alike hKs, by rw [hU]; exact (hLB.warm hW).go hS⟩⟩ rfl hn hL.1 hst (lv_room hrest) hd ⟨Nat.le_refl _, Nat.le_refl _⟩) hS (fun H1 locs1 hR1 hS1 => ?_)
  exact k p e s m args below meth c C H1 locs1 ls hR1 hS1 hL
end HP
