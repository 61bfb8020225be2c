/-! THE CLAIM OUT OF ONE WALK OF THE LAW'S BODY. Your part is whole_start (and what it stands on); all else here is the same for every law, but numbers. -/
def R_law : String := "GingerRentsLaw"
def lw_P (b : Addr) (xs : List Int32) (args : Array Value) (s : State) : Prop := args = #[.ref b] ∧ s.IntsAt b xs ∧ xs.length ≤ 3072 ∧ (Jvm.Cond.and given_1 narrow_1).before args s = true
def lw_Q (_ : Array Value) (s : State) (o : Outcome) (t : State) : Prop := o = .returned (some (.int 1)) ∧ Framed s o t [] 600000 7302250
def lw_Z (below : List Frame) (a : Array Value) (s : State) : State → Prop := fun t => ∃ o, t.status = .running ∧ Ended t below o ∧ lw_Q a s o t
/-- the law's own end, with 1 on the stack, nothing written that was there before, its room as the claim has it -/
theorem lw_ret {p : Program} {l : Launch} {e : Env} {s : State} {m : MethodId} {below : List Frame} {meth : Method} {c : Code} {b : Nat} (hx : p.tables.exec = Jvm.exec) (hb : c.code = code) (hr : meth.sig.returnType = ret) (hlocks : meth.locks = false) {pc : Nat} {H : Heap} {ls : Array Slot} (hdg : decode code pc = .ok (.ireturn, 1)) : W p l e room_1 s m #[Value.ref b] below meth c H [] 600000 7302250 (lw_Z below #[Value.ref b] s) (F0 m pc ls [.int 1]) := by
  intro T hT X
  obtain ⟨fs, hret, hrun, hended, hW, hframe⟩ := X.leave (v := some (.int 1)) (hlocks := hlocks) (fun h => by rw [hr] at h; cases h)
  have hmeth' : T.vm.method? m = some meth := X.method'
  refine ⟨T.setFrames fs, ?_, .returned (some (.int 1)), hrun, hended, rfl, ⟨_, rfl⟩, hW, hframe⟩
  jvm_step X.here [X.here.top, hx, hb, hdg, hmeth', hr, ret, narrow_b1]
  (try refine ⟨rfl, ?_⟩); (try refine ⟨rfl, ?_⟩)
  first | (intro acts; rw [hret _ acts rfl rfl rfl]) | rw [hret _ _ rfl rfl rfl]
  exact Steps.refl _
/-- what holds at the law's entry: the machine, the code, the tables' words (any of lw_tbl by 'hts w (by decide +kernel)'), the script of L ints xs at the cell b, what the Statement gives of the start (any of its parts by flat_of_before) -/
def lw_At (p : Program) (s : State) (m : MethodId) (meth : Method) (c : Code) (b L : Nat) (xs : Nat → Int32) : Prop :=
  p.tables.exec = Jvm.exec ∧ c.code = code ∧ meth.sig.returnType = ret ∧ c.maxLocals = 4 ∧ s.vm.findClass R_law = some m.cls ∧ (∀ w ∈ lw_tbl, w.before #[Value.ref b] s = true) ∧ va_X b L xs s s.heap ∧ b < s.heap.size ∧ meth.locks = false ∧ (Jvm.Cond.and given_1 narrow_1).before #[Value.ref b] s = true
/-! THE LAW's loop over the pure heap. Printed by wip/gen/p60.py -/
def tLaw : MM := (x, code, maxLocals, ret)
def LC (G : GG) (b Ln : Nat) (xs : Nat → Int32) (p : Program) (s : State) (m : MethodId) (meth : Method) (c : Code) : Prop :=
  p.tables.exec = Jvm.exec ∧ c.code = code ∧ meth.sig.returnType = ret ∧ c.maxLocals = 4 ∧ s.vm.findClass R_law = some m.cls ∧ (∀ w ∈ tb, w.before #[Value.ref b] s = true) ∧ va_X b Ln xs s s.heap ∧ b < s.heap.size ∧ meth.locks = false ∧ va_K (gD G) clsL (ty3 G) s ∧ SX G s s.heap ∧ gB G = s.heap.size
/-- from here the law comes to its end, with true: locals the script, the class's object, the model's, i -/
def Lx (G : GG) (b Ln : Nat) (xs : Nat → Int32) (pc : Nat) (i : Int32) (st : List Value) (h : PH) : Prop :=
  ∀ (p : Program) (e : Env) (s : State) (m : MethodId) (below : List Frame) (meth : Method) (c : Code), LC G b Ln xs p s m meth c →
  ∀ (H : Heap) (locs : List Loc) (ls : Array Slot), HR G h H → va_S (gF G) s.heap H locs → LV ls 4 [some (.ref b), some (.ref (gB G + 0)), some (.ref (gB G + 104)), some (.int i)] →
    W p G.1 e room_1 s m #[Value.ref b] below meth c H locs 600000 7302250 (lw_Z below #[Value.ref b] s) (F0 m pc ls st)
section LW
variable {G : GG} {b Ln pc pc' tgt : Nat} {xs : Nat → Int32} {i : Int32} {st : List Value} {h : PH}
theorem l_iconst {n : Int} {x : Int32} (hd : dn tLaw pc (.iconst n) 1 pc') (hv : Int32.ofInt n = x) (k : Lx G b Ln xs pc' i (.int x :: st) h) : Lx G b Ln xs pc i st h := by
  obtain ⟨hd, rfl⟩ := hd
  intro p e s m below meth c C H locs ls hR hS hL
  exact lv_iconst C.1 C.2.1 hd hv (k p e s m below meth c C H locs ls hR hS hL)
theorem l_bipush {n : Int} {x : Int32} (hd : dn tLaw pc (.bipush n) 2 pc') (hv : (Int8.ofInt n).toInt32 = x) (k : Lx G b Ln xs pc' i (.int x :: st) h) : Lx G b Ln xs pc i st h := by
  obtain ⟨hd, rfl⟩ := hd
  intro p e s m below meth c C H locs ls hR hS hL
  exact lv_bipush C.1 C.2.1 hd hv (k p e s m below meth c C H locs ls hR hS hL)
theorem l_iadd {x y : Int32} (hd : dn tLaw pc .iadd 1 pc') (k : Lx G b Ln xs pc' i (.int (x + y) :: st) h) : Lx G b Ln xs pc i (.int y :: .int x :: st) h := by
  obtain ⟨hd, rfl⟩ := hd
  intro p e s m below meth c C H locs ls hR hS hL
  exact lv_iadd C.1 C.2.1 hd (k p e s m below meth c C H locs ls hR hS hL)
theorem l_isub {x y : Int32} (hd : dn tLaw pc .isub 1 pc') (k : Lx G b Ln xs pc' i (.int (x - y) :: st) h) : Lx G b Ln xs pc i (.int y :: .int x :: st) h := by
  obtain ⟨hd, rfl⟩ := hd
  intro p e s m below meth c C H locs ls hR hS hL
  exact lv_isub C.1 C.2.1 hd (k p e s m below meth c C H locs ls hR hS hL)
theorem l_iand {x y : Int32} (hd : dn tLaw pc .iand 1 pc') (k : Lx G b Ln xs pc' i (.int (x &&& y) :: st) h) : Lx G b Ln xs pc i (.int y :: .int x :: st) h := by
  obtain ⟨hd, rfl⟩ := hd
  intro p e s m below meth c C H locs ls hR hS hL
  exact lv_iand C.1 C.2.1 hd (k p e s m below meth c C H locs ls hR hS hL)
theorem l_a0 (hd : dl tLaw pc .aload_n .aload 0 pc') (k : Lx G b Ln xs pc' i (.ref b :: st) h) : Lx G b Ln xs pc i st h := by
  intro p e s m below meth c C H locs ls hR hS hL
  rcases hd with ⟨k0, hd, e1, rfl⟩ | ⟨hd, rfl⟩
  · exact lv_aload_n C.1 C.2.1 hd e1 (hL.2.2 0 _ rfl) (k p e s m below meth c C H locs ls hR hS hL)
  · exact lv_aload C.1 C.2.1 hd (hL.2.2 0 _ rfl) (k p e s m below meth c C H locs ls hR hS hL)
theorem l_a1 (hd : dl tLaw pc .aload_n .aload 1 pc') (k : Lx G b Ln xs pc' i (.ref (gB G + 0) :: st) h) : Lx G b Ln xs pc i st h := by
  intro p e s m below meth c C H locs ls hR hS hL
  rcases hd with ⟨k0, hd, e1, rfl⟩ | ⟨hd, rfl⟩
  · exact lv_aload_n C.1 C.2.1 hd e1 (hL.2.2 1 _ rfl) (k p e s m below meth c C H locs ls hR hS hL)
  · exact lv_aload C.1 C.2.1 hd (hL.2.2 1 _ rfl) (k p e s m below meth c C H locs ls hR hS hL)
theorem l_a2 (hd : dl tLaw pc .aload_n .aload 2 pc') (k : Lx G b Ln xs pc' i (.ref (gB G + 104) :: st) h) : Lx G b Ln xs pc i st h := by
  intro p e s m below meth c C H locs ls hR hS hL
  rcases hd with ⟨k0, hd, e1, rfl⟩ | ⟨hd, rfl⟩
  · exact lv_aload_n C.1 C.2.1 hd e1 (hL.2.2 2 _ rfl) (k p e s m below meth c C H locs ls hR hS hL)
  · exact lv_aload C.1 C.2.1 hd (hL.2.2 2 _ rfl) (k p e s m below meth c C H locs ls hR hS hL)
theorem l_i3 (hd : dl tLaw pc .iload_n .iload 3 pc') (k : Lx G b Ln xs pc' i (.int i :: st) h) : Lx G b Ln xs pc i st h := by
  intro p e s m below meth c C H locs ls hR hS hL
  rcases hd with ⟨k0, hd, e1, rfl⟩ | ⟨hd, rfl⟩
  · exact lv_iload_n C.1 C.2.1 hd e1 (hL.2.2 3 _ rfl) (k p e s m below meth c C H locs ls hR hS hL)
  · exact lv_iload C.1 C.2.1 hd (hL.2.2 3 _ rfl) (k p e s m below meth c C H locs ls hR hS hL)
theorem l_sld {j : Int32} (hd : dn tLaw pc .iaload 1 pc') (hin : vp_in j Ln) (k : Lx G b Ln xs pc' i (.int (xs (ix j)) :: st) h) : Lx G b Ln xs pc i (.int j :: .ref b :: st) h := by
  obtain ⟨hd, rfl⟩ := hd
  intro p e s m below meth c C H locs ls hR hS hL
  have hB := C.2.2.2.2.2.2.2.2.2.2.2
  exact va_sld C.1 C.2.1 C.2.2.2.2.2.2.1 C.2.2.2.2.2.2.2.1 (fun q => absurd (Nat.le_trans (Nat.le_of_eq hB.symm) q) (Nat.not_le.mpr C.2.2.2.2.2.2.2.1)) hS hin hd (k p e s m below meth c C H locs ls hR hS hL)
theorem l_slen (hd : dn tLaw pc .arraylength 1 pc') (k : Lx G b Ln xs pc' i (.int (Int32.ofNat Ln) :: st) h) : Lx G b Ln xs pc i (.ref b :: st) h := by
  obtain ⟨hd, rfl⟩ := hd
  intro p e s m below meth c C H locs ls hR hS hL
  have hB := C.2.2.2.2.2.2.2.2.2.2.2
  exact va_slen C.1 C.2.1 C.2.2.2.2.2.2.1 C.2.2.2.2.2.2.2.1 (fun q => absurd (Nat.le_trans (Nat.le_of_eq hB.symm) q) (Nat.not_le.mpr C.2.2.2.2.2.2.2.1)) hS hd (k p e s m below meth c C H locs ls hR hS hL)
theorem l_cmpgt {x y : Int32} (hd : db tLaw pc (.if_icmp .gt) tgt pc') (kt : y < x → Lx G b Ln xs tgt i st h) (kf : ¬ y < x → Lx G b Ln xs pc' i st h) : Lx G b Ln xs pc i (.int y :: .int x :: st) h := by
  obtain ⟨off, hd, ht, rfl⟩ := hd
  intro p e s m below meth c C H locs ls hR hS hL
  exact lv_icmp_gt C.1 C.2.1 hd ht (fun q => kt q p e s m below meth c C H locs ls hR hS hL) (fun q => kf q p e s m below meth c C H locs ls hR hS hL)
theorem l_cmpeq {x : Int32} (hd : db tLaw pc (.if_icmp .eq) tgt pc') (kt : Lx G b Ln xs tgt i st h) : Lx G b Ln xs pc i (.int x :: .int x :: st) h := by
  obtain ⟨off, hd, ht, rfl⟩ := hd
  intro p e s m below meth c C H locs ls hR hS hL
  exact lv_icmp_eq C.1 C.2.1 hd ht (fun q => kt p e s m below meth c C H locs ls hR hS hL) (fun q => absurd rfl q)
theorem l_ifeq {x : Int32} (hd : db tLaw pc (.ifCond .eq) tgt pc') (kt : x = 0 → Lx G b Ln xs tgt i st h) (kf : ¬ x = 0 → Lx G b Ln xs pc' i st h) : Lx G b Ln xs pc i (.int x :: st) h := by
  obtain ⟨off, hd, ht, rfl⟩ := hd
  intro p e s m below meth c C H locs ls hR hS hL
  exact lv_if_eq C.1 C.2.1 hd ht (fun q => kt q p e s m below meth c C H locs ls hR hS hL) (fun q => kf q p e s m below meth c C H locs ls hR hS hL)
theorem l_goto (hd : db tLaw pc .goto tgt pc') (k : Lx G b Ln xs tgt i st h) : Lx G b Ln xs pc i st h := by
  obtain ⟨off, hd, ht, rfl⟩ := hd
  intro p e s m below meth c C H locs ls hR hS hL
  exact lv_goto C.1 C.2.1 hd ht (k p e s m below meth c C H locs ls hR hS hL)
theorem l_inc {n : Int} {y : Int32} (hd : dn tLaw pc (.iinc 3 n) 3 pc') (hy : i + Int32.ofInt n = y) (k : Lx G b Ln xs pc' y st h) : Lx G b Ln xs pc i st h := by
  obtain ⟨hd, rfl⟩ := hd
  intro p e s m below meth c C H locs ls hR hS hL
  obtain ⟨j, hj⟩ := List.getElem?_of_mem (aL_mem.mpr (show ([some (.ref b), some (.ref (gB G + 0)), some (.ref (gB G + 104)), some (.int i)] : List (Option Value))[3]? = some (some (.int i)) from rfl))
  exact lv_iinc C.1 C.2.1 hd hL.has hj hy (by decide) rfl (fun ls' hl' => k p e s m below meth c C H locs ls' hR hS (LV.of hl' rfl))
theorem l_sw {cs : List (Int32 × Nat)} {df : Nat} {x : Int32} (hd : dsw tLaw pc cs df) (k : Lx G b Ln xs (sel cs df x) i st h) : Lx G b Ln xs pc i (.int x :: st) h := by
  intro p e s m below meth c C H locs ls hR hS hL
  have kk := k p e s m below meth c C H locs ls hR hS hL
  rcases hd with ⟨dflt, ps, len, hd, h1, h2⟩ | ⟨dflt, lo, hi, offs, len, hd, h1, h2, h3⟩
  · exact lv_lookup C.1 C.2.1 hd h1 rfl (lsw_s _ _ h2) kk
  · by_cases hx : x.toInt < lo ∨ hi < x.toInt
    · have he : sel cs df x = df := tsw_out offs.toList cs lo h3 (by rcases hx with q | q; exact Or.inl q; exact Or.inr (by omega))
      rw [he] at kk
      exact lv_tableOut C.1 C.2.1 hd hx h1 kk
    · have g1 : ¬ x.toInt < lo := fun q => hx (Or.inl q)
      have g2 : ¬ hi < x.toInt := fun q => hx (Or.inr q)
      obtain ⟨o, e1, e2⟩ := tsw_in (x := x) (df := df) offs.toList cs lo h3 g1 (by omega)
      exact lv_tableIn C.1 C.2.1 hd g1 g2 (by rw [← Array.getElem?_toList]; exact e1) e2 kk
theorem l_pop {x : Int32} (hd : dn tLaw pc .pop 1 pc') (k : Lx G b Ln xs pc' i st h) : Lx G b Ln xs pc i (.int x :: st) h := by
  obtain ⟨hd, rfl⟩ := hd
  intro p e s m below meth c C H locs ls hR hS hL
  exact lv_pop C.1 C.2.1 hd rfl (k p e s m below meth c C H locs ls hR hS hL)
theorem l_ret (hd : dn tLaw pc .ireturn 1 pc') : Lx G b Ln xs pc i [.int 1] h := by
  obtain ⟨hd, rfl⟩ := hd
  intro p e s m below meth c C H locs ls hR hS hL
  have hB := C.2.2.2.2.2.2.2.2.2.2.2
  refine va_forget (fun q hq => ?_) (lw_ret C.1 C.2.1 C.2.2.1 C.2.2.2.2.2.2.2.2.1 hd)
  exact Nat.le_trans (Nat.le_of_eq hB.symm) (hS.2.2 q hq)
theorem l_call {M' : MM} {idx n a ci n2 D : Nat} {As : List Value} {r : Int32} {h1 : PH} {st0 : List Value} (hd : dn tLaw pc (.invokevirtual idx) 3 pc') (hl : Cond.methodLink R_law idx M'.1 ∈ tb) (hm : mV M' n) (ha : shL[a]? = some (ci, n2)) (hci : (clsL[ci]?.map fun r => r.1) = some M'.1.cls) (hn : As.length = n) (hst : st0 = As.reverse ++ .ref (gB G + a) :: st) (hrest : (st.map fun v => v.category).sum ≤ 8) (hD : D ≤ 1000)
    (hK : Kx G M' D (.ref (gB G + a) :: As) h (some (.int r)) h1) (k : Lx G b Ln xs pc' i (.int r :: st) h1) : Lx G b Ln xs pc i st0 h := by
  obtain ⟨hd, rfl⟩ := hd
  intro p e s m below meth c C H locs ls hR hS hL
  have hts := C.2.2.2.2.2.1
  have hKs := C.2.2.2.2.2.2.2.2.2.1
  have hLB := C.2.2.2.2.2.2.2.2.2.2.1
  obtain ⟨rr, hcl, hcn⟩ := Option.map_eq_some_iff.mp hci
  obtain ⟨hlt, -⟩ := clK_all ci _ hcl
  have he := wd_at (B := gB G) (cA := gA G) (h := h) ha
  rw [ce_obj hlt] at he
  have hrecv : ∃ cellB : Cell, H[gB G + a]? = some cellB ∧ cellB.vm.isStatics = false ∧ s.vm.findClass M'.1.cls = some cellB.cls := by
    obtain ⟨r2, h1, cell, q1, q2, q3, q4⟩ := hR a _ he
    have hr : r2 = rr := Option.some.inj (h1.symm.trans hcl)
    subst hr
    refine ⟨cell, q1, by rw [q3]; rfl, ?_⟩
    rw [q2, ← hcn]
    exact (hKs.1 ci _ hcl).2.1
  have hrm : (rmd D).frames + 1 ≤ room_1.frames ∧ 8 + (M'.2.2.1 + 11) + (rmd D).locals ≤ room_1.locals := by
    have := hm.1.2.2.2
    simp only [rmd, room_1]
    omega
  have hr := va_runV (n := n) (As := As) (rest := st) (Ts := tb) (bytes := M'.2.1) (maxL := M'.2.2.1) (ret := M'.2.2.2) (cells := 600000) (slots := 7302250) (R := room_1) (locs := locs) (below := below) (e := e) (meth := meth) (g := F0 m pc ls st0) ⟨C.1, C.2.1, C.2.2.2.1, C.2.2.2.2.1, hts⟩ hK ⟨callB_of n hts (wsM_good hm.1) rfl rfl rfl (hts _ hm.1.2.1) (hts _ hl) hm.1.2.2.1 hrm, hts _ hm.2.1, hts _ hm.2.2⟩ ⟨blind, hrecv, fun U hU hW => ⟨rfl, by rw [hU]; exact hR, va_K.moved hW.alike hKs, by rw [hU]; exact (hLB.warm hW).go hS⟩⟩ rfl hn hL.1 hst (lv_room hrest) hd ⟨Nat.le_refl _, Nat.le_refl _⟩
  intro T hT X
  obtain ⟨v, st₀, t, T', L, h0, X', hL', e1, e2, ⟨hv, hb, hz, hk⟩, stp⟩ := hr T hT X
  cases hv
  rw [h0] at hz hk
  obtain ⟨t2, a1, b1⟩ := k p e s m below meth c C T'.heap (locs ++ L) ls (by rw [e1]; exact hb)
    ⟨Nat.le_trans hS.1 (by rw [e1]; exact hz), fun q h1 h2 => by rw [e1, hk q (Nat.lt_of_lt_of_le h1 hS.1) h2]; exact hS.2.1 q h1 h2, fun q hq => by
      rcases List.mem_append.mp hq with h | h
      · exact hS.2.2 q h
      · exact hL' q h⟩ hL T' rfl X'
  exact ⟨t2, stp t2 a1, b1⟩
theorem l_cv0 {r : Int32} {M' : MM} {idx a ci n2 D : Nat} {h1 : PH} (hd : dn tLaw pc (.invokevirtual idx) 3 pc') (hl : Cond.methodLink R_law idx M'.1 ∈ tb) (hm : mV M' 0) (ha : shL[a]? = some (ci, n2)) (hci : (clsL[ci]?.map fun r => r.1) = some M'.1.cls) (hrest : (st.map fun v => v.category).sum ≤ 8) (hD : D ≤ 1000) (hK : Kx G M' D (.ref (gB G + a) :: []) h (some (.int r)) h1) (k : Lx G b Ln xs pc' i (.int r :: st) h1) : Lx G b Ln xs pc i (.ref (gB G + a) :: st) h := l_call hd hl hm ha hci rfl rfl hrest hD hK k
theorem l_cv1 {r : Int32} {y0 : Value} {M' : MM} {idx a ci n2 D : Nat} {h1 : PH} (hd : dn tLaw pc (.invokevirtual idx) 3 pc') (hl : Cond.methodLink R_law idx M'.1 ∈ tb) (hm : mV M' 1) (ha : shL[a]? = some (ci, n2)) (hci : (clsL[ci]?.map fun r => r.1) = some M'.1.cls) (hrest : (st.map fun v => v.category).sum ≤ 8) (hD : D ≤ 1000) (hK : Kx G M' D (.ref (gB G + a) :: [y0]) h (some (.int r)) h1) (k : Lx G b Ln xs pc' i (.int r :: st) h1) : Lx G b Ln xs pc i (y0 :: .ref (gB G + a) :: st) h := l_call hd hl hm ha hci rfl rfl hrest hD hK k
theorem l_cv2 {r : Int32} {y0 y1 : Value} {M' : MM} {idx a ci n2 D : Nat} {h1 : PH} (hd : dn tLaw pc (.invokevirtual idx) 3 pc') (hl : Cond.methodLink R_law idx M'.1 ∈ tb) (hm : mV M' 2) (ha : shL[a]? = some (ci, n2)) (hci : (clsL[ci]?.map fun r => r.1) = some M'.1.cls) (hrest : (st.map fun v => v.category).sum ≤ 8) (hD : D ≤ 1000) (hK : Kx G M' D (.ref (gB G + a) :: [y0, y1]) h (some (.int r)) h1) (k : Lx G b Ln xs pc' i (.int r :: st) h1) : Lx G b Ln xs pc i (y1 :: y0 :: .ref (gB G + a) :: st) h := l_call hd hl hm ha hci rfl rfl hrest hD hK k
theorem l_cv3 {r : Int32} {y0 y1 y2 : Value} {M' : MM} {idx a ci n2 D : Nat} {h1 : PH} (hd : dn tLaw pc (.invokevirtual idx) 3 pc') (hl : Cond.methodLink R_law idx M'.1 ∈ tb) (hm : mV M' 3) (ha : shL[a]? = some (ci, n2)) (hci : (clsL[ci]?.map fun r => r.1) = some M'.1.cls) (hrest : (st.map fun v => v.category).sum ≤ 8) (hD : D ≤ 1000) (hK : Kx G M' D (.ref (gB G + a) :: [y0, y1, y2]) h (some (.int r)) h1) (k : Lx G b Ln xs pc' i (.int r :: st) h1) : Lx G b Ln xs pc i (y2 :: y1 :: y0 :: .ref (gB G + a) :: st) h := l_call hd hl hm ha hci rfl rfl hrest hD hK k
theorem l_cv4 {r : Int32} {y0 y1 y2 y3 : Value} {M' : MM} {idx a ci n2 D : Nat} {h1 : PH} (hd : dn tLaw pc (.invokevirtual idx) 3 pc') (hl : Cond.methodLink R_law idx M'.1 ∈ tb) (hm : mV M' 4) (ha : shL[a]? = some (ci, n2)) (hci : (clsL[ci]?.map fun r => r.1) = some M'.1.cls) (hrest : (st.map fun v => v.category).sum ≤ 8) (hD : D ≤ 1000) (hK : Kx G M' D (.ref (gB G + a) :: [y0, y1, y2, y3]) h (some (.int r)) h1) (k : Lx G b Ln xs pc' i (.int r :: st) h1) : Lx G b Ln xs pc i (y3 :: y2 :: y1 :: y0 :: .ref (gB G + a) :: st) h := l_call hd hl hm ha hci rfl rfl hrest hD hK k
theorem l_cv5 {r : Int32} {y0 y1 y2 y3 y4 : Value} {M' : MM} {idx a ci n2 D : Nat} {h1 : PH} (hd : dn tLaw pc (.invokevirtual idx) 3 pc') (hl : Cond.methodLink R_law idx M'.1 ∈ tb) (hm : mV M' 5) (ha : shL[a]? = some (ci, n2)) (hci : (clsL[ci]?.map fun r => r.1) = some M'.1.cls) (hrest : (st.map fun v => v.category).sum ≤ 8) (hD : D ≤ 1000) (hK : Kx G M' D (.ref (gB G + a) :: [y0, y1, y2, y3, y4]) h (some (.int r)) h1) (k : Lx G b Ln xs pc' i (.int r :: st) h1) : Lx G b Ln xs pc i (y4 :: y3 :: y2 :: y1 :: y0 :: .ref (gB G + a) :: st) h := l_call hd hl hm ha hci rfl rfl hrest hD hK k
end LW
