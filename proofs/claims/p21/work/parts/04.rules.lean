/-! THE RULES of the pure judgement: an instruction, a rule. Printed by wip/gen/p04.py -/
def dn (M : MM) (pc : Nat) (i : Instr) (n pc' : Nat) : Prop := decode M.2.1 pc = .ok (i, n) ∧ pc + n = pc'
/-- a branch: where to, and behind it -/
def db (M : MM) (pc : Nat) (i : Int → Instr) (tgt pc' : Nat) : Prop := ∃ off : Int, decode M.2.1 pc = .ok (i off, 3) ∧ (pc : Int) + off = (tgt : Int) ∧ pc + 3 = pc'
def dl (M : MM) (pc : Nat) (i1 : Fin 4 → Instr) (i2 : Nat → Instr) (i pc' : Nat) : Prop := (∃ k : Fin 4, decode M.2.1 pc = .ok (i1 k, 1) ∧ (k : Nat) = i ∧ pc + 1 = pc') ∨ (decode M.2.1 pc = .ok (i2 i, 2) ∧ pc + 2 = pc')
theorem dn_i {M : MM} {pc : Nat} {i : Instr} {n pc' : Nat} (h : decode M.2.1 pc = .ok (i, n)) (e : pc + n = pc') : dn M pc i n pc' := ⟨h, e⟩
theorem db_i {M : MM} {pc : Nat} {i : Int → Instr} {tgt pc' : Nat} (off : Int) (h : decode M.2.1 pc = .ok (i off, 3)) (e : (pc : Int) + off = (tgt : Int)) (e2 : pc + 3 = pc') : db M pc i tgt pc' := ⟨off, h, e, e2⟩
theorem dl_n {M : MM} {pc : Nat} {i1 : Fin 4 → Instr} {i2 : Nat → Instr} {i pc' : Nat} (k : Fin 4) (h : decode M.2.1 pc = .ok (i1 k, 1)) (e : (k : Nat) = i) (e2 : pc + 1 = pc') : dl M pc i1 i2 i pc' := Or.inl ⟨k, h, e, e2⟩
theorem dl_w {M : MM} {pc : Nat} {i1 : Fin 4 → Instr} {i2 : Nat → Instr} {i pc' : Nat} (h : decode M.2.1 pc = .ok (i2 i, 2)) (e2 : pc + 2 = pc') : dl M pc i1 i2 i pc' := Or.inr ⟨h, e2⟩
def okS (L : List (Option Value)) (i : Nat) : Bool := match i with
  | 0 => true
  | j + 1 => match L[j]? with
    | some (some w) => w.category == 1
    | _ => true
def aL (L : List (Option Value)) : List (Nat × Value) := (List.range L.length).filterMap fun j => (L[j]?.join).map fun v => (j, v)
theorem aL_mem {L : List (Option Value)} {j : Nat} {w : Value} : (j, w) ∈ aL L ↔ L[j]? = some (some w) := by
  unfold aL
  rw [List.mem_filterMap]
  constructor
  · rintro ⟨i, -, hi⟩
    cases h : L[i]? with
    | none => simp [h] at hi
    | some a =>
      cases a with
      | none => simp [h] at hi
      | some b => simp [h] at hi; rw [← hi.1, h, hi.2]
  · intro h
    have hl := (List.getElem?_eq_some_iff.mp h).1
    exact ⟨j, List.mem_range.mpr hl, by simp [h]⟩
theorem LV.has {ls : Array Slot} {nL : Nat} {L : List (Option Value)} (h : LV ls nL L) : lv_has ls nL (aL L) := ⟨h.1, h.2.1, fun q hq => h.2.2 q.1 q.2 (aL_mem.mp hq)⟩
theorem LV.of {ls : Array Slot} {nL : Nat} {L : List (Option Value)} {i : Nat} {x : Value} (h : lv_has ls nL ((i, x) :: (aL L).filter (fun q => !(q.1 == i) && !(q.1 + 1 == i && q.2.category == 2)))) (hk : okS L i = true) : LV ls nL (L.set i (some x)) := by
  refine ⟨h.1, h.2.1, fun j w hj => ?_⟩
  by_cases hji : j = i
  · subst hji
    have hl : j < L.length := by simpa using (List.getElem?_eq_some_iff.mp hj).1
    rw [List.getElem?_set_self hl] at hj
    cases hj
    exact h.2.2 (j, x) List.mem_cons_self
  · rw [List.getElem?_set_ne (Ne.symm hji)] at hj
    refine h.2.2 (j, w) (List.mem_cons_of_mem _ (List.mem_filter.mpr ⟨aL_mem.mpr hj, ?_⟩))
    have h1 : ¬ (j + 1 = i ∧ w.category = 2) := by
      rintro ⟨e1, e2⟩
      subst e1
      simp only [okS, hj] at hk
      rw [e2] at hk
      exact absurd hk (by decide)
    simp only [Bool.and_eq_true, Bool.not_eq_true', beq_eq_false_iff_ne, ne_eq, Bool.and_eq_false_iff]
    refine ⟨hji, ?_⟩
    by_cases e1 : j + 1 = i
    · right; exact fun e2 => h1 ⟨e1, e2⟩
    · left; exact e1
section RU
variable {G : GG} {M : MM} {d pc pc' tgt : Nat} {L : List (Option Value)} {st : List Value} {h h' : PH} {v : Option Value}
theorem v_iconst {n : Int} {x : Int32} (hd : dn M pc (.iconst n) 1 pc') (hv : Int32.ofInt n = x) (k : Vx G M d pc' L (.int x :: st) h v h') : Vx G M d pc L st h v h' := by
  obtain ⟨hd, rfl⟩ := hd
  intro p e s m args below meth c C H locs ls hR hS hL
  exact lv_iconst C.1 C.2.1 hd hv (k p e s m args below meth c C H locs ls hR hS hL)
theorem v_bipush {n : Int} {x : Int32} (hd : dn M pc (.bipush n) 2 pc') (hv : (Int8.ofInt n).toInt32 = x) (k : Vx G M d pc' L (.int x :: st) h v h') : Vx G M d pc L st h v h' := by
  obtain ⟨hd, rfl⟩ := hd
  intro p e s m args below meth c C H locs ls hR hS hL
  exact lv_bipush C.1 C.2.1 hd hv (k p e s m args below meth c C H locs ls hR hS hL)
theorem v_sipush {n : Int} {x : Int32} (hd : dn M pc (.sipush n) 3 pc') (hv : (Int16.ofInt n).toInt32 = x) (k : Vx G M d pc' L (.int x :: st) h v h') : Vx G M d pc L st h v h' := by
  obtain ⟨hd, rfl⟩ := hd
  intro p e s m args below meth c C H locs ls hR hS hL
  exact lv_sipush C.1 C.2.1 hd hv (k p e s m args below meth c C H locs ls hR hS hL)
theorem v_lconst {n : Fin 2} {x : Int64} (hd : dn M pc (.lconst n) 1 pc') (hv : Int64.ofNat (n : Nat) = x) (k : Vx G M d pc' L (.long x :: st) h v h') : Vx G M d pc L st h v h' := by
  obtain ⟨hd, rfl⟩ := hd
  intro p e s m args below meth c C H locs ls hR hS hL
  exact lv_lconst C.1 C.2.1 hd hv (k p e s m args below meth c C H locs ls hR hS hL)
theorem v_ldc {n : Nat} {x : Int32} (hd : dn M pc (.ldc n) 2 pc') (hw : Cond.constant M.1.cls n x ∈ tb) (k : Vx G M d pc' L (.int x :: st) h v h') : Vx G M d pc L st h v h' := by
  obtain ⟨hd, rfl⟩ := hd
  intro p e s m args below meth c C H locs ls hR hS hL
  exact lv_ldc C.1 C.2.1 C.2.2.2.2.1 (C.2.2.2.2.2.1 _ hw) hd (k p e s m args below meth c C H locs ls hR hS hL)
theorem v_ldcw {n : Nat} {x : Int32} (hd : dn M pc (.ldc_w n) 3 pc') (hw : Cond.constant M.1.cls n x ∈ tb) (k : Vx G M d pc' L (.int x :: st) h v h') : Vx G M d pc L st h v h' := by
  obtain ⟨hd, rfl⟩ := hd
  intro p e s m args below meth c C H locs ls hR hS hL
  exact lv_ldcw C.1 C.2.1 C.2.2.2.2.1 (C.2.2.2.2.2.1 _ hw) hd (k p e s m args below meth c C H locs ls hR hS hL)
theorem v_ldc2 {n : Nat} {x : Int64} (hd : dn M pc (.ldc2_w n) 3 pc') (hw : Cond.constantLong M.1.cls n x ∈ tb) (k : Vx G M d pc' L (.long x :: st) h v h') : Vx G M d pc L st h v h' := by
  obtain ⟨hd, rfl⟩ := hd
  intro p e s m args below meth c C H locs ls hR hS hL
  exact lv_ldc2 C.1 C.2.1 C.2.2.2.2.1 (C.2.2.2.2.2.1 _ hw) hd (k p e s m args below meth c C H locs ls hR hS hL)
theorem v_iadd {x y : Int32} (hd : dn M pc .iadd 1 pc') (k : Vx G M d pc' L (.int (x + y) :: st) h v h') : Vx G M d pc L (.int y :: .int x :: st) h v h' := by
  obtain ⟨hd, rfl⟩ := hd
  intro p e s m args below meth c C H locs ls hR hS hL
  exact lv_iadd C.1 C.2.1 hd (k p e s m args below meth c C H locs ls hR hS hL)
theorem v_isub {x y : Int32} (hd : dn M pc .isub 1 pc') (k : Vx G M d pc' L (.int (x - y) :: st) h v h') : Vx G M d pc L (.int y :: .int x :: st) h v h' := by
  obtain ⟨hd, rfl⟩ := hd
  intro p e s m args below meth c C H locs ls hR hS hL
  exact lv_isub C.1 C.2.1 hd (k p e s m args below meth c C H locs ls hR hS hL)
theorem v_imul {x y : Int32} (hd : dn M pc .imul 1 pc') (k : Vx G M d pc' L (.int (x * y) :: st) h v h') : Vx G M d pc L (.int y :: .int x :: st) h v h' := by
  obtain ⟨hd, rfl⟩ := hd
  intro p e s m args below meth c C H locs ls hR hS hL
  exact lv_imul C.1 C.2.1 hd (k p e s m args below meth c C H locs ls hR hS hL)
theorem v_iand {x y : Int32} (hd : dn M pc .iand 1 pc') (k : Vx G M d pc' L (.int (x &&& y) :: st) h v h') : Vx G M d pc L (.int y :: .int x :: st) h v h' := by
  obtain ⟨hd, rfl⟩ := hd
  intro p e s m args below meth c C H locs ls hR hS hL
  exact lv_iand C.1 C.2.1 hd (k p e s m args below meth c C H locs ls hR hS hL)
theorem v_ior {x y : Int32} (hd : dn M pc .ior 1 pc') (k : Vx G M d pc' L (.int (x ||| y) :: st) h v h') : Vx G M d pc L (.int y :: .int x :: st) h v h' := by
  obtain ⟨hd, rfl⟩ := hd
  intro p e s m args below meth c C H locs ls hR hS hL
  exact lv_ior C.1 C.2.1 hd (k p e s m args below meth c C H locs ls hR hS hL)
theorem v_ixor {x y : Int32} (hd : dn M pc .ixor 1 pc') (k : Vx G M d pc' L (.int (x ^^^ y) :: st) h v h') : Vx G M d pc L (.int y :: .int x :: st) h v h' := by
  obtain ⟨hd, rfl⟩ := hd
  intro p e s m args below meth c C H locs ls hR hS hL
  exact lv_ixor C.1 C.2.1 hd (k p e s m args below meth c C H locs ls hR hS hL)
theorem v_ishl {x y : Int32} (hd : dn M pc .ishl 1 pc') (k : Vx G M d pc' L (.int (x <<< (y &&& 31)) :: st) h v h') : Vx G M d pc L (.int y :: .int x :: st) h v h' := by
  obtain ⟨hd, rfl⟩ := hd
  intro p e s m args below meth c C H locs ls hR hS hL
  exact lv_ishl C.1 C.2.1 hd (k p e s m args below meth c C H locs ls hR hS hL)
theorem v_ishr {x y : Int32} (hd : dn M pc .ishr 1 pc') (k : Vx G M d pc' L (.int (x >>> (y &&& 31)) :: st) h v h') : Vx G M d pc L (.int y :: .int x :: st) h v h' := by
  obtain ⟨hd, rfl⟩ := hd
  intro p e s m args below meth c C H locs ls hR hS hL
  exact lv_ishr C.1 C.2.1 hd (k p e s m args below meth c C H locs ls hR hS hL)
def ushr (x y : Int32) : Int32 := (x.toUInt32 >>> (y.toUInt32 &&& Int32.toUInt32 31)).toInt32
theorem v_iushr {x y : Int32} (hd : dn M pc .iushr 1 pc') (k : Vx G M d pc' L (.int (ushr x y) :: st) h v h') : Vx G M d pc L (.int y :: .int x :: st) h v h' := by
  obtain ⟨hd, rfl⟩ := hd
  intro p e s m args below meth c C H locs ls hR hS hL
  exact lv_iushr C.1 C.2.1 hd rfl (k p e s m args below meth c C H locs ls hR hS hL)
def i2c (x : Int32) : Int32 := (x.toUInt32 % 65536).toInt32
def i2b (x : Int32) : Int32 := x.toInt8.toInt32
theorem v_i2b {x : Int32} (hd : dn M pc .i2b 1 pc') (k : Vx G M d pc' L (.int (i2b x) :: st) h v h') : Vx G M d pc L (.int x :: st) h v h' := by
  obtain ⟨hd, rfl⟩ := hd
  intro p e s m args below meth c C H locs ls hR hS hL
  exact lv_i2b C.1 C.2.1 hd rfl (k p e s m args below meth c C H locs ls hR hS hL)
theorem v_i2c {x : Int32} (hd : dn M pc .i2c 1 pc') (k : Vx G M d pc' L (.int (i2c x) :: st) h v h') : Vx G M d pc L (.int x :: st) h v h' := by
  obtain ⟨hd, rfl⟩ := hd
  intro p e s m args below meth c C H locs ls hR hS hL
  exact lv_i2c C.1 C.2.1 hd rfl (k p e s m args below meth c C H locs ls hR hS hL)
theorem v_ineg {x : Int32} (hd : dn M pc .ineg 1 pc') (k : Vx G M d pc' L (.int (-x) :: st) h v h') : Vx G M d pc L (.int x :: st) h v h' := by
  obtain ⟨hd, rfl⟩ := hd
  intro p e s m args below meth c C H locs ls hR hS hL
  exact lv_ineg C.1 C.2.1 hd (k p e s m args below meth c C H locs ls hR hS hL)
def irm (x y : Int32) : Int32 := x - x / y * y
theorem v_idiv {x y : Int32} (hd : dn M pc .idiv 1 pc') (hne : ¬ y = 0) (k : Vx G M d pc' L (.int (x / y) :: st) h v h') : Vx G M d pc L (.int y :: .int x :: st) h v h' := by
  obtain ⟨hd, rfl⟩ := hd
  intro p e s m args below meth c C H locs ls hR hS hL
  exact lv_idiv C.1 C.2.1 hd hne (k p e s m args below meth c C H locs ls hR hS hL)
theorem v_irem {x y : Int32} (hd : dn M pc .irem 1 pc') (hne : ¬ y = 0) (k : Vx G M d pc' L (.int (irm x y) :: st) h v h') : Vx G M d pc L (.int y :: .int x :: st) h v h' := by
  obtain ⟨hd, rfl⟩ := hd
  intro p e s m args below meth c C H locs ls hR hS hL
  exact lv_irem C.1 C.2.1 hd hne (k p e s m args below meth c C H locs ls hR hS hL)
theorem v_land {x y : Int64} (hd : dn M pc .land 1 pc') (k : Vx G M d pc' L (.long (x &&& y) :: st) h v h') : Vx G M d pc L (.long y :: .long x :: st) h v h' := by
  obtain ⟨hd, rfl⟩ := hd
  intro p e s m args below meth c C H locs ls hR hS hL
  exact lv_land C.1 C.2.1 hd (k p e s m args below meth c C H locs ls hR hS hL)
theorem v_lor {x y : Int64} (hd : dn M pc .lor 1 pc') (k : Vx G M d pc' L (.long (x ||| y) :: st) h v h') : Vx G M d pc L (.long y :: .long x :: st) h v h' := by
  obtain ⟨hd, rfl⟩ := hd
  intro p e s m args below meth c C H locs ls hR hS hL
  exact lv_lor C.1 C.2.1 hd (k p e s m args below meth c C H locs ls hR hS hL)
theorem v_lshl {x : Int64} {y : Int32} (hd : dn M pc .lshl 1 pc') (k : Vx G M d pc' L (.long (x <<< (y.toInt64 &&& 63)) :: st) h v h') : Vx G M d pc L (.int y :: .long x :: st) h v h' := by
  obtain ⟨hd, rfl⟩ := hd
  intro p e s m args below meth c C H locs ls hR hS hL
  exact lv_lshl C.1 C.2.1 hd rfl (k p e s m args below meth c C H locs ls hR hS hL)
theorem v_lshr {x : Int64} {y : Int32} (hd : dn M pc .lshr 1 pc') (k : Vx G M d pc' L (.long (x >>> (y.toInt64 &&& 63)) :: st) h v h') : Vx G M d pc L (.int y :: .long x :: st) h v h' := by
  obtain ⟨hd, rfl⟩ := hd
  intro p e s m args below meth c C H locs ls hR hS hL
  exact lv_lshr C.1 C.2.1 hd rfl (k p e s m args below meth c C H locs ls hR hS hL)
theorem v_dup {w : Value} (hd : dn M pc .dup 1 pc') (hw : w.category = 1) (k : Vx G M d pc' L (w :: w :: st) h v h') : Vx G M d pc L (w :: st) h v h' := by
  obtain ⟨hd, rfl⟩ := hd
  intro p e s m args below meth c C H locs ls hR hS hL
  exact lv_dup C.1 C.2.1 hd hw (k p e s m args below meth c C H locs ls hR hS hL)
theorem v_dup2 {w u : Value} (hd : dn M pc .dup2 1 pc') (hw : w.category = 1) (hu : u.category = 1) (k : Vx G M d pc' L (w :: u :: w :: u :: st) h v h') : Vx G M d pc L (w :: u :: st) h v h' := by
  obtain ⟨hd, rfl⟩ := hd
  intro p e s m args below meth c C H locs ls hR hS hL
  exact lv_dup2_11 C.1 C.2.1 hd hw hu (k p e s m args below meth c C H locs ls hR hS hL)
theorem v_pop {w : Value} (hd : dn M pc .pop 1 pc') (hw : w.category = 1) (k : Vx G M d pc' L st h v h') : Vx G M d pc L (w :: st) h v h' := by
  obtain ⟨hd, rfl⟩ := hd
  intro p e s m args below meth c C H locs ls hR hS hL
  exact lv_pop C.1 C.2.1 hd hw (k p e s m args below meth c C H locs ls hR hS hL)
theorem v_if_eq {x : Int32} (hd : db M pc (.ifCond .eq) tgt pc') (kt : x = 0 → Vx G M d tgt L st h v h') (kf : ¬ (x = 0) → Vx G M d pc' L st h v h') : Vx G M d pc L (.int x :: st) h v h' := by
  obtain ⟨off, hd, ht, rfl⟩ := hd
  intro p e s m args below meth c C H locs ls hR hS hL
  exact lv_if_eq C.1 C.2.1 hd ht (fun q => kt q p e s m args below meth c C H locs ls hR hS hL) (fun q => kf q p e s m args below meth c C H locs ls hR hS hL)
theorem v_cmp_eq {x y : Int32} (hd : db M pc (.if_icmp .eq) tgt pc') (kt : x = y → Vx G M d tgt L st h v h') (kf : ¬ (x = y) → Vx G M d pc' L st h v h') : Vx G M d pc L (.int y :: .int x :: st) h v h' := by
  obtain ⟨off, hd, ht, rfl⟩ := hd
  intro p e s m args below meth c C H locs ls hR hS hL
  exact lv_icmp_eq C.1 C.2.1 hd ht (fun q => kt q p e s m args below meth c C H locs ls hR hS hL) (fun q => kf q p e s m args below meth c C H locs ls hR hS hL)
theorem v_if_lt {x : Int32} (hd : db M pc (.ifCond .lt) tgt pc') (kt : x < 0 → Vx G M d tgt L st h v h') (kf : ¬ (x < 0) → Vx G M d pc' L st h v h') : Vx G M d pc L (.int x :: st) h v h' := by
  obtain ⟨off, hd, ht, rfl⟩ := hd
  intro p e s m args below meth c C H locs ls hR hS hL
  exact lv_if_lt C.1 C.2.1 hd ht (fun q => kt q p e s m args below meth c C H locs ls hR hS hL) (fun q => kf q p e s m args below meth c C H locs ls hR hS hL)
theorem v_cmp_lt {x y : Int32} (hd : db M pc (.if_icmp .lt) tgt pc') (kt : x < y → Vx G M d tgt L st h v h') (kf : ¬ (x < y) → Vx G M d pc' L st h v h') : Vx G M d pc L (.int y :: .int x :: st) h v h' := by
  obtain ⟨off, hd, ht, rfl⟩ := hd
  intro p e s m args below meth c C H locs ls hR hS hL
  exact lv_icmp_lt C.1 C.2.1 hd ht (fun q => kt q p e s m args below meth c C H locs ls hR hS hL) (fun q => kf q p e s m args below meth c C H locs ls hR hS hL)
theorem v_if_ge {x : Int32} (hd : db M pc (.ifCond .ge) tgt pc') (kt : 0 ≤ x → Vx G M d tgt L st h v h') (kf : ¬ (0 ≤ x) → Vx G M d pc' L st h v h') : Vx G M d pc L (.int x :: st) h v h' := by
  obtain ⟨off, hd, ht, rfl⟩ := hd
  intro p e s m args below meth c C H locs ls hR hS hL
  exact lv_if_ge C.1 C.2.1 hd ht (fun q => kt q p e s m args below meth c C H locs ls hR hS hL) (fun q => kf q p e s m args below meth c C H locs ls hR hS hL)
theorem v_cmp_ge {x y : Int32} (hd : db M pc (.if_icmp .ge) tgt pc') (kt : y ≤ x → Vx G M d tgt L st h v h') (kf : ¬ (y ≤ x) → Vx G M d pc' L st h v h') : Vx G M d pc L (.int y :: .int x :: st) h v h' := by
  obtain ⟨off, hd, ht, rfl⟩ := hd
  intro p e s m args below meth c C H locs ls hR hS hL
  exact lv_icmp_ge C.1 C.2.1 hd ht (fun q => kt q p e s m args below meth c C H locs ls hR hS hL) (fun q => kf q p e s m args below meth c C H locs ls hR hS hL)
theorem v_if_gt {x : Int32} (hd : db M pc (.ifCond .gt) tgt pc') (kt : 0 < x → Vx G M d tgt L st h v h') (kf : ¬ (0 < x) → Vx G M d pc' L st h v h') : Vx G M d pc L (.int x :: st) h v h' := by
  obtain ⟨off, hd, ht, rfl⟩ := hd
  intro p e s m args below meth c C H locs ls hR hS hL
  exact lv_if_gt C.1 C.2.1 hd ht (fun q => kt q p e s m args below meth c C H locs ls hR hS hL) (fun q => kf q p e s m args below meth c C H locs ls hR hS hL)
theorem v_cmp_gt {x y : Int32} (hd : db M pc (.if_icmp .gt) tgt pc') (kt : y < x → Vx G M d tgt L st h v h') (kf : ¬ (y < x) → Vx G M d pc' L st h v h') : Vx G M d pc L (.int y :: .int x :: st) h v h' := by
  obtain ⟨off, hd, ht, rfl⟩ := hd
  intro p e s m args below meth c C H locs ls hR hS hL
  exact lv_icmp_gt C.1 C.2.1 hd ht (fun q => kt q p e s m args below meth c C H locs ls hR hS hL) (fun q => kf q p e s m args below meth c C H locs ls hR hS hL)
theorem v_if_le {x : Int32} (hd : db M pc (.ifCond .le) tgt pc') (kt : x ≤ 0 → Vx G M d tgt L st h v h') (kf : ¬ (x ≤ 0) → Vx G M d pc' L st h v h') : Vx G M d pc L (.int x :: st) h v h' := by
  obtain ⟨off, hd, ht, rfl⟩ := hd
  intro p e s m args below meth c C H locs ls hR hS hL
  exact lv_if_le C.1 C.2.1 hd ht (fun q => kt q p e s m args below meth c C H locs ls hR hS hL) (fun q => kf q p e s m args below meth c C H locs ls hR hS hL)
theorem v_cmp_le {x y : Int32} (hd : db M pc (.if_icmp .le) tgt pc') (kt : x ≤ y → Vx G M d tgt L st h v h') (kf : ¬ (x ≤ y) → Vx G M d pc' L st h v h') : Vx G M d pc L (.int y :: .int x :: st) h v h' := by
  obtain ⟨off, hd, ht, rfl⟩ := hd
  intro p e s m args below meth c C H locs ls hR hS hL
  exact lv_icmp_le C.1 C.2.1 hd ht (fun q => kt q p e s m args below meth c C H locs ls hR hS hL) (fun q => kf q p e s m args below meth c C H locs ls hR hS hL)
theorem v_if_ne {x : Int32} (hd : db M pc (.ifCond .ne) tgt pc') (kf : x = 0 → Vx G M d pc' L st h v h') (kt : ¬ (x = 0) → Vx G M d tgt L st h v h') : Vx G M d pc L (.int x :: st) h v h' := by
  obtain ⟨off, hd, ht, rfl⟩ := hd
  intro p e s m args below meth c C H locs ls hR hS hL
  exact lv_if_ne C.1 C.2.1 hd ht (fun q => kt q p e s m args below meth c C H locs ls hR hS hL) (fun q => kf q p e s m args below meth c C H locs ls hR hS hL)
theorem v_cmp_ne {x y : Int32} (hd : db M pc (.if_icmp .ne) tgt pc') (kf : x = y → Vx G M d pc' L st h v h') (kt : ¬ (x = y) → Vx G M d tgt L st h v h') : Vx G M d pc L (.int y :: .int x :: st) h v h' := by
  obtain ⟨off, hd, ht, rfl⟩ := hd
  intro p e s m args below meth c C H locs ls hR hS hL
  exact lv_icmp_ne C.1 C.2.1 hd ht (fun q => kt q p e s m args below meth c C H locs ls hR hS hL) (fun q => kf q p e s m args below meth c C H locs ls hR hS hL)
theorem v_goto (hd : db M pc .goto tgt pc') (k : Vx G M d tgt L st h v h') : Vx G M d pc L st h v h' := by
  obtain ⟨off, hd, ht, rfl⟩ := hd
  intro p e s m args below meth c C H locs ls hR hS hL
  exact lv_goto C.1 C.2.1 hd ht (k p e s m args below meth c C H locs ls hR hS hL)
theorem v_iload {i : Nat} {x : Int32} (hd : dl M pc .iload_n .iload i pc') (hl : L[i]? = some (some (.int x))) (k : Vx G M d pc' L (.int x :: st) h v h') : Vx G M d pc L st h v h' := by
  intro p e s m args below meth c C H locs ls hR hS hL
  rcases hd with ⟨k0, hd, e1, rfl⟩ | ⟨hd, rfl⟩
  · exact lv_iload_n C.1 C.2.1 hd e1 (hL.2.2 i _ hl) (k p e s m args below meth c C H locs ls hR hS hL)
  · exact lv_iload C.1 C.2.1 hd (hL.2.2 i _ hl) (k p e s m args below meth c C H locs ls hR hS hL)
theorem v_aload {i : Nat} {x : Nat} (hd : dl M pc .aload_n .aload i pc') (hl : L[i]? = some (some (.ref x))) (k : Vx G M d pc' L (.ref x :: st) h v h') : Vx G M d pc L st h v h' := by
  intro p e s m args below meth c C H locs ls hR hS hL
  rcases hd with ⟨k0, hd, e1, rfl⟩ | ⟨hd, rfl⟩
  · exact lv_aload_n C.1 C.2.1 hd e1 (hL.2.2 i _ hl) (k p e s m args below meth c C H locs ls hR hS hL)
  · exact lv_aload C.1 C.2.1 hd (hL.2.2 i _ hl) (k p e s m args below meth c C H locs ls hR hS hL)
theorem v_lload {i : Nat} {x : Int64} (hd : dl M pc .lload_n .lload i pc') (hl : L[i]? = some (some (.long x))) (k : Vx G M d pc' L (.long x :: st) h v h') : Vx G M d pc L st h v h' := by
  intro p e s m args below meth c C H locs ls hR hS hL
  rcases hd with ⟨k0, hd, e1, rfl⟩ | ⟨hd, rfl⟩
  · exact lv_lload_n C.1 C.2.1 hd e1 (hL.2.2 i _ hl) (k p e s m args below meth c C H locs ls hR hS hL)
  · exact lv_lload C.1 C.2.1 hd (hL.2.2 i _ hl) (k p e s m args below meth c C H locs ls hR hS hL)
theorem v_istore {i : Nat} {x : Int32} (hd : dl M pc .istore_n .istore i pc') (hn : i < M.2.2.1) (hk : okS L i = true) (k : Vx G M d pc' (L.set i (some (.int x))) st h v h') : Vx G M d pc L (.int x :: st) h v h' := by
  intro p e s m args below meth c C H locs ls hR hS hL
  rcases hd with ⟨k0, hd, e1, rfl⟩ | ⟨hd, rfl⟩
  · exact lv_istore_n C.1 C.2.1 hd e1 hL.has hn rfl (fun ls' hl' => k p e s m args below meth c C H locs ls' hR hS (LV.of hl' hk))
  · exact lv_istore C.1 C.2.1 hd hL.has hn rfl (fun ls' hl' => k p e s m args below meth c C H locs ls' hR hS (LV.of hl' hk))
theorem v_astore {i : Nat} {x : Nat} (hd : dl M pc .astore_n .astore i pc') (hn : i < M.2.2.1) (hk : okS L i = true) (k : Vx G M d pc' (L.set i (some (.ref x))) st h v h') : Vx G M d pc L (.ref x :: st) h v h' := by
  intro p e s m args below meth c C H locs ls hR hS hL
  rcases hd with ⟨k0, hd, e1, rfl⟩ | ⟨hd, rfl⟩
  · exact lv_astore_n C.1 C.2.1 hd e1 hL.has hn rfl (fun ls' hl' => k p e s m args below meth c C H locs ls' hR hS (LV.of hl' hk))
  · exact lv_astore C.1 C.2.1 hd hL.has hn rfl (fun ls' hl' => k p e s m args below meth c C H locs ls' hR hS (LV.of hl' hk))
theorem v_iinc {i : Nat} {n : Int} {x y : Int32} (hd : dn M pc (.iinc i n) 3 pc') (hl : L[i]? = some (some (.int x))) (hy : x + Int32.ofInt n = y) (hn : i < M.2.2.1) (hk : okS L i = true) (k : Vx G M d pc' (L.set i (some (.int y))) st h v h') : Vx G M d pc L st h v h' := by
  obtain ⟨hd, rfl⟩ := hd
  intro p e s m args below meth c C H locs ls hR hS hL
  obtain ⟨j, hj⟩ := List.getElem?_of_mem (aL_mem.mpr hl)
  exact lv_iinc C.1 C.2.1 hd hL.has hj hy hn rfl (fun ls' hl' => k p e s m args below meth c C H locs ls' hR hS (LV.of hl' hk))
theorem v_ild_0 {t : List (Option Value)} {x : Int32} (hd : dl M pc .iload_n .iload 0 pc') (k : Vx G M d pc' (some (.int x) :: t) (.int x :: st) h v h') : Vx G M d pc (some (.int x) :: t) st h v h' := v_iload hd rfl k
theorem v_ald_0 {t : List (Option Value)} {x : Nat} (hd : dl M pc .aload_n .aload 0 pc') (k : Vx G M d pc' (some (.ref x) :: t) (.ref x :: st) h v h') : Vx G M d pc (some (.ref x) :: t) st h v h' := v_aload hd rfl k
theorem v_ist_0 {a0 : Option Value} {t : List (Option Value)} {x : Int32} (hd : dl M pc .istore_n .istore 0 pc') (hn : 0 < M.2.2.1) (hk : okS (a0 :: t) 0 = true) (k : Vx G M d pc' (some (.int x) :: t) st h v h') : Vx G M d pc (a0 :: t) (.int x :: st) h v h' := v_istore hd hn hk k
theorem v_ast_0 {a0 : Option Value} {t : List (Option Value)} {x : Nat} (hd : dl M pc .astore_n .astore 0 pc') (hn : 0 < M.2.2.1) (hk : okS (a0 :: t) 0 = true) (k : Vx G M d pc' (some (.ref x) :: t) st h v h') : Vx G M d pc (a0 :: t) (.ref x :: st) h v h' := v_astore hd hn hk k
theorem v_inc_0 {t : List (Option Value)} {n : Int} {x : Int32} (y : Int32) (hd : dn M pc (.iinc 0 n) 3 pc') (hy : Int32.ofInt n = y) (hn : 0 < M.2.2.1) (hk : okS (some (.int x) :: t) 0 = true) (k : Vx G M d pc' (some (.int (x + y)) :: t) st h v h') : Vx G M d pc (some (.int x) :: t) st h v h' := v_iinc hd rfl (by rw [hy]) hn hk k
theorem v_ild_1 {a0 : Option Value} {t : List (Option Value)} {x : Int32} (hd : dl M pc .iload_n .iload 1 pc') (k : Vx G M d pc' (a0 :: some (.int x) :: t) (.int x :: st) h v h') : Vx G M d pc (a0 :: some (.int x) :: t) st h v h' := v_iload hd rfl k
theorem v_ald_1 {a0 : Option Value} {t : List (Option Value)} {x : Nat} (hd : dl M pc .aload_n .aload 1 pc') (k : Vx G M d pc' (a0 :: some (.ref x) :: t) (.ref x :: st) h v h') : Vx G M d pc (a0 :: some (.ref x) :: t) st h v h' := v_aload hd rfl k
theorem v_ist_1 {a0 a1 : Option Value} {t : List (Option Value)} {x : Int32} (hd : dl M pc .istore_n .istore 1 pc') (hn : 1 < M.2.2.1) (hk : okS (a0 :: a1 :: t) 1 = true) (k : Vx G M d pc' (a0 :: some (.int x) :: t) st h v h') : Vx G M d pc (a0 :: a1 :: t) (.int x :: st) h v h' := v_istore hd hn hk k
theorem v_ast_1 {a0 a1 : Option Value} {t : List (Option Value)} {x : Nat} (hd : dl M pc .astore_n .astore 1 pc') (hn : 1 < M.2.2.1) (hk : okS (a0 :: a1 :: t) 1 = true) (k : Vx G M d pc' (a0 :: some (.ref x) :: t) st h v h') : Vx G M d pc (a0 :: a1 :: t) (.ref x :: st) h v h' := v_astore hd hn hk k
theorem v_inc_1 {a0 : Option Value} {t : List (Option Value)} {n : Int} {x : Int32} (y : Int32) (hd : dn M pc (.iinc 1 n) 3 pc') (hy : Int32.ofInt n = y) (hn : 1 < M.2.2.1) (hk : okS (a0 :: some (.int x) :: t) 1 = true) (k : Vx G M d pc' (a0 :: some (.int (x + y)) :: t) st h v h') : Vx G M d pc (a0 :: some (.int x) :: t) st h v h' := v_iinc hd rfl (by rw [hy]) hn hk k
theorem v_ild_2 {a0 a1 : Option Value} {t : List (Option Value)} {x : Int32} (hd : dl M pc .iload_n .iload 2 pc') (k : Vx G M d pc' (a0 :: a1 :: some (.int x) :: t) (.int x :: st) h v h') : Vx G M d pc (a0 :: a1 :: some (.int x) :: t) st h v h' := v_iload hd rfl k
theorem v_ald_2 {a0 a1 : Option Value} {t : List (Option Value)} {x : Nat} (hd : dl M pc .aload_n .aload 2 pc') (k : Vx G M d pc' (a0 :: a1 :: some (.ref x) :: t) (.ref x :: st) h v h') : Vx G M d pc (a0 :: a1 :: some (.ref x) :: t) st h v h' := v_aload hd rfl k
theorem v_ist_2 {a0 a1 a2 : Option Value} {t : List (Option Value)} {x : Int32} (hd : dl M pc .istore_n .istore 2 pc') (hn : 2 < M.2.2.1) (hk : okS (a0 :: a1 :: a2 :: t) 2 = true) (k : Vx G M d pc' (a0 :: a1 :: some (.int x) :: t) st h v h') : Vx G M d pc (a0 :: a1 :: a2 :: t) (.int x :: st) h v h' := v_istore hd hn hk k
theorem v_ast_2 {a0 a1 a2 : Option Value} {t : List (Option Value)} {x : Nat} (hd : dl M pc .astore_n .astore 2 pc') (hn : 2 < M.2.2.1) (hk : okS (a0 :: a1 :: a2 :: t) 2 = true) (k : Vx G M d pc' (a0 :: a1 :: some (.ref x) :: t) st h v h') : Vx G M d pc (a0 :: a1 :: a2 :: t) (.ref x :: st) h v h' := v_astore hd hn hk k
theorem v_inc_2 {a0 a1 : Option Value} {t : List (Option Value)} {n : Int} {x : Int32} (y : Int32) (hd : dn M pc (.iinc 2 n) 3 pc') (hy : Int32.ofInt n = y) (hn : 2 < M.2.2.1) (hk : okS (a0 :: a1 :: some (.int x) :: t) 2 = true) (k : Vx G M d pc' (a0 :: a1 :: some (.int (x + y)) :: t) st h v h') : Vx G M d pc (a0 :: a1 :: some (.int x) :: t) st h v h' := v_iinc hd rfl (by rw [hy]) hn hk k
theorem v_ild_3 {a0 a1 a2 : Option Value} {t : List (Option Value)} {x : Int32} (hd : dl M pc .iload_n .iload 3 pc') (k : Vx G M d pc' (a0 :: a1 :: a2 :: some (.int x) :: t) (.int x :: st) h v h') : Vx G M d pc (a0 :: a1 :: a2 :: some (.int x) :: t) st h v h' := v_iload hd rfl k
theorem v_ald_3 {a0 a1 a2 : Option Value} {t : List (Option Value)} {x : Nat} (hd : dl M pc .aload_n .aload 3 pc') (k : Vx G M d pc' (a0 :: a1 :: a2 :: some (.ref x) :: t) (.ref x :: st) h v h') : Vx G M d pc (a0 :: a1 :: a2 :: some (.ref x) :: t) st h v h' := v_aload hd rfl k
theorem v_ist_3 {a0 a1 a2 a3 : Option Value} {t : List (Option Value)} {x : Int32} (hd : dl M pc .istore_n .istore 3 pc') (hn : 3 < M.2.2.1) (hk : okS (a0 :: a1 :: a2 :: a3 :: t) 3 = true) (k : Vx G M d pc' (a0 :: a1 :: a2 :: some (.int x) :: t) st h v h') : Vx G M d pc (a0 :: a1 :: a2 :: a3 :: t) (.int x :: st) h v h' := v_istore hd hn hk k
theorem v_ast_3 {a0 a1 a2 a3 : Option Value} {t : List (Option Value)} {x : Nat} (hd : dl M pc .astore_n .astore 3 pc') (hn : 3 < M.2.2.1) (hk : okS (a0 :: a1 :: a2 :: a3 :: t) 3 = true) (k : Vx G M d pc' (a0 :: a1 :: a2 :: some (.ref x) :: t) st h v h') : Vx G M d pc (a0 :: a1 :: a2 :: a3 :: t) (.ref x :: st) h v h' := v_astore hd hn hk k
theorem v_inc_3 {a0 a1 a2 : Option Value} {t : List (Option Value)} {n : Int} {x : Int32} (y : Int32) (hd : dn M pc (.iinc 3 n) 3 pc') (hy : Int32.ofInt n = y) (hn : 3 < M.2.2.1) (hk : okS (a0 :: a1 :: a2 :: some (.int x) :: t) 3 = true) (k : Vx G M d pc' (a0 :: a1 :: a2 :: some (.int (x + y)) :: t) st h v h') : Vx G M d pc (a0 :: a1 :: a2 :: some (.int x) :: t) st h v h' := v_iinc hd rfl (by rw [hy]) hn hk k
theorem v_ild_4 {a0 a1 a2 a3 : Option Value} {t : List (Option Value)} {x : Int32} (hd : dl M pc .iload_n .iload 4 pc') (k : Vx G M d pc' (a0 :: a1 :: a2 :: a3 :: some (.int x) :: t) (.int x :: st) h v h') : Vx G M d pc (a0 :: a1 :: a2 :: a3 :: some (.int x) :: t) st h v h' := v_iload hd rfl k
theorem v_ald_4 {a0 a1 a2 a3 : Option Value} {t : List (Option Value)} {x : Nat} (hd : dl M pc .aload_n .aload 4 pc') (k : Vx G M d pc' (a0 :: a1 :: a2 :: a3 :: some (.ref x) :: t) (.ref x :: st) h v h') : Vx G M d pc (a0 :: a1 :: a2 :: a3 :: some (.ref x) :: t) st h v h' := v_aload hd rfl k
theorem v_ist_4 {a0 a1 a2 a3 a4 : Option Value} {t : List (Option Value)} {x : Int32} (hd : dl M pc .istore_n .istore 4 pc') (hn : 4 < M.2.2.1) (hk : okS (a0 :: a1 :: a2 :: a3 :: a4 :: t) 4 = true) (k : Vx G M d pc' (a0 :: a1 :: a2 :: a3 :: some (.int x) :: t) st h v h') : Vx G M d pc (a0 :: a1 :: a2 :: a3 :: a4 :: t) (.int x :: st) h v h' := v_istore hd hn hk k
theorem v_ast_4 {a0 a1 a2 a3 a4 : Option Value} {t : List (Option Value)} {x : Nat} (hd : dl M pc .astore_n .astore 4 pc') (hn : 4 < M.2.2.1) (hk : okS (a0 :: a1 :: a2 :: a3 :: a4 :: t) 4 = true) (k : Vx G M d pc' (a0 :: a1 :: a2 :: a3 :: some (.ref x) :: t) st h v h') : Vx G M d pc (a0 :: a1 :: a2 :: a3 :: a4 :: t) (.ref x :: st) h v h' := v_astore hd hn hk k
theorem v_inc_4 {a0 a1 a2 a3 : Option Value} {t : List (Option Value)} {n : Int} {x : Int32} (y : Int32) (hd : dn M pc (.iinc 4 n) 3 pc') (hy : Int32.ofInt n = y) (hn : 4 < M.2.2.1) (hk : okS (a0 :: a1 :: a2 :: a3 :: some (.int x) :: t) 4 = true) (k : Vx G M d pc' (a0 :: a1 :: a2 :: a3 :: some (.int (x + y)) :: t) st h v h') : Vx G M d pc (a0 :: a1 :: a2 :: a3 :: some (.int x) :: t) st h v h' := v_iinc hd rfl (by rw [hy]) hn hk k
theorem v_ild_5 {a0 a1 a2 a3 a4 : Option Value} {t : List (Option Value)} {x : Int32} (hd : dl M pc .iload_n .iload 5 pc') (k : Vx G M d pc' (a0 :: a1 :: a2 :: a3 :: a4 :: some (.int x) :: t) (.int x :: st) h v h') : Vx G M d pc (a0 :: a1 :: a2 :: a3 :: a4 :: some (.int x) :: t) st h v h' := v_iload hd rfl k
theorem v_ald_5 {a0 a1 a2 a3 a4 : Option Value} {t : List (Option Value)} {x : Nat} (hd : dl M pc .aload_n .aload 5 pc') (k : Vx G M d pc' (a0 :: a1 :: a2 :: a3 :: a4 :: some (.ref x) :: t) (.ref x :: st) h v h') : Vx G M d pc (a0 :: a1 :: a2 :: a3 :: a4 :: some (.ref x) :: t) st h v h' := v_aload hd rfl k
theorem v_ist_5 {a0 a1 a2 a3 a4 a5 : Option Value} {t : List (Option Value)} {x : Int32} (hd : dl M pc .istore_n .istore 5 pc') (hn : 5 < M.2.2.1) (hk : okS (a0 :: a1 :: a2 :: a3 :: a4 :: a5 :: t) 5 = true) (k : Vx G M d pc' (a0 :: a1 :: a2 :: a3 :: a4 :: some (.int x) :: t) st h v h') : Vx G M d pc (a0 :: a1 :: a2 :: a3 :: a4 :: a5 :: t) (.int x :: st) h v h' := v_istore hd hn hk k
theorem v_ast_5 {a0 a1 a2 a3 a4 a5 : Option Value} {t : List (Option Value)} {x : Nat} (hd : dl M pc .astore_n .astore 5 pc') (hn : 5 < M.2.2.1) (hk : okS (a0 :: a1 :: a2 :: a3 :: a4 :: a5 :: t) 5 = true) (k : Vx G M d pc' (a0 :: a1 :: a2 :: a3 :: a4 :: some (.ref x) :: t) st h v h') : Vx G M d pc (a0 :: a1 :: a2 :: a3 :: a4 :: a5 :: t) (.ref x :: st) h v h' := v_astore hd hn hk k
theorem v_inc_5 {a0 a1 a2 a3 a4 : Option Value} {t : List (Option Value)} {n : Int} {x : Int32} (y : Int32) (hd : dn M pc (.iinc 5 n) 3 pc') (hy : Int32.ofInt n = y) (hn : 5 < M.2.2.1) (hk : okS (a0 :: a1 :: a2 :: a3 :: a4 :: some (.int x) :: t) 5 = true) (k : Vx G M d pc' (a0 :: a1 :: a2 :: a3 :: a4 :: some (.int (x + y)) :: t) st h v h') : Vx G M d pc (a0 :: a1 :: a2 :: a3 :: a4 :: some (.int x) :: t) st h v h' := v_iinc hd rfl (by rw [hy]) hn hk k
theorem v_ild_6 {a0 a1 a2 a3 a4 a5 : Option Value} {t : List (Option Value)} {x : Int32} (hd : dl M pc .iload_n .iload 6 pc') (k : Vx G M d pc' (a0 :: a1 :: a2 :: a3 :: a4 :: a5 :: some (.int x) :: t) (.int x :: st) h v h') : Vx G M d pc (a0 :: a1 :: a2 :: a3 :: a4 :: a5 :: some (.int x) :: t) st h v h' := v_iload hd rfl k
theorem v_ald_6 {a0 a1 a2 a3 a4 a5 : Option Value} {t : List (Option Value)} {x : Nat} (hd : dl M pc .aload_n .aload 6 pc') (k : Vx G M d pc' (a0 :: a1 :: a2 :: a3 :: a4 :: a5 :: some (.ref x) :: t) (.ref x :: st) h v h') : Vx G M d pc (a0 :: a1 :: a2 :: a3 :: a4 :: a5 :: some (.ref x) :: t) st h v h' := v_aload hd rfl k
theorem v_ist_6 {a0 a1 a2 a3 a4 a5 a6 : Option Value} {t : List (Option Value)} {x : Int32} (hd : dl M pc .istore_n .istore 6 pc') (hn : 6 < M.2.2.1) (hk : okS (a0 :: a1 :: a2 :: a3 :: a4 :: a5 :: a6 :: t) 6 = true) (k : Vx G M d pc' (a0 :: a1 :: a2 :: a3 :: a4 :: a5 :: some (.int x) :: t) st h v h') : Vx G M d pc (a0 :: a1 :: a2 :: a3 :: a4 :: a5 :: a6 :: t) (.int x :: st) h v h' := v_istore hd hn hk k
theorem v_ast_6 {a0 a1 a2 a3 a4 a5 a6 : Option Value} {t : List (Option Value)} {x : Nat} (hd : dl M pc .astore_n .astore 6 pc') (hn : 6 < M.2.2.1) (hk : okS (a0 :: a1 :: a2 :: a3 :: a4 :: a5 :: a6 :: t) 6 = true) (k : Vx G M d pc' (a0 :: a1 :: a2 :: a3 :: a4 :: a5 :: some (.ref x) :: t) st h v h') : Vx G M d pc (a0 :: a1 :: a2 :: a3 :: a4 :: a5 :: a6 :: t) (.ref x :: st) h v h' := v_astore hd hn hk k
theorem v_inc_6 {a0 a1 a2 a3 a4 a5 : Option Value} {t : List (Option Value)} {n : Int} {x : Int32} (y : Int32) (hd : dn M pc (.iinc 6 n) 3 pc') (hy : Int32.ofInt n = y) (hn : 6 < M.2.2.1) (hk : okS (a0 :: a1 :: a2 :: a3 :: a4 :: a5 :: some (.int x) :: t) 6 = true) (k : Vx G M d pc' (a0 :: a1 :: a2 :: a3 :: a4 :: a5 :: some (.int (x + y)) :: t) st h v h') : Vx G M d pc (a0 :: a1 :: a2 :: a3 :: a4 :: a5 :: some (.int x) :: t) st h v h' := v_iinc hd rfl (by rw [hy]) hn hk k
theorem v_ild_7 {a0 a1 a2 a3 a4 a5 a6 : Option Value} {t : List (Option Value)} {x : Int32} (hd : dl M pc .iload_n .iload 7 pc') (k : Vx G M d pc' (a0 :: a1 :: a2 :: a3 :: a4 :: a5 :: a6 :: some (.int x) :: t) (.int x :: st) h v h') : Vx G M d pc (a0 :: a1 :: a2 :: a3 :: a4 :: a5 :: a6 :: some (.int x) :: t) st h v h' := v_iload hd rfl k
theorem v_ald_7 {a0 a1 a2 a3 a4 a5 a6 : Option Value} {t : List (Option Value)} {x : Nat} (hd : dl M pc .aload_n .aload 7 pc') (k : Vx G M d pc' (a0 :: a1 :: a2 :: a3 :: a4 :: a5 :: a6 :: some (.ref x) :: t) (.ref x :: st) h v h') : Vx G M d pc (a0 :: a1 :: a2 :: a3 :: a4 :: a5 :: a6 :: some (.ref x) :: t) st h v h' := v_aload hd rfl k
theorem v_ist_7 {a0 a1 a2 a3 a4 a5 a6 a7 : Option Value} {t : List (Option Value)} {x : Int32} (hd : dl M pc .istore_n .istore 7 pc') (hn : 7 < M.2.2.1) (hk : okS (a0 :: a1 :: a2 :: a3 :: a4 :: a5 :: a6 :: a7 :: t) 7 = true) (k : Vx G M d pc' (a0 :: a1 :: a2 :: a3 :: a4 :: a5 :: a6 :: some (.int x) :: t) st h v h') : Vx G M d pc (a0 :: a1 :: a2 :: a3 :: a4 :: a5 :: a6 :: a7 :: t) (.int x :: st) h v h' := v_istore hd hn hk k
theorem v_ast_7 {a0 a1 a2 a3 a4 a5 a6 a7 : Option Value} {t : List (Option Value)} {x : Nat} (hd : dl M pc .astore_n .astore 7 pc') (hn : 7 < M.2.2.1) (hk : okS (a0 :: a1 :: a2 :: a3 :: a4 :: a5 :: a6 :: a7 :: t) 7 = true) (k : Vx G M d pc' (a0 :: a1 :: a2 :: a3 :: a4 :: a5 :: a6 :: some (.ref x) :: t) st h v h') : Vx G M d pc (a0 :: a1 :: a2 :: a3 :: a4 :: a5 :: a6 :: a7 :: t) (.ref x :: st) h v h' := v_astore hd hn hk k
theorem v_inc_7 {a0 a1 a2 a3 a4 a5 a6 : Option Value} {t : List (Option Value)} {n : Int} {x : Int32} (y : Int32) (hd : dn M pc (.iinc 7 n) 3 pc') (hy : Int32.ofInt n = y) (hn : 7 < M.2.2.1) (hk : okS (a0 :: a1 :: a2 :: a3 :: a4 :: a5 :: a6 :: some (.int x) :: t) 7 = true) (k : Vx G M d pc' (a0 :: a1 :: a2 :: a3 :: a4 :: a5 :: a6 :: some (.int (x + y)) :: t) st h v h') : Vx G M d pc (a0 :: a1 :: a2 :: a3 :: a4 :: a5 :: a6 :: some (.int x) :: t) st h v h' := v_iinc hd rfl (by rw [hy]) hn hk k
theorem v_ild_8 {a0 a1 a2 a3 a4 a5 a6 a7 : Option Value} {t : List (Option Value)} {x : Int32} (hd : dl M pc .iload_n .iload 8 pc') (k : Vx G M d pc' (a0 :: a1 :: a2 :: a3 :: a4 :: a5 :: a6 :: a7 :: some (.int x) :: t) (.int x :: st) h v h') : Vx G M d pc (a0 :: a1 :: a2 :: a3 :: a4 :: a5 :: a6 :: a7 :: some (.int x) :: t) st h v h' := v_iload hd rfl k
theorem v_ald_8 {a0 a1 a2 a3 a4 a5 a6 a7 : Option Value} {t : List (Option Value)} {x : Nat} (hd : dl M pc .aload_n .aload 8 pc') (k : Vx G M d pc' (a0 :: a1 :: a2 :: a3 :: a4 :: a5 :: a6 :: a7 :: some (.ref x) :: t) (.ref x :: st) h v h') : Vx G M d pc (a0 :: a1 :: a2 :: a3 :: a4 :: a5 :: a6 :: a7 :: some (.ref x) :: t) st h v h' := v_aload hd rfl k
theorem v_ist_8 {a0 a1 a2 a3 a4 a5 a6 a7 a8 : Option Value} {t : List (Option Value)} {x : Int32} (hd : dl M pc .istore_n .istore 8 pc') (hn : 8 < M.2.2.1) (hk : okS (a0 :: a1 :: a2 :: a3 :: a4 :: a5 :: a6 :: a7 :: a8 :: t) 8 = true) (k : Vx G M d pc' (a0 :: a1 :: a2 :: a3 :: a4 :: a5 :: a6 :: a7 :: some (.int x) :: t) st h v h') : Vx G M d pc (a0 :: a1 :: a2 :: a3 :: a4 :: a5 :: a6 :: a7 :: a8 :: t) (.int x :: st) h v h' := v_istore hd hn hk k
theorem v_ast_8 {a0 a1 a2 a3 a4 a5 a6 a7 a8 : Option Value} {t : List (Option Value)} {x : Nat} (hd : dl M pc .astore_n .astore 8 pc') (hn : 8 < M.2.2.1) (hk : okS (a0 :: a1 :: a2 :: a3 :: a4 :: a5 :: a6 :: a7 :: a8 :: t) 8 = true) (k : Vx G M d pc' (a0 :: a1 :: a2 :: a3 :: a4 :: a5 :: a6 :: a7 :: some (.ref x) :: t) st h v h') : Vx G M d pc (a0 :: a1 :: a2 :: a3 :: a4 :: a5 :: a6 :: a7 :: a8 :: t) (.ref x :: st) h v h' := v_astore hd hn hk k
theorem v_inc_8 {a0 a1 a2 a3 a4 a5 a6 a7 : Option Value} {t : List (Option Value)} {n : Int} {x : Int32} (y : Int32) (hd : dn M pc (.iinc 8 n) 3 pc') (hy : Int32.ofInt n = y) (hn : 8 < M.2.2.1) (hk : okS (a0 :: a1 :: a2 :: a3 :: a4 :: a5 :: a6 :: a7 :: some (.int x) :: t) 8 = true) (k : Vx G M d pc' (a0 :: a1 :: a2 :: a3 :: a4 :: a5 :: a6 :: a7 :: some (.int (x + y)) :: t) st h v h') : Vx G M d pc (a0 :: a1 :: a2 :: a3 :: a4 :: a5 :: a6 :: a7 :: some (.int x) :: t) st h v h' := v_iinc hd rfl (by rw [hy]) hn hk k
theorem v_ild_9 {a0 a1 a2 a3 a4 a5 a6 a7 a8 : Option Value} {t : List (Option Value)} {x : Int32} (hd : dl M pc .iload_n .iload 9 pc') (k : Vx G M d pc' (a0 :: a1 :: a2 :: a3 :: a4 :: a5 :: a6 :: a7 :: a8 :: some (.int x) :: t) (.int x :: st) h v h') : Vx G M d pc (a0 :: a1 :: a2 :: a3 :: a4 :: a5 :: a6 :: a7 :: a8 :: some (.int x) :: t) st h v h' := v_iload hd rfl k
theorem v_ald_9 {a0 a1 a2 a3 a4 a5 a6 a7 a8 : Option Value} {t : List (Option Value)} {x : Nat} (hd : dl M pc .aload_n .aload 9 pc') (k : Vx G M d pc' (a0 :: a1 :: a2 :: a3 :: a4 :: a5 :: a6 :: a7 :: a8 :: some (.ref x) :: t) (.ref x :: st) h v h') : Vx G M d pc (a0 :: a1 :: a2 :: a3 :: a4 :: a5 :: a6 :: a7 :: a8 :: some (.ref x) :: t) st h v h' := v_aload hd rfl k
theorem v_ist_9 {a0 a1 a2 a3 a4 a5 a6 a7 a8 a9 : Option Value} {t : List (Option Value)} {x : Int32} (hd : dl M pc .istore_n .istore 9 pc') (hn : 9 < M.2.2.1) (hk : okS (a0 :: a1 :: a2 :: a3 :: a4 :: a5 :: a6 :: a7 :: a8 :: a9 :: t) 9 = true) (k : Vx G M d pc' (a0 :: a1 :: a2 :: a3 :: a4 :: a5 :: a6 :: a7 :: a8 :: some (.int x) :: t) st h v h') : Vx G M d pc (a0 :: a1 :: a2 :: a3 :: a4 :: a5 :: a6 :: a7 :: a8 :: a9 :: t) (.int x :: st) h v h' := v_istore hd hn hk k
theorem v_ast_9 {a0 a1 a2 a3 a4 a5 a6 a7 a8 a9 : Option Value} {t : List (Option Value)} {x : Nat} (hd : dl M pc .astore_n .astore 9 pc') (hn : 9 < M.2.2.1) (hk : okS (a0 :: a1 :: a2 :: a3 :: a4 :: a5 :: a6 :: a7 :: a8 :: a9 :: t) 9 = true) (k : Vx G M d pc' (a0 :: a1 :: a2 :: a3 :: a4 :: a5 :: a6 :: a7 :: a8 :: some (.ref x) :: t) st h v h') : Vx G M d pc (a0 :: a1 :: a2 :: a3 :: a4 :: a5 :: a6 :: a7 :: a8 :: a9 :: t) (.ref x :: st) h v h' := v_astore hd hn hk k
theorem v_inc_9 {a0 a1 a2 a3 a4 a5 a6 a7 a8 : Option Value} {t : List (Option Value)} {n : Int} {x : Int32} (y : Int32) (hd : dn M pc (.iinc 9 n) 3 pc') (hy : Int32.ofInt n = y) (hn : 9 < M.2.2.1) (hk : okS (a0 :: a1 :: a2 :: a3 :: a4 :: a5 :: a6 :: a7 :: a8 :: some (.int x) :: t) 9 = true) (k : Vx G M d pc' (a0 :: a1 :: a2 :: a3 :: a4 :: a5 :: a6 :: a7 :: a8 :: some (.int (x + y)) :: t) st h v h') : Vx G M d pc (a0 :: a1 :: a2 :: a3 :: a4 :: a5 :: a6 :: a7 :: a8 :: some (.int x) :: t) st h v h' := v_iinc hd rfl (by rw [hy]) hn hk k
theorem v_ild_10 {a0 a1 a2 a3 a4 a5 a6 a7 a8 a9 : Option Value} {t : List (Option Value)} {x : Int32} (hd : dl M pc .iload_n .iload 10 pc') (k : Vx G M d pc' (a0 :: a1 :: a2 :: a3 :: a4 :: a5 :: a6 :: a7 :: a8 :: a9 :: some (.int x) :: t) (.int x :: st) h v h') : Vx G M d pc (a0 :: a1 :: a2 :: a3 :: a4 :: a5 :: a6 :: a7 :: a8 :: a9 :: some (.int x) :: t) st h v h' := v_iload hd rfl k
theorem v_ald_10 {a0 a1 a2 a3 a4 a5 a6 a7 a8 a9 : Option Value} {t : List (Option Value)} {x : Nat} (hd : dl M pc .aload_n .aload 10 pc') (k : Vx G M d pc' (a0 :: a1 :: a2 :: a3 :: a4 :: a5 :: a6 :: a7 :: a8 :: a9 :: some (.ref x) :: t) (.ref x :: st) h v h') : Vx G M d pc (a0 :: a1 :: a2 :: a3 :: a4 :: a5 :: a6 :: a7 :: a8 :: a9 :: some (.ref x) :: t) st h v h' := v_aload hd rfl k
theorem v_ist_10 {a0 a1 a2 a3 a4 a5 a6 a7 a8 a9 a10 : Option Value} {t : List (Option Value)} {x : Int32} (hd : dl M pc .istore_n .istore 10 pc') (hn : 10 < M.2.2.1) (hk : okS (a0 :: a1 :: a2 :: a3 :: a4 :: a5 :: a6 :: a7 :: a8 :: a9 :: a10 :: t) 10 = true) (k : Vx G M d pc' (a0 :: a1 :: a2 :: a3 :: a4 :: a5 :: a6 :: a7 :: a8 :: a9 :: some (.int x) :: t) st h v h') : Vx G M d pc (a0 :: a1 :: a2 :: a3 :: a4 :: a5 :: a6 :: a7 :: a8 :: a9 :: a10 :: t) (.int x :: st) h v h' := v_istore hd hn hk k
theorem v_ast_10 {a0 a1 a2 a3 a4 a5 a6 a7 a8 a9 a10 : Option Value} {t : List (Option Value)} {x : Nat} (hd : dl M pc .astore_n .astore 10 pc') (hn : 10 < M.2.2.1) (hk : okS (a0 :: a1 :: a2 :: a3 :: a4 :: a5 :: a6 :: a7 :: a8 :: a9 :: a10 :: t) 10 = true) (k : Vx G M d pc' (a0 :: a1 :: a2 :: a3 :: a4 :: a5 :: a6 :: a7 :: a8 :: a9 :: some (.ref x) :: t) st h v h') : Vx G M d pc (a0 :: a1 :: a2 :: a3 :: a4 :: a5 :: a6 :: a7 :: a8 :: a9 :: a10 :: t) (.ref x :: st) h v h' := v_astore hd hn hk k
theorem v_inc_10 {a0 a1 a2 a3 a4 a5 a6 a7 a8 a9 : Option Value} {t : List (Option Value)} {n : Int} {x : Int32} (y : Int32) (hd : dn M pc (.iinc 10 n) 3 pc') (hy : Int32.ofInt n = y) (hn : 10 < M.2.2.1) (hk : okS (a0 :: a1 :: a2 :: a3 :: a4 :: a5 :: a6 :: a7 :: a8 :: a9 :: some (.int x) :: t) 10 = true) (k : Vx G M d pc' (a0 :: a1 :: a2 :: a3 :: a4 :: a5 :: a6 :: a7 :: a8 :: a9 :: some (.int (x + y)) :: t) st h v h') : Vx G M d pc (a0 :: a1 :: a2 :: a3 :: a4 :: a5 :: a6 :: a7 :: a8 :: a9 :: some (.int x) :: t) st h v h' := v_iinc hd rfl (by rw [hy]) hn hk k
theorem v_ild_11 {a0 a1 a2 a3 a4 a5 a6 a7 a8 a9 a10 : Option Value} {t : List (Option Value)} {x : Int32} (hd : dl M pc .iload_n .iload 11 pc') (k : Vx G M d pc' (a0 :: a1 :: a2 :: a3 :: a4 :: a5 :: a6 :: a7 :: a8 :: a9 :: a10 :: some (.int x) :: t) (.int x :: st) h v h') : Vx G M d pc (a0 :: a1 :: a2 :: a3 :: a4 :: a5 :: a6 :: a7 :: a8 :: a9 :: a10 :: some (.int x) :: t) st h v h' := v_iload hd rfl k
theorem v_ald_11 {a0 a1 a2 a3 a4 a5 a6 a7 a8 a9 a10 : Option Value} {t : List (Option Value)} {x : Nat} (hd : dl M pc .aload_n .aload 11 pc') (k : Vx G M d pc' (a0 :: a1 :: a2 :: a3 :: a4 :: a5 :: a6 :: a7 :: a8 :: a9 :: a10 :: some (.ref x) :: t) (.ref x :: st) h v h') : Vx G M d pc (a0 :: a1 :: a2 :: a3 :: a4 :: a5 :: a6 :: a7 :: a8 :: a9 :: a10 :: some (.ref x) :: t) st h v h' := v_aload hd rfl k
theorem v_ist_11 {a0 a1 a2 a3 a4 a5 a6 a7 a8 a9 a10 a11 : Option Value} {t : List (Option Value)} {x : Int32} (hd : dl M pc .istore_n .istore 11 pc') (hn : 11 < M.2.2.1) (hk : okS (a0 :: a1 :: a2 :: a3 :: a4 :: a5 :: a6 :: a7 :: a8 :: a9 :: a10 :: a11 :: t) 11 = true) (k : Vx G M d pc' (a0 :: a1 :: a2 :: a3 :: a4 :: a5 :: a6 :: a7 :: a8 :: a9 :: a10 :: some (.int x) :: t) st h v h') : Vx G M d pc (a0 :: a1 :: a2 :: a3 :: a4 :: a5 :: a6 :: a7 :: a8 :: a9 :: a10 :: a11 :: t) (.int x :: st) h v h' := v_istore hd hn hk k
theorem v_ast_11 {a0 a1 a2 a3 a4 a5 a6 a7 a8 a9 a10 a11 : Option Value} {t : List (Option Value)} {x : Nat} (hd : dl M pc .astore_n .astore 11 pc') (hn : 11 < M.2.2.1) (hk : okS (a0 :: a1 :: a2 :: a3 :: a4 :: a5 :: a6 :: a7 :: a8 :: a9 :: a10 :: a11 :: t) 11 = true) (k : Vx G M d pc' (a0 :: a1 :: a2 :: a3 :: a4 :: a5 :: a6 :: a7 :: a8 :: a9 :: a10 :: some (.ref x) :: t) st h v h') : Vx G M d pc (a0 :: a1 :: a2 :: a3 :: a4 :: a5 :: a6 :: a7 :: a8 :: a9 :: a10 :: a11 :: t) (.ref x :: st) h v h' := v_astore hd hn hk k
theorem v_inc_11 {a0 a1 a2 a3 a4 a5 a6 a7 a8 a9 a10 : Option Value} {t : List (Option Value)} {n : Int} {x : Int32} (y : Int32) (hd : dn M pc (.iinc 11 n) 3 pc') (hy : Int32.ofInt n = y) (hn : 11 < M.2.2.1) (hk : okS (a0 :: a1 :: a2 :: a3 :: a4 :: a5 :: a6 :: a7 :: a8 :: a9 :: a10 :: some (.int x) :: t) 11 = true) (k : Vx G M d pc' (a0 :: a1 :: a2 :: a3 :: a4 :: a5 :: a6 :: a7 :: a8 :: a9 :: a10 :: some (.int (x + y)) :: t) st h v h') : Vx G M d pc (a0 :: a1 :: a2 :: a3 :: a4 :: a5 :: a6 :: a7 :: a8 :: a9 :: a10 :: some (.int x) :: t) st h v h' := v_iinc hd rfl (by rw [hy]) hn hk k
theorem v_ild_12 {a0 a1 a2 a3 a4 a5 a6 a7 a8 a9 a10 a11 : Option Value} {t : List (Option Value)} {x : Int32} (hd : dl M pc .iload_n .iload 12 pc') (k : Vx G M d pc' (a0 :: a1 :: a2 :: a3 :: a4 :: a5 :: a6 :: a7 :: a8 :: a9 :: a10 :: a11 :: some (.int x) :: t) (.int x :: st) h v h') : Vx G M d pc (a0 :: a1 :: a2 :: a3 :: a4 :: a5 :: a6 :: a7 :: a8 :: a9 :: a10 :: a11 :: some (.int x) :: t) st h v h' := v_iload hd rfl k
theorem v_ald_12 {a0 a1 a2 a3 a4 a5 a6 a7 a8 a9 a10 a11 : Option Value} {t : List (Option Value)} {x : Nat} (hd : dl M pc .aload_n .aload 12 pc') (k : Vx G M d pc' (a0 :: a1 :: a2 :: a3 :: a4 :: a5 :: a6 :: a7 :: a8 :: a9 :: a10 :: a11 :: some (.ref x) :: t) (.ref x :: st) h v h') : Vx G M d pc (a0 :: a1 :: a2 :: a3 :: a4 :: a5 :: a6 :: a7 :: a8 :: a9 :: a10 :: a11 :: some (.ref x) :: t) st h v h' := v_aload hd rfl k
theorem v_ist_12 {a0 a1 a2 a3 a4 a5 a6 a7 a8 a9 a10 a11 a12 : Option Value} {t : List (Option Value)} {x : Int32} (hd : dl M pc .istore_n .istore 12 pc') (hn : 12 < M.2.2.1) (hk : okS (a0 :: a1 :: a2 :: a3 :: a4 :: a5 :: a6 :: a7 :: a8 :: a9 :: a10 :: a11 :: a12 :: t) 12 = true) (k : Vx G M d pc' (a0 :: a1 :: a2 :: a3 :: a4 :: a5 :: a6 :: a7 :: a8 :: a9 :: a10 :: a11 :: some (.int x) :: t) st h v h') : Vx G M d pc (a0 :: a1 :: a2 :: a3 :: a4 :: a5 :: a6 :: a7 :: a8 :: a9 :: a10 :: a11 :: a12 :: t) (.int x :: st) h v h' := v_istore hd hn hk k
theorem v_ast_12 {a0 a1 a2 a3 a4 a5 a6 a7 a8 a9 a10 a11 a12 : Option Value} {t : List (Option Value)} {x : Nat} (hd : dl M pc .astore_n .astore 12 pc') (hn : 12 < M.2.2.1) (hk : okS (a0 :: a1 :: a2 :: a3 :: a4 :: a5 :: a6 :: a7 :: a8 :: a9 :: a10 :: a11 :: a12 :: t) 12 = true) (k : Vx G M d pc' (a0 :: a1 :: a2 :: a3 :: a4 :: a5 :: a6 :: a7 :: a8 :: a9 :: a10 :: a11 :: some (.ref x) :: t) st h v h') : Vx G M d pc (a0 :: a1 :: a2 :: a3 :: a4 :: a5 :: a6 :: a7 :: a8 :: a9 :: a10 :: a11 :: a12 :: t) (.ref x :: st) h v h' := v_astore hd hn hk k
theorem v_inc_12 {a0 a1 a2 a3 a4 a5 a6 a7 a8 a9 a10 a11 : Option Value} {t : List (Option Value)} {n : Int} {x : Int32} (y : Int32) (hd : dn M pc (.iinc 12 n) 3 pc') (hy : Int32.ofInt n = y) (hn : 12 < M.2.2.1) (hk : okS (a0 :: a1 :: a2 :: a3 :: a4 :: a5 :: a6 :: a7 :: a8 :: a9 :: a10 :: a11 :: some (.int x) :: t) 12 = true) (k : Vx G M d pc' (a0 :: a1 :: a2 :: a3 :: a4 :: a5 :: a6 :: a7 :: a8 :: a9 :: a10 :: a11 :: some (.int (x + y)) :: t) st h v h') : Vx G M d pc (a0 :: a1 :: a2 :: a3 :: a4 :: a5 :: a6 :: a7 :: a8 :: a9 :: a10 :: a11 :: some (.int x) :: t) st h v h' := v_iinc hd rfl (by rw [hy]) hn hk k
theorem v_ild_13 {a0 a1 a2 a3 a4 a5 a6 a7 a8 a9 a10 a11 a12 : Option Value} {t : List (Option Value)} {x : Int32} (hd : dl M pc .iload_n .iload 13 pc') (k : Vx G M d pc' (a0 :: a1 :: a2 :: a3 :: a4 :: a5 :: a6 :: a7 :: a8 :: a9 :: a10 :: a11 :: a12 :: some (.int x) :: t) (.int x :: st) h v h') : Vx G M d pc (a0 :: a1 :: a2 :: a3 :: a4 :: a5 :: a6 :: a7 :: a8 :: a9 :: a10 :: a11 :: a12 :: some (.int x) :: t) st h v h' := v_iload hd rfl k
theorem v_ald_13 {a0 a1 a2 a3 a4 a5 a6 a7 a8 a9 a10 a11 a12 : Option Value} {t : List (Option Value)} {x : Nat} (hd : dl M pc .aload_n .aload 13 pc') (k : Vx G M d pc' (a0 :: a1 :: a2 :: a3 :: a4 :: a5 :: a6 :: a7 :: a8 :: a9 :: a10 :: a11 :: a12 :: some (.ref x) :: t) (.ref x :: st) h v h') : Vx G M d pc (a0 :: a1 :: a2 :: a3 :: a4 :: a5 :: a6 :: a7 :: a8 :: a9 :: a10 :: a11 :: a12 :: some (.ref x) :: t) st h v h' := v_aload hd rfl k
theorem v_ist_13 {a0 a1 a2 a3 a4 a5 a6 a7 a8 a9 a10 a11 a12 a13 : Option Value} {t : List (Option Value)} {x : Int32} (hd : dl M pc .istore_n .istore 13 pc') (hn : 13 < M.2.2.1) (hk : okS (a0 :: a1 :: a2 :: a3 :: a4 :: a5 :: a6 :: a7 :: a8 :: a9 :: a10 :: a11 :: a12 :: a13 :: t) 13 = true) (k : Vx G M d pc' (a0 :: a1 :: a2 :: a3 :: a4 :: a5 :: a6 :: a7 :: a8 :: a9 :: a10 :: a11 :: a12 :: some (.int x) :: t) st h v h') : Vx G M d pc (a0 :: a1 :: a2 :: a3 :: a4 :: a5 :: a6 :: a7 :: a8 :: a9 :: a10 :: a11 :: a12 :: a13 :: t) (.int x :: st) h v h' := v_istore hd hn hk k
theorem v_ast_13 {a0 a1 a2 a3 a4 a5 a6 a7 a8 a9 a10 a11 a12 a13 : Option Value} {t : List (Option Value)} {x : Nat} (hd : dl M pc .astore_n .astore 13 pc') (hn : 13 < M.2.2.1) (hk : okS (a0 :: a1 :: a2 :: a3 :: a4 :: a5 :: a6 :: a7 :: a8 :: a9 :: a10 :: a11 :: a12 :: a13 :: t) 13 = true) (k : Vx G M d pc' (a0 :: a1 :: a2 :: a3 :: a4 :: a5 :: a6 :: a7 :: a8 :: a9 :: a10 :: a11 :: a12 :: some (.ref x) :: t) st h v h') : Vx G M d pc (a0 :: a1 :: a2 :: a3 :: a4 :: a5 :: a6 :: a7 :: a8 :: a9 :: a10 :: a11 :: a12 :: a13 :: t) (.ref x :: st) h v h' := v_astore hd hn hk k
theorem v_inc_13 {a0 a1 a2 a3 a4 a5 a6 a7 a8 a9 a10 a11 a12 : Option Value} {t : List (Option Value)} {n : Int} {x : Int32} (y : Int32) (hd : dn M pc (.iinc 13 n) 3 pc') (hy : Int32.ofInt n = y) (hn : 13 < M.2.2.1) (hk : okS (a0 :: a1 :: a2 :: a3 :: a4 :: a5 :: a6 :: a7 :: a8 :: a9 :: a10 :: a11 :: a12 :: some (.int x) :: t) 13 = true) (k : Vx G M d pc' (a0 :: a1 :: a2 :: a3 :: a4 :: a5 :: a6 :: a7 :: a8 :: a9 :: a10 :: a11 :: a12 :: some (.int (x + y)) :: t) st h v h') : Vx G M d pc (a0 :: a1 :: a2 :: a3 :: a4 :: a5 :: a6 :: a7 :: a8 :: a9 :: a10 :: a11 :: a12 :: some (.int x) :: t) st h v h' := v_iinc hd rfl (by rw [hy]) hn hk k
theorem v_ild_14 {a0 a1 a2 a3 a4 a5 a6 a7 a8 a9 a10 a11 a12 a13 : Option Value} {t : List (Option Value)} {x : Int32} (hd : dl M pc .iload_n .iload 14 pc') (k : Vx G M d pc' (a0 :: a1 :: a2 :: a3 :: a4 :: a5 :: a6 :: a7 :: a8 :: a9 :: a10 :: a11 :: a12 :: a13 :: some (.int x) :: t) (.int x :: st) h v h') : Vx G M d pc (a0 :: a1 :: a2 :: a3 :: a4 :: a5 :: a6 :: a7 :: a8 :: a9 :: a10 :: a11 :: a12 :: a13 :: some (.int x) :: t) st h v h' := v_iload hd rfl k
theorem v_ald_14 {a0 a1 a2 a3 a4 a5 a6 a7 a8 a9 a10 a11 a12 a13 : Option Value} {t : List (Option Value)} {x : Nat} (hd : dl M pc .aload_n .aload 14 pc') (k : Vx G M d pc' (a0 :: a1 :: a2 :: a3 :: a4 :: a5 :: a6 :: a7 :: a8 :: a9 :: a10 :: a11 :: a12 :: a13 :: some (.ref x) :: t) (.ref x :: st) h v h') : Vx G M d pc (a0 :: a1 :: a2 :: a3 :: a4 :: a5 :: a6 :: a7 :: a8 :: a9 :: a10 :: a11 :: a12 :: a13 :: some (.ref x) :: t) st h v h' := v_aload hd rfl k
theorem v_ist_14 {a0 a1 a2 a3 a4 a5 a6 a7 a8 a9 a10 a11 a12 a13 a14 : Option Value} {t : List (Option Value)} {x : Int32} (hd : dl M pc .istore_n .istore 14 pc') (hn : 14 < M.2.2.1) (hk : okS (a0 :: a1 :: a2 :: a3 :: a4 :: a5 :: a6 :: a7 :: a8 :: a9 :: a10 :: a11 :: a12 :: a13 :: a14 :: t) 14 = true) (k : Vx G M d pc' (a0 :: a1 :: a2 :: a3 :: a4 :: a5 :: a6 :: a7 :: a8 :: a9 :: a10 :: a11 :: a12 :: a13 :: some (.int x) :: t) st h v h') : Vx G M d pc (a0 :: a1 :: a2 :: a3 :: a4 :: a5 :: a6 :: a7 :: a8 :: a9 :: a10 :: a11 :: a12 :: a13 :: a14 :: t) (.int x :: st) h v h' := v_istore hd hn hk k
theorem v_ast_14 {a0 a1 a2 a3 a4 a5 a6 a7 a8 a9 a10 a11 a12 a13 a14 : Option Value} {t : List (Option Value)} {x : Nat} (hd : dl M pc .astore_n .astore 14 pc') (hn : 14 < M.2.2.1) (hk : okS (a0 :: a1 :: a2 :: a3 :: a4 :: a5 :: a6 :: a7 :: a8 :: a9 :: a10 :: a11 :: a12 :: a13 :: a14 :: t) 14 = true) (k : Vx G M d pc' (a0 :: a1 :: a2 :: a3 :: a4 :: a5 :: a6 :: a7 :: a8 :: a9 :: a10 :: a11 :: a12 :: a13 :: some (.ref x) :: t) st h v h') : Vx G M d pc (a0 :: a1 :: a2 :: a3 :: a4 :: a5 :: a6 :: a7 :: a8 :: a9 :: a10 :: a11 :: a12 :: a13 :: a14 :: t) (.ref x :: st) h v h' := v_astore hd hn hk k
theorem v_inc_14 {a0 a1 a2 a3 a4 a5 a6 a7 a8 a9 a10 a11 a12 a13 : Option Value} {t : List (Option Value)} {n : Int} {x : Int32} (y : Int32) (hd : dn M pc (.iinc 14 n) 3 pc') (hy : Int32.ofInt n = y) (hn : 14 < M.2.2.1) (hk : okS (a0 :: a1 :: a2 :: a3 :: a4 :: a5 :: a6 :: a7 :: a8 :: a9 :: a10 :: a11 :: a12 :: a13 :: some (.int x) :: t) 14 = true) (k : Vx G M d pc' (a0 :: a1 :: a2 :: a3 :: a4 :: a5 :: a6 :: a7 :: a8 :: a9 :: a10 :: a11 :: a12 :: a13 :: some (.int (x + y)) :: t) st h v h') : Vx G M d pc (a0 :: a1 :: a2 :: a3 :: a4 :: a5 :: a6 :: a7 :: a8 :: a9 :: a10 :: a11 :: a12 :: a13 :: some (.int x) :: t) st h v h' := v_iinc hd rfl (by rw [hy]) hn hk k
end RU
