/-! THE PURE HEAP: cell a, slot j ↦ an int. References never change behind the constructors: they stand in 'rf'. -/
abbrev PH : Type := Nat → Nat → Int32
def setC (h : PH) (a : Nat) (f : Nat → Int32) : PH := fun b => if b = a then f else h b
def up (h : PH) (a j : Nat) (v : Int32) : PH := setC h a (upd (h a) j v)
def cpy (h : PH) (a0 a1 sp dp n : Nat) : PH := setC h a1 (va_cpy (h a0) (h a1) sp dp n)
def fv (B : Nat) (h : PH) (a j : Nat) : Value := match rf a j with
  | some b => .ref (B + b)
  | none => .int (h a j)
def ce (B : Nat) (cA : Nat → ClassId) (h : PH) (a : Nat) (t : Nat × Nat) : va_E :=
  if t.1 < 20 then .inr (t.1, (List.range t.2).map (fv B h a))
  else if t.1 = 22 then .inl (cA 2, t.2, .inr (.inr (.inr (.inr (fun j => (rf a j).map (B + ·))))))
  else .inl (cA (t.1 - 20), t.2, .inl (h a))
def wd (B : Nat) (cA : Nat → ClassId) (h : PH) : va_W := shL.mapIdx fun a t => (B + a, ce B cA h a t)
theorem wd_at {B : Nat} {cA : Nat → ClassId} {h : PH} {a : Nat} {t : Nat × Nat} (ha : shL[a]? = some t) : (wd B cA h)[a]? = some (B + a, ce B cA h a t) := by
  simp [wd, List.getElem?_mapIdx, ha]
theorem wd_inv {B : Nat} {cA : Nat → ClassId} {h : PH} {a : Nat} {q : Nat × va_E} (hq : (wd B cA h)[a]? = some q) : ∃ t, shL[a]? = some t ∧ q = (B + a, ce B cA h a t) := by
  simp only [wd, List.getElem?_mapIdx, Option.map_eq_some_iff] at hq
  obtain ⟨t, h1, h2⟩ := hq
  exact ⟨t, h1, h2.symm⟩
theorem wd_D (B : Nat) (cA : Nat → ClassId) (h : PH) : va_D (fun q => B ≤ q) (wd B cA h) := by
  refine ⟨fun i j p q hi hj e => ?_, fun k q hk => ?_⟩
  · obtain ⟨t, -, rfl⟩ := wd_inv hi
    obtain ⟨u, -, rfl⟩ := wd_inv hj
    exact Nat.add_left_cancel e
  · obtain ⟨t, -, rfl⟩ := wd_inv hk
    exact Nat.le_add_right B k
theorem fv_set {B : Nat} {h : PH} {a : Nat} {f : Nat → Int32} {b : Nat} (hb : b ≠ a) : fv B (setC h a f) b = fv B h b := by
  funext j
  simp [fv, setC, hb]
theorem ce_set {B : Nat} {cA : Nat → ClassId} {h : PH} {a : Nat} {f : Nat → Int32} {b : Nat} {t : Nat × Nat} (hb : b ≠ a) : ce B cA (setC h a f) b t = ce B cA h b t := by
  unfold ce
  rw [fv_set hb]
  simp [setC, hb]
/-- one cell of the world is another: the world of the pure heap in which it is -/
theorem wd_set {B : Nat} {cA : Nat → ClassId} {h : PH} {a : Nat} {t : Nat × Nat} {f : Nat → Int32} {e : va_E} (ha : shL[a]? = some t) (he : ce B cA (setC h a f) a t = e) : (wd B cA h).set a (B + a, e) = wd B cA (setC h a f) := by
  apply List.ext_getElem?
  intro i
  by_cases hi : i = a
  · subst hi
    have hl : i < (wd B cA h).length := by
      have := (List.getElem?_eq_some_iff.mp ha).1
      simpa [wd] using this
    rw [List.getElem?_set_self hl, wd_at ha, he]
  · rw [List.getElem?_set_ne (Ne.symm hi)]
    simp only [wd, List.getElem?_mapIdx]
    cases shL[i]? with
    | none => rfl
    | some u => simp only [Option.map_some]; rw [ce_set hi]
theorem ce_obj {B : Nat} {cA : Nat → ClassId} {h : PH} {a ci n : Nat} (hc : ci < 20) : ce B cA h a (ci, n) = .inr (ci, (List.range n).map (fv B h a)) := by
  simp [ce, hc]
theorem ce_int {B : Nat} {cA : Nat → ClassId} {h : PH} {a n : Nat} : ce B cA h a (20, n) = .inl (cA 0, n, .inl (h a)) := rfl
theorem ce_byte {B : Nat} {cA : Nat → ClassId} {h : PH} {a n : Nat} : ce B cA h a (21, n) = .inl (cA 1, n, .inl (h a)) := rfl
theorem ce_bor {B : Nat} {cA : Nat → ClassId} {h : PH} {a n : Nat} : ce B cA h a (22, n) = .inl (cA 2, n, .inr (.inr (.inr (.inr (fun j => (rf a j).map (B + ·)))))) := rfl
theorem fv_int {B : Nat} {h : PH} {a j : Nat} (hr : rf a j = none) : fv B h a j = .int (h a j) := by simp [fv, hr]
theorem fv_ref {B : Nat} {h : PH} {a j b : Nat} (hr : rf a j = some b) : fv B h a j = .ref (B + b) := by simp [fv, hr]
theorem fv_up {B : Nat} {h : PH} {a j n : Nat} {x : Int32} (hr : rf a j = none) (hj : j < n) : (List.range n).map (fv B (up h a j x) a) = ((List.range n).map (fv B h a)).set j (.int x) := by
  apply List.ext_getElem?
  intro i
  by_cases hi : i = j
  · subst hi
    rw [List.getElem?_set_self (by simpa using hj)]
    simp [hj, fv_int hr, up, setC, upd]
  · rw [List.getElem?_set_ne (Ne.symm hi)]
    by_cases hn : i < n
    · simp [hn, fv, up, setC, upd, hi]
    · simp [hn]

/-! THE JUDGEMENTS over the pure heap. G: the launch, the first cell's address, the classes' numbers, the array classes', the texts' cells and their bytes' cells. M: a method's name, code, locals, answer. -/
abbrev GG : Type := Launch × Nat × va_G × (Nat → ClassId) × (Nat → Nat) × (Nat → Nat)
abbrev gB (G : GG) : Nat := G.2.1
abbrev gD (G : GG) : va_G := G.2.2.1
abbrev gA (G : GG) : Nat → ClassId := G.2.2.2.1
abbrev gS (G : GG) : Nat → Nat := G.2.2.2.2.1
abbrev gV (G : GG) : Nat → Nat := G.2.2.2.2.2
abbrev MM : Type := MethodName × ByteArray × Nat × Option FieldType
def tb : List Cond := lw_tbl.filter goodWord
theorem tb_in {w : Cond} (h : w ∈ lw_tbl) (hg : goodWord w = true) : w ∈ tb := List.mem_filter.mpr ⟨h, hg⟩
theorem tb_good : GoodIn tb tb := fun w h => ⟨h, good_of_word (List.mem_filter.mp h).2⟩
def rmd (d : Nat) : Room := { frames := d + 1, cells := 0, slots := 0, locals := 64 * (d + 1) }
def ty3 (G : GG) : List (ClassId × FieldType) := [(gA G 0, .int), (gA G 1, .byte), (gA G 2, .object "GingerRents$Borough")]
def HR (G : GG) (h : PH) (H : Heap) : Prop := va_P (gD G) clsL (wd (gB G) (gA G) h) H
abbrev gF (G : GG) : Nat → Prop := fun q => gB G ≤ q
/-- the formatter of index faults: null, or a cell; it's only carried -/
def fmtV (G : GG) : Value := if gV G 5 = 0 then .null else .ref (gV G 5 - 1)
theorem fmtV_cat {G : GG} : (fmtV G).category = 1 := by unfold fmtV; split <;> rfl
theorem cat_i {x : Int32} : (Value.int x).category = 1 := rfl
theorem cat_r {a : Nat} : (Value.ref a).category = 1 := rfl
def nsL : List (String × Nat × MethodName) := [("GingerRents$Season", 173, ⟨"GingerRents", "within", "(III)Z"⟩), ("GingerRents$Tape", 86, ⟨"GingerRents", "within", "(III)Z"⟩), ("GingerRents$Reader", 112, ⟨"GingerRents", "within", "(III)Z"⟩), ("GingerRents", 242, ⟨"GingerRents$Kitchen", "leastShare", "(LGingerRents$Rows;II)I"⟩), ("GingerRents", 294, ⟨"GingerRents$Kitchen", "doneBy", "(LGingerRents$Rows;III)I"⟩)]
def stL : List (String × Nat × String) := [("GingerRents$Reader", 80, "rent gnaws melts when or and not wall sum almonds teeth hard icing lodgers door age rain frost quarter"), ("GingerRents$Reader", 82, "in rain frost thaw"), ("GingerRents$Reader", 84, "in ice bake wed raze"), ("GingerRents$Reader", 86, "house next"), ("GingerRents$Tape", 64, ";+-*/()<=>")]
def stB : List (List Int32) := [[114, 101, 110, 116, 32, 103, 110, 97, 119, 115, 32, 109, 101, 108, 116, 115, 32, 119, 104, 101, 110, 32, 111, 114, 32, 97, 110, 100, 32, 110, 111, 116, 32, 119, 97, 108, 108, 32, 115, 117, 109, 32, 97, 108, 109, 111, 110, 100, 115, 32, 116, 101, 101, 116, 104, 32, 104, 97, 114, 100, 32, 105, 99, 105, 110, 103, 32, 108, 111, 100, 103, 101, 114, 115, 32, 100, 111, 111, 114, 32, 97, 103, 101, 32, 114, 97, 105, 110, 32, 102, 114, 111, 115, 116, 32, 113, 117, 97, 114, 116, 101, 114], [105, 110, 32, 114, 97, 105, 110, 32, 102, 114, 111, 115, 116, 32, 116, 104, 97, 119], [105, 110, 32, 105, 99, 101, 32, 98, 97, 107, 101, 32, 119, 101, 100, 32, 114, 97, 122, 101], [104, 111, 117, 115, 101, 32, 110, 101, 120, 116], [59, 43, 45, 42, 47, 40, 41, 60, 61, 62]]
def stN : List Nat := [102, 18, 20, 10, 10]
/-- what else is known of the machine's tables and of the heap below: links between nest mates, the texts, COMPACT_STRINGS -/
def SX (G : GG) (U : State) (H : Heap) : Prop := (∀ q ∈ nsL, va_Nw (.methodLinkNest q.1 q.2.1 q.2.2 "GingerRents") U) ∧ (∀ (i : Nat) (q : String × Nat × String), stL[i]? = some q → vk_R q.1 q.2.1 q.2.2 (gS G i) U) ∧ vk_S 5 stN stB (gS G) (gV G) (gF G) U H ∧ va_Z "java/lang/String" "COMPACT_STRINGS" "Z" (.int 1) (gF G) U H ∧ va_Z "jdk/internal/util/Preconditions" "SIOOBE_FORMATTER" "Ljava/util/function/BiFunction;" (fmtV G) (gF G) U H
theorem SX.warm {G : GG} {s U : State} {H : Heap} (hW : s.WarmedH U.vm) (h : SX G s H) : SX G U H := ⟨fun q hq => va_Nw.warmM hW (h.1 q hq), fun i q hq => (h.2.1 i q hq).warm hW, h.2.2.1.moved hW.alike, h.2.2.2.1.moved hW.alike, h.2.2.2.2.moved hW.alike⟩
theorem SX.same {G : GG} {s U : State} {H : Heap} (hv : U.vm = s.vm) (h : SX G s H) : SX G U H := ⟨fun q hq => va_Nw.same rfl hv.symm (h.1 q hq), fun i q hq => (h.2.1 i q hq).same hv, h.2.2.1.moved (by rw [hv]; exact Vm.Alike.refl s.vm), h.2.2.2.1.moved (by rw [hv]; exact Vm.Alike.refl s.vm), h.2.2.2.2.moved (by rw [hv]; exact Vm.Alike.refl s.vm)⟩
theorem SX.go {G : GG} {U : State} {H0 H : Heap} {locs : List Loc} (h : SX G U H0) (hS : va_S (gF G) H0 H locs) : SX G U H := ⟨h.1, h.2.1, h.2.2.1.kept hS.2.1, h.2.2.2.1.kept hS.2.1, h.2.2.2.2.kept hS.2.1⟩
def Cx (G : GG) (M : MM) (p : Program) (s : State) (m : MethodId) (args : Array Value) (meth : Method) (c : Code) : Prop :=
  p.tables.exec = Jvm.exec ∧ c.code = M.2.1 ∧ meth.sig.returnType = M.2.2.2 ∧ c.maxLocals = M.2.2.1 ∧ s.vm.findClass M.1.cls = some m.cls ∧ (∀ w ∈ tb, w.before args s = true) ∧ meth.locks = false ∧ va_K (gD G) clsL (ty3 G) s ∧ SX G s s.heap
def QC (G : GG) (v : Option Value) (h' : PH) : Array Value → State → Outcome → State → Prop := fun _ st o t => o = .returned v ∧ HR G h' t.heap ∧ va_F (gF G) st t
def LV (ls : Array Slot) (nL : Nat) (L : List (Option Value)) : Prop := ls.size = nL ∧ lv_wf ls ∧ ∀ (i : Nat) (v : Value), L[i]? = some (some v) → ls[i]? = some (.val v)
/-- from here the method comes to its end, with the answer v and the pure heap h' -/
def Vx (G : GG) (M : MM) (d pc : Nat) (L : List (Option Value)) (st : List Value) (h : PH) (v : Option Value) (h' : PH) : Prop :=
  ∀ (p : Program) (e : Env) (s : State) (m : MethodId) (args : Array Value) (below : List Frame) (meth : Method) (c : Code), Cx G M p s m args meth c →
  ∀ (H : Heap) (locs : List Loc) (ls : Array Slot), HR G h H → va_S (gF G) s.heap H locs → LV ls M.2.2.1 L →
    W p G.1 e (rmd d) s m args below meth c H locs 0 0 (MQ below (QC G v h') args s 0 0 (gF G)) (F0 m pc ls st)
def wsM (M : MM) : List Cond := .code M.1 M.2.1 M.2.2.1 M.2.2.2 :: tb
/-- the method's contract: from the pure heap h, with these arguments, it answers v, and the pure heap is h' -/
def Kx (G : GG) (M : MM) (d : Nat) (As : List Value) (h : PH) (v : Option Value) (h' : PH) : Prop :=
  Met G.1 M.1 (wsM M) (rmd d) (fun a U => a = As.toArray ∧ HR G h U.heap ∧ va_K (gD G) clsL (ty3 G) U ∧ SX G U U.heap) (QC G v h') 0 0 (gF G)
def ini (n : Nat) (As : List Value) : List (Option Value) := As.map some ++ List.replicate (n - As.length) none
theorem lv_args_one : ∀ (As : List Value) (k : Nat), (∀ v ∈ As, v.category = 1) → ∀ (i : Nat) (v : Value), As[i]? = some v → (k + i, v) ∈ lv_args k As
  | [], _, _, i, v, h => by simp at h
  | a :: As, k, hc, i, v, h => by
    have ha : ¬ a.category = 2 := by rw [hc a List.mem_cons_self]; decide
    rw [lv_args, if_neg ha]
    cases i with
    | zero => rw [List.getElem?_cons_zero] at h; cases h; exact List.mem_cons_self
    | succ i =>
      rw [List.getElem?_cons_succ] at h
      have := lv_args_one As (k + 1) (fun v hv => hc v (List.mem_cons_of_mem _ hv)) i v h
      rw [show k + (i + 1) = k + 1 + i by omega]
      exact List.mem_cons_of_mem _ this
theorem sl_one : ∀ (As : List Value), (∀ v ∈ As, v.category = 1) → (lg_sl As).length = As.length
  | [], _ => rfl
  | a :: As, hc => by
    have ha : ¬ a.category = 2 := by rw [hc a List.mem_cons_self]; decide
    have := sl_one As (fun v hv => hc v (List.mem_cons_of_mem _ hv))
    simp only [lg_sl, List.flatMap_cons, ha, if_false, List.length_append, List.length_cons, List.length_nil] at this ⊢
    omega
theorem ini_at {n : Nat} {As : List Value} {i : Nat} {v : Value} (h : (ini n As)[i]? = some (some v)) : As[i]? = some v := by
  unfold ini at h
  by_cases hi : i < As.length
  · rw [List.getElem?_append_left (by simpa using hi)] at h
    simpa using h
  · rw [List.getElem?_append_right (by simpa using hi)] at h
    have := List.mem_of_getElem? h
    simp at this
theorem K_of_V {G : GG} {M : MM} {d : Nat} {As : List Value} {h h' : PH} {v : Option Value} (hp : plainName M.1.cls = true) (hc : ∀ v ∈ As, v.category = 1) (hn : As.length ≤ M.2.2.1)
    (k : Vx G M d 0 (ini M.2.2.1 As) [] h v h') : Kx G M d As h v h' := by
  refine Met.ofW (cc := M.2.1) (maxL := M.2.2.1) (ret := M.2.2.2) hp rfl ?_
  intro p e s m args below meth c s₁ B hml hv
  obtain ⟨rfl, hR, hK, hLB⟩ := hv
  have hts : ∀ w ∈ wsM M, w.before As.toArray s = true := atoms_spec (ws := wsM M) B.pre
  have hl := lv_entry As (n := M.2.2.1) (by rw [sl_one As hc]; exact hn)
  rw [lg_entry_eq]
  refine k p e s m As.toArray below meth c ⟨B.exec, B.bytes, B.returns, hml, findClass_of_methodNamed B.named, fun w hw => hts w (List.mem_cons_of_mem _ hw), B.notSynchronized, hK, hLB⟩ s.heap [] _ hR va_S.rf ⟨hl.1, hl.2.1, fun i v hi => ?_⟩
  have := hl.2.2 (i, v) (by have := lv_args_one As 0 hc i v (ini_at hi); rwa [Nat.zero_add] at this)
  exact this
