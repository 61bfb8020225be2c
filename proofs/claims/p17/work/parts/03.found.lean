section
/-! THE PURE HEAP: cell a, slot j ↦ an int. References never change behind the constructors: they stand in 'rf'. -/
abbrev PH : Type := Nat → Nat → Int32
def setC (h : PH) (a : Nat) (f : Nat → Int32) : PH := fun b => if b = a then f else h b
def up (h : PH) (a j : Nat) (v : Int32) : PH := setC h a (upd (h a) j v)
def cpy (h : PH) (a0 a1 sp dp n : Nat) : PH := setC h a1 (va_cpy (h a0) (h a1) sp dp n)
def fv (B : Nat) (h : PH) (a j : Nat) : Value := match rf a j with
  | some b => .ref (B + b)
  | none => .int (h a j)
def ce (B : Nat) (cA : Nat → ClassId) (h : PH) (a : Nat) (t : Nat × Nat) : va_E :=
  if t.1 < 20 then .inr (t.1, (List.range t.2).map (fv B h a))
  else if t.1 = 22 then .inl (cA 2, t.2, .inr (.inr (.inr (.inr (fun j => (rf a j).map (B + ·))))))
  else .inl (cA (t.1 - 20), t.2, .inl (h a))
def wd (B : Nat) (cA : Nat → ClassId) (h : PH) : va_W := shL.mapIdx fun a t => (B + a, ce B cA h a t)
theorem wd_at {B : Nat} {cA : Nat → ClassId} {h : PH} {a : Nat} {t : Nat × Nat} (ha : shL[a]? = some t) : (wd B cA h)[a]? = some (B + a, ce B cA h a t) := by
  simp [wd, List.getElem?_mapIdx, ha]
theorem wd_inv {B : Nat} {cA : Nat → ClassId} {h : PH} {a : Nat} {q : Nat × va_E} (hq : (wd B cA h)[a]? = some q) : ∃ t, shL[a]? = some t ∧ q = (B + a, ce B cA h a t) := by
  simp only [wd, List.getElem?_mapIdx, Option.map_eq_some_iff] at hq
  obtain ⟨t, h1, h2⟩ := hq
  exact ⟨t, h1, h2.symm⟩
theorem wd_D (B : Nat) (cA : Nat → ClassId) (h : PH) : va_D (fun q => B ≤ q) (wd B cA h) := by
  refine ⟨fun i j p q hi hj e => ?_, fun k q hk => ?_⟩
  · obtain ⟨t, -, rfl⟩ := wd_inv hi
    obtain ⟨u, -, rfl⟩ := wd_inv hj
    exact Nat.add_left_cancel e
  · obtain ⟨t, -, rfl⟩ := wd_inv hk
    exact Nat.le_add_right B k
theorem fv_set {B : Nat} {h : PH} {a : Nat} {f : Nat → Int32} {b : Nat} (hb : b ≠ a) : fv B (setC h a f) b = fv B h b := by
  funext j
  simp [fv, setC, hb]
theorem ce_set {B : Nat} {cA : Nat → ClassId} {h : PH} {a : Nat} {f : Nat → Int32} {b : Nat} {t : Nat × Nat} (hb : b ≠ a) : ce B cA (setC h a f) b t = ce B cA h b t := by
  unfold ce
  rw [fv_set hb]
  simp [setC, hb]
/-- one cell of the world is another: the world of the pure heap in which it is -/
theorem wd_set {B : Nat} {cA : Nat → ClassId} {h : PH} {a : Nat} {t : Nat × Nat} {f : Nat → Int32} {e : va_E} (ha : shL[a]? = some t) (he : ce B cA (setC h a f) a t = e) : (wd B cA h).set a (B + a, e) = wd B cA (setC h a f) := by
  apply List.ext_getElem?
  intro i
  by_cases hi : i = a
  · subst hi
    have hl : i < (wd B cA h).length := by
      have := (List.getElem?_eq_some_iff.mp ha).1
      simpa [wd] using this
    rw [List.getElem?_set_self hl, wd_at ha, he]
  · rw [List.getElem?_set_ne (Ne.symm hi)]
    simp only [wd, List.getElem?_mapIdx]
    cases shL[i]? with
    | none => rfl
    | some u => simp only [Option.map_some]; rw [ce_set hi]
theorem ce_obj {B : Nat} {cA : Nat → ClassId} {h : PH} {a ci n : Nat} (hc : ci < 20) : ce B cA h a (ci, n) = .inr (ci, (List.range n).map (fv B h a)) := by
  simp [ce, hc]
theorem ce_int {B : Nat} {cA : Nat → ClassId} {h : PH} {a n : Nat} : ce B cA h a (20, n) = .inl (cA 0, n, .inl (h a)) := rfl
theorem ce_byte {B : Nat} {cA : Nat → ClassId} {h : PH} {a n : Nat} : ce B cA h a (21, n) = .inl (cA 1, n, .inl (h a)) := rfl
theorem ce_bor {B : Nat} {cA : Nat → ClassId} {h : PH} {a n : Nat} : ce B cA h a (22, n) = .inl (cA 2, n, .inr (.inr (.inr (.inr (fun j => (rf a j).map (B + ·)))))) := rfl
theorem fv_int {B : Nat} {h : PH} {a j : Nat} (hr : rf a j = none) : fv B h a j = .int (h a j) := by simp [fv, hr]
theorem fv_ref {B : Nat} {h : PH} {a j b : Nat} (hr : rf a j = some b) : fv B h a j = .ref (B + b) := by simp [fv, hr]
theorem fv_up {B : Nat} {h : PH} {a j n : Nat} {x : Int32} (hr : rf a j = none) (hj : j < n) : (List.range n).map (fv B (up h a j x) a) = ((List.range n).map (fv B h a)).set j (.int x) := by
  apply List.ext_getElem?
  intro i
  by_cases hi : i = j
  · subst hi
    rw [List.getElem?_set_self (by simpa using hj)]
    simp [hj, fv_int hr, up, setC, upd]
  · rw [List.getElem?_set_ne (Ne.symm hi)]
    by_cases hn : i < n
    · simp [hn, fv, up, setC, upd, hi]
    · simp [hn]

/-! THE JUDGEMENTS over the pure heap. G: the launch, the first cell's address, the classes' numbers, the array classes', the texts' cells and their bytes' cells. M: a method's name, code, locals, answer. -/
abbrev GG : Type := Launch × Nat × va_G × (Nat → ClassId) × (Nat → Nat) × (Nat → Nat)
abbrev gB (G : GG) : Nat := G.2.1
abbrev gD (G : GG) : va_G := G.2.2.1
abbrev gA (G : GG) : Nat → ClassId := G.2.2.2.1
abbrev gS (G : GG) : Nat → Nat := G.2.2.2.2.1
abbrev gV (G : GG) : Nat → Nat := G.2.2.2.2.2
abbrev MM : Type := MethodName × ByteArray × Nat × Option FieldType
def tb : List Cond := lw_tbl.filter goodWord
theorem tb_in {w : Cond} (h : w ∈ lw_tbl) (hg : goodWord w = true) : w ∈ tb := List.mem_filter.mpr ⟨h, hg⟩
theorem tb_good : GoodIn tb tb := fun w h => ⟨h, good_of_word (List.mem_filter.mp h).2⟩
def rmd (d : Nat) : Room := { frames := d + 1, cells := 0, slots := 0, locals := 64 * (d + 1) }
def ty3 (G : GG) : List (ClassId × FieldType) := [(gA G 0, .int), (gA G 1, .byte), (gA G 2, .object "GingerRents$Borough")]
def HR (G : GG) (h : PH) (H : Heap) : Prop := va_P (gD G) clsL (wd (gB G) (gA G) h) H
abbrev gF (G : GG) : Nat → Prop := fun q => gB G ≤ q
/-- the formatter of index faults: null, or a cell; it's only carried -/
def fmtV (G : GG) : Value := if gV G 5 = 0 then .null else .ref (gV G 5 - 1)
theorem fmtV_cat {G : GG} : (fmtV G).category = 1 := by unfold fmtV; split <;> rfl
theorem cat_i {x : Int32} : (Value.int x).category = 1 := rfl
theorem cat_r {a : Nat} : (Value.ref a).category = 1 := rfl
def nsL : List (String × Nat × MethodName) := [("GingerRents$Season", 173, ⟨"GingerRents", "within", "(III)Z"⟩), ("GingerRents$Tape", 86, ⟨"GingerRents", "within", "(III)Z"⟩), ("GingerRents$Reader", 112, ⟨"GingerRents", "within", "(III)Z"⟩), ("GingerRents", 242, ⟨"GingerRents$Kitchen", "leastShare", "(LGingerRents$Rows;II)I"⟩), ("GingerRents", 294, ⟨"GingerRents$Kitchen", "doneBy", "(LGingerRents$Rows;III)I"⟩)]
def stL : List (String × Nat × String) := [("GingerRents$Reader", 80, "rent gnaws melts when or and not wall sum almonds teeth hard icing lodgers door age rain frost quarter"), ("GingerRents$Reader", 82, "in rain frost thaw"), ("GingerRents$Reader", 84, "in ice bake wed raze"), ("GingerRents$Reader", 86, "house next"), ("GingerRents$Tape", 64, ";+-*/()<=>")]
def stB : List (List Int32) := [[114, 101, 110, 116, 32, 103, 110, 97, 119, 115, 32, 109, 101, 108, 116, 115, 32, 119, 104, 101, 110, 32, 111, 114, 32, 97, 110, 100, 32, 110, 111, 116, 32, 119, 97, 108, 108, 32, 115, 117, 109, 32, 97, 108, 109, 111, 110, 100, 115, 32, 116, 101, 101, 116, 104, 32, 104, 97, 114, 100, 32, 105, 99, 105, 110, 103, 32, 108, 111, 100, 103, 101, 114, 115, 32, 100, 111, 111, 114, 32, 97, 103, 101, 32, 114, 97, 105, 110, 32, 102, 114, 111, 115, 116, 32, 113, 117, 97, 114, 116, 101, 114], [105, 110, 32, 114, 97, 105, 110, 32, 102, 114, 111, 115, 116, 32, 116, 104, 97, 119], [105, 110, 32, 105, 99, 101, 32, 98, 97, 107, 101, 32, 119, 101, 100, 32, 114, 97, 122, 101], [104, 111, 117, 115, 101, 32, 110, 101, 120, 116], [59, 43, 45, 42, 47, 40, 41, 60, 61, 62]]
def stN : List Nat := [102, 18, 20, 10, 10]
/-- what else is known of the machine's tables and of the heap below: links between nest mates, the texts, COMPACT_STRINGS -/
def SX (G : GG) (U : State) (H : Heap) : Prop := (∀ q ∈ nsL, va_Nw (.methodLinkNest q.1 q.2.1 q.2.2 "GingerRents") U) ∧ (∀ (i : Nat) (q : String × Nat × String), stL[i]? = some q → vk_R q.1 q.2.1 q.2.2 (gS G i) U) ∧ vk_S 5 stN stB (gS G) (gV G) (gF G) U H ∧ va_Z "java/lang/String" "COMPACT_STRINGS" "Z" (.int 1) (gF G) U H ∧ va_Z "jdk/internal/util/Preconditions" "SIOOBE_FORMATTER" "Ljava/util/function/BiFunction;" (fmtV G) (gF G) U H
theorem SX.warm {G : GG} {s U : State} {H : Heap} (hW : s.WarmedH U.vm) (h : SX G s H) : SX G U H := ⟨fun q hq => va_Nw.warmM hW (h.1 q hq), fun i q hq => (h.2.1 i q hq).warm hW, h.2.2.1.moved hW.alike, h.2.2.2.1.moved hW.alike, h.2.2.2.2.moved hW.alike⟩
theorem SX.same {G : GG} {s U : State} {H : Heap} (hv : U.vm = s.vm) (h : SX G s H) : SX G U H := ⟨fun q hq => va_Nw.same rfl hv.symm (h.1 q hq), fun i q hq => (h.2.1 i q hq).same hv, h.2.2.1.moved (by rw [hv]; exact Vm.Alike.refl s.vm), h.2.2.2.1.moved (by rw [hv]; exact Vm.Alike.refl s.vm), h.2.2.2.2.moved (by rw [hv]; exact Vm.Alike.refl s.vm)⟩
theorem SX.go {G : GG} {U : State} {H0 H : Heap} {locs : List Loc} (h : SX G U H0) (hS : va_S (gF G) H0 H locs) : SX G U H := ⟨h.1, h.2.1, h.2.2.1.kept hS.2.1, h.2.2.2.1.kept hS.2.1, h.2.2.2.2.kept hS.2.1⟩
def Cx (G : GG) (M : MM) (p : Program) (s : State) (m : MethodId) (args : Array Value) (meth : Method) (c : Code) : Prop :=
  p.tables.exec = Jvm.exec ∧ c.code = M.2.1 ∧ meth.sig.returnType = M.2.2.2 ∧ c.maxLocals = M.2.2.1 ∧ s.vm.findClass M.1.cls = some m.cls ∧ (∀ w ∈ tb, w.before args s = true) ∧ meth.locks = false ∧ va_K (gD G) clsL (ty3 G) s ∧ SX G s s.heap
def QC (G : GG) (v : Option Value) (h' : PH) : Array Value → State → Outcome → State → Prop := fun _ st o t => o = .returned v ∧ HR G h' t.heap ∧ va_F (gF G) st t
def LV (ls : Array Slot) (nL : Nat) (L : List (Option Value)) : Prop := ls.size = nL ∧ lv_wf ls ∧ ∀ (i : Nat) (v : Value), L[i]? = some (some v) → ls[i]? = some (.val v)
/-- from here the method comes to its end, with the answer v and the pure heap h' -/
def Vx (G : GG) (M : MM) (d pc : Nat) (L : List (Option Value)) (st : List Value) (h : PH) (v : Option Value) (h' : PH) : Prop :=
  ∀ (p : Program) (e : Env) (s : State) (m : MethodId) (args : Array Value) (below : List Frame) (meth : Method) (c : Code), Cx G M p s m args meth c →
  ∀ (H : Heap) (locs : List Loc) (ls : Array Slot), HR G h H → va_S (gF G) s.heap H locs → LV ls M.2.2.1 L →
    W p G.1 e (rmd d) s m args below meth c H locs 0 0 (MQ below (QC G v h') args s 0 0 (gF G)) (F0 m pc ls st)
def wsM (M : MM) : List Cond := .code M.1 M.2.1 M.2.2.1 M.2.2.2 :: tb
/-- the method's contract: from the pure heap h, with these arguments, it answers v, and the pure heap is h' -/
def Kx (G : GG) (M : MM) (d : Nat) (As : List Value) (h : PH) (v : Option Value) (h' : PH) : Prop :=
  Met G.1 M.1 (wsM M) (rmd d) (fun a U => a = As.toArray ∧ HR G h U.heap ∧ va_K (gD G) clsL (ty3 G) U ∧ SX G U U.heap) (QC G v h') 0 0 (gF G)
def ini (n : Nat) (As : List Value) : List (Option Value) := As.map some ++ List.replicate (n - As.length) none
theorem lv_args_one : ∀ (As : List Value) (k : Nat), (∀ v ∈ As, v.category = 1) → ∀ (i : Nat) (v : Value), As[i]? = some v → (k + i, v) ∈ lv_args k As
  | [], _, _, i, v, h => by simp at h
  | a :: As, k, hc, i, v, h => by
    have ha : ¬ a.category = 2 := by rw [hc a List.mem_cons_self]; decide
    rw [lv_args, if_neg ha]
    cases i with
    | zero => rw [List.getElem?_cons_zero] at h; cases h; exact List.mem_cons_self
    | succ i =>
      rw [List.getElem?_cons_succ] at h
      have := lv_args_one As (k + 1) (fun v hv => hc v (List.mem_cons_of_mem _ hv)) i v h
      rw [show k + (i + 1) = k + 1 + i by omega]
      exact List.mem_cons_of_mem _ this
theorem sl_one : ∀ (As : List Value), (∀ v ∈ As, v.category = 1) → (lg_sl As).length = As.length
  | [], _ => rfl
  | a :: As, hc => by
    have ha : ¬ a.category = 2 := by rw [hc a List.mem_cons_self]; decide
    have := sl_one As (fun v hv => hc v (List.mem_cons_of_mem _ hv))
    simp only [lg_sl, List.flatMap_cons, ha, if_false, List.length_append, List.length_cons, List.length_nil] at this ⊢
    omega
theorem ini_at {n : Nat} {As : List Value} {i : Nat} {v : Value} (h : (ini n As)[i]? = some (some v)) : As[i]? = some v := by
  unfold ini at h
  by_cases hi : i < As.length
  · rw [List.getElem?_append_left (by simpa using hi)] at h
    simpa using h
  · rw [List.getElem?_append_right (by simpa using hi)] at h
    have := List.mem_of_getElem? h
    simp at this
theorem K_of_V {G : GG} {M : MM} {d : Nat} {As : List Value} {h h' : PH} {v : Option Value} (hp : plainName M.1.cls = true) (hc : ∀ v ∈ As, v.category = 1) (hn : As.length ≤ M.2.2.1)
    (k : Vx G M d 0 (ini M.2.2.1 As) [] h v h') : Kx G M d As h v h' := by
  refine Met.ofW (cc := M.2.1) (maxL := M.2.2.1) (ret := M.2.2.2) hp rfl ?_
  intro p e s m args below meth c s₁ B hml hv
  obtain ⟨rfl, hR, hK, hLB⟩ := hv
  have hts : ∀ w ∈ wsM M, w.before As.toArray s = true := atoms_spec (ws := wsM M) B.pre
  have hl := lv_entry As (n := M.2.2.1) (by rw [sl_one As hc]; exact hn)
  rw [lg_entry_eq]
  refine k p e s m As.toArray below meth c ⟨B.exec, B.bytes, B.returns, hml, findClass_of_methodNamed B.named, fun w hw => hts w (List.mem_cons_of_mem _ hw), B.notSynchronized, hK, hLB⟩ s.heap [] _ hR va_S.rf ⟨hl.1, hl.2.1, fun i v hi => ?_⟩
  have := hl.2.2 (i, v) (by have := lv_args_one As 0 hc i v (ini_at hi); rwa [Nat.zero_add] at this)
  exact this
end
section
/-! THE RULES of the pure judgement: an instruction, a rule. Printed by wip/gen/p04.py -/
def dn (M : MM) (pc : Nat) (i : Instr) (n pc' : Nat) : Prop := decode M.2.1 pc = .ok (i, n) ∧ pc + n = pc'
/-- a branch: where to, and behind it -/
def db (M : MM) (pc : Nat) (i : Int → Instr) (tgt pc' : Nat) : Prop := ∃ off : Int, decode M.2.1 pc = .ok (i off, 3) ∧ (pc : Int) + off = (tgt : Int) ∧ pc + 3 = pc'
def dl (M : MM) (pc : Nat) (i1 : Fin 4 → Instr) (i2 : Nat → Instr) (i pc' : Nat) : Prop := (∃ k : Fin 4, decode M.2.1 pc = .ok (i1 k, 1) ∧ (k : Nat) = i ∧ pc + 1 = pc') ∨ (decode M.2.1 pc = .ok (i2 i, 2) ∧ pc + 2 = pc')
theorem dn_i {M : MM} {pc : Nat} {i : Instr} {n pc' : Nat} (h : decode M.2.1 pc = .ok (i, n)) (e : pc + n = pc') : dn M pc i n pc' := ⟨h, e⟩
theorem db_i {M : MM} {pc : Nat} {i : Int → Instr} {tgt pc' : Nat} (off : Int) (h : decode M.2.1 pc = .ok (i off, 3)) (e : (pc : Int) + off = (tgt : Int)) (e2 : pc + 3 = pc') : db M pc i tgt pc' := ⟨off, h, e, e2⟩
theorem dl_n {M : MM} {pc : Nat} {i1 : Fin 4 → Instr} {i2 : Nat → Instr} {i pc' : Nat} (k : Fin 4) (h : decode M.2.1 pc = .ok (i1 k, 1)) (e : (k : Nat) = i) (e2 : pc + 1 = pc') : dl M pc i1 i2 i pc' := Or.inl ⟨k, h, e, e2⟩
theorem dl_w {M : MM} {pc : Nat} {i1 : Fin 4 → Instr} {i2 : Nat → Instr} {i pc' : Nat} (h : decode M.2.1 pc = .ok (i2 i, 2)) (e2 : pc + 2 = pc') : dl M pc i1 i2 i pc' := Or.inr ⟨h, e2⟩
def okS (L : List (Option Value)) (i : Nat) : Bool := match i with
  | 0 => true
  | j + 1 => match L[j]? with
    | some (some w) => w.category == 1
    | _ => true
def aL (L : List (Option Value)) : List (Nat × Value) := (List.range L.length).filterMap fun j => (L[j]?.join).map fun v => (j, v)
theorem aL_mem {L : List (Option Value)} {j : Nat} {w : Value} : (j, w) ∈ aL L ↔ L[j]? = some (some w) := by
  unfold aL
  rw [List.mem_filterMap]
  constructor
  · rintro ⟨i, -, hi⟩
    cases h : L[i]? with
    | none => simp [h] at hi
    | some a =>
      cases a with
      | none => simp [h] at hi
      | some b => simp [h] at hi; rw [← hi.1, h, hi.2]
  · intro h
    have hl := (List.getElem?_eq_some_iff.mp h).1
    exact ⟨j, List.mem_range.mpr hl, by simp [h]⟩
theorem LV.has {ls : Array Slot} {nL : Nat} {L : List (Option Value)} (h : LV ls nL L) : lv_has ls nL (aL L) := ⟨h.1, h.2.1, fun q hq => h.2.2 q.1 q.2 (aL_mem.mp hq)⟩
theorem LV.of {ls : Array Slot} {nL : Nat} {L : List (Option Value)} {i : Nat} {x : Value} (h : lv_has ls nL ((i, x) :: (aL L).filter (fun q => !(q.1 == i) && !(q.1 + 1 == i && q.2.category == 2)))) (hk : okS L i = true) : LV ls nL (L.set i (some x)) := by
  refine ⟨h.1, h.2.1, fun j w hj => ?_⟩
  by_cases hji : j = i
  · subst hji
    have hl : j < L.length := by simpa using (List.getElem?_eq_some_iff.mp hj).1
    rw [List.getElem?_set_self hl] at hj
    cases hj
    exact h.2.2 (j, x) List.mem_cons_self
  · rw [List.getElem?_set_ne (Ne.symm hji)] at hj
    refine h.2.2 (j, w) (List.mem_cons_of_mem _ (List.mem_filter.mpr ⟨aL_mem.mpr hj, ?_⟩))
    have h1 : ¬ (j + 1 = i ∧ w.category = 2) := by
      rintro ⟨e1, e2⟩
      subst e1
      simp only [okS, hj] at hk
      rw [e2] at hk
      exact absurd hk (by decide)
    simp only [Bool.and_eq_true, Bool.not_eq_true', beq_eq_false_iff_ne, ne_eq, Bool.and_eq_false_iff]
    refine ⟨hji, ?_⟩
    by_cases e1 : j + 1 = i
    · right; exact fun e2 => h1 ⟨e1, e2⟩
    · left; exact e1
section RU
variable {G : GG} {M : MM} {d pc pc' tgt : Nat} {L : List (Option Value)} {st : List Value} {h h' : PH} {v : Option Value}
theorem v_iconst {n : Int} {x : Int32} (hd : dn M pc (.iconst n) 1 pc') (hv : Int32.ofInt n = x) (k : Vx G M d pc' L (.int x :: st) h v h') : Vx G M d pc L st h v h' := by
  obtain ⟨hd, rfl⟩ := hd
  intro p e s m args below meth c C H locs ls hR hS hL
  exact lv_iconst C.1 C.2.1 hd hv (k p e s m args below meth c C H locs ls hR hS hL)
theorem v_bipush {n : Int} {x : Int32} (hd : dn M pc (.bipush n) 2 pc') (hv : (Int8.ofInt n).toInt32 = x) (k : Vx G M d pc' L (.int x :: st) h v h') : Vx G M d pc L st h v h' := by
  obtain ⟨hd, rfl⟩ := hd
  intro p e s m args below meth c C H locs ls hR hS hL
  exact lv_bipush C.1 C.2.1 hd hv (k p e s m args below meth c C H locs ls hR hS hL)
theorem v_sipush {n : Int} {x : Int32} (hd : dn M pc (.sipush n) 3 pc') (hv : (Int16.ofInt n).toInt32 = x) (k : Vx G M d pc' L (.int x :: st) h v h') : Vx G M d pc L st h v h' := by
  obtain ⟨hd, rfl⟩ := hd
  intro p e s m args below meth c C H locs ls hR hS hL
  exact lv_sipush C.1 C.2.1 hd hv (k p e s m args below meth c C H locs ls hR hS hL)
theorem v_lconst {n : Fin 2} {x : Int64} (hd : dn M pc (.lconst n) 1 pc') (hv : Int64.ofNat (n : Nat) = x) (k : Vx G M d pc' L (.long x :: st) h v h') : Vx G M d pc L st h v h' := by
  obtain ⟨hd, rfl⟩ := hd
  intro p e s m args below meth c C H locs ls hR hS hL
  exact lv_lconst C.1 C.2.1 hd hv (k p e s m args below meth c C H locs ls hR hS hL)
theorem v_ldc {n : Nat} {x : Int32} (hd : dn M pc (.ldc n) 2 pc') (hw : Cond.constant M.1.cls n x ∈ tb) (k : Vx G M d pc' L (.int x :: st) h v h') : Vx G M d pc L st h v h' := by
  obtain ⟨hd, rfl⟩ := hd
  intro p e s m args below meth c C H locs ls hR hS hL
  exact lv_ldc C.1 C.2.1 C.2.2.2.2.1 (C.2.2.2.2.2.1 _ hw) hd (k p e s m args below meth c C H locs ls hR hS hL)
theorem v_ldcw {n : Nat} {x : Int32} (hd : dn M pc (.ldc_w n) 3 pc') (hw : Cond.constant M.1.cls n x ∈ tb) (k : Vx G M d pc' L (.int x :: st) h v h') : Vx G M d pc L st h v h' := by
  obtain ⟨hd, rfl⟩ := hd
  intro p e s m args below meth c C H locs ls hR hS hL
  exact lv_ldcw C.1 C.2.1 C.2.2.2.2.1 (C.2.2.2.2.2.1 _ hw) hd (k p e s m args below meth c C H locs ls hR hS hL)
theorem v_ldc2 {n : Nat} {x : Int64} (hd : dn M pc (.ldc2_w n) 3 pc') (hw : Cond.constantLong M.1.cls n x ∈ tb) (k : Vx G M d pc' L (.long x :: st) h v h') : Vx G M d pc L st h v h' := by
  obtain ⟨hd, rfl⟩ := hd
  intro p e s m args below meth c C H locs ls hR hS hL
  exact lv_ldc2 C.1 C.2.1 C.2.2.2.2.1 (C.2.2.2.2.2.1 _ hw) hd (k p e s m args below meth c C H locs ls hR hS hL)
theorem v_iadd {x y : Int32} (hd : dn M pc .iadd 1 pc') (k : Vx G M d pc' L (.int (x + y) :: st) h v h') : Vx G M d pc L (.int y :: .int x :: st) h v h' := by
  obtain ⟨hd, rfl⟩ := hd
  intro p e s m args below meth c C H locs ls hR hS hL
  exact lv_iadd C.1 C.2.1 hd (k p e s m args below meth c C H locs ls hR hS hL)
theorem v_isub {x y : Int32} (hd : dn M pc .isub 1 pc') (k : Vx G M d pc' L (.int (x - y) :: st) h v h') : Vx G M d pc L (.int y :: .int x :: st) h v h' := by
  obtain ⟨hd, rfl⟩ := hd
  intro p e s m args below meth c C H locs ls hR hS hL
  exact lv_isub C.1 C.2.1 hd (k p e s m args below meth c C H locs ls hR hS hL)
theorem v_imul {x y : Int32} (hd : dn M pc .imul 1 pc') (k : Vx G M d pc' L (.int (x * y) :: st) h v h') : Vx G M d pc L (.int y :: .int x :: st) h v h' := by
  obtain ⟨hd, rfl⟩ := hd
  intro p e s m args below meth c C H locs ls hR hS hL
  exact lv_imul C.1 C.2.1 hd (k p e s m args below meth c C H locs ls hR hS hL)
theorem v_iand {x y : Int32} (hd : dn M pc .iand 1 pc') (k : Vx G M d pc' L (.int (x &&& y) :: st) h v h') : Vx G M d pc L (.int y :: .int x :: st) h v h' := by
  obtain ⟨hd, rfl⟩ := hd
  intro p e s m args below meth c C H locs ls hR hS hL
  exact lv_iand C.1 C.2.1 hd (k p e s m args below meth c C H locs ls hR hS hL)
theorem v_ior {x y : Int32} (hd : dn M pc .ior 1 pc') (k : Vx G M d pc' L (.int (x ||| y) :: st) h v h') : Vx G M d pc L (.int y :: .int x :: st) h v h' := by
  obtain ⟨hd, rfl⟩ := hd
  intro p e s m args below meth c C H locs ls hR hS hL
  exact lv_ior C.1 C.2.1 hd (k p e s m args below meth c C H locs ls hR hS hL)
theorem v_ixor {x y : Int32} (hd : dn M pc .ixor 1 pc') (k : Vx G M d pc' L (.int (x ^^^ y) :: st) h v h') : Vx G M d pc L (.int y :: .int x :: st) h v h' := by
  obtain ⟨hd, rfl⟩ := hd
  intro p e s m args below meth c C H locs ls hR hS hL
  exact lv_ixor C.1 C.2.1 hd (k p e s m args below meth c C H locs ls hR hS hL)
theorem v_ishl {x y : Int32} (hd : dn M pc .ishl 1 pc') (k : Vx G M d pc' L (.int (x <<< (y &&& 31)) :: st) h v h') : Vx G M d pc L (.int y :: .int x :: st) h v h' := by
  obtain ⟨hd, rfl⟩ := hd
  intro p e s m args below meth c C H locs ls hR hS hL
  exact lv_ishl C.1 C.2.1 hd (k p e s m args below meth c C H locs ls hR hS hL)
theorem v_ishr {x y : Int32} (hd : dn M pc .ishr 1 pc') (k : Vx G M d pc' L (.int (x >>> (y &&& 31)) :: st) h v h') : Vx G M d pc L (.int y :: .int x :: st) h v h' := by
  obtain ⟨hd, rfl⟩ := hd
  intro p e s m args below meth c C H locs ls hR hS hL
  exact lv_ishr C.1 C.2.1 hd (k p e s m args below meth c C H locs ls hR hS hL)
def ushr (x y : Int32) : Int32 := (x.toUInt32 >>> (y.toUInt32 &&& Int32.toUInt32 31)).toInt32
theorem v_iushr {x y : Int32} (hd : dn M pc .iushr 1 pc') (k : Vx G M d pc' L (.int (ushr x y) :: st) h v h') : Vx G M d pc L (.int y :: .int x :: st) h v h' := by
  obtain ⟨hd, rfl⟩ := hd
  intro p e s m args below meth c C H locs ls hR hS hL
  exact lv_iushr C.1 C.2.1 hd rfl (k p e s m args below meth c C H locs ls hR hS hL)
def i2c (x : Int32) : Int32 := (x.toUInt32 % 65536).toInt32
def i2b (x : Int32) : Int32 := x.toInt8.toInt32
theorem v_i2b {x : Int32} (hd : dn M pc .i2b 1 pc') (k : Vx G M d pc' L (.int (i2b x) :: st) h v h') : Vx G M d pc L (.int x :: st) h v h' := by
  obtain ⟨hd, rfl⟩ := hd
  intro p e s m args below meth c C H locs ls hR hS hL
  exact lv_i2b C.1 C.2.1 hd rfl (k p e s m args below meth c C H locs ls hR hS hL)
theorem v_i2c {x : Int32} (hd : dn M pc .i2c 1 pc') (k : Vx G M d pc' L (.int (i2c x) :: st) h v h') : Vx G M d pc L (.int x :: st) h v h' := by
  obtain ⟨hd, rfl⟩ := hd
  intro p e s m args below meth c C H locs ls hR hS hL
  exact lv_i2c C.1 C.2.1 hd rfl (k p e s m args below meth c C H locs ls hR hS hL)
theorem v_ineg {x : Int32} (hd : dn M pc .ineg 1 pc') (k : Vx G M d pc' L (.int (-x) :: st) h v h') : Vx G M d pc L (.int x :: st) h v h' := by
  obtain ⟨hd, rfl⟩ := hd
  intro p e s m args below meth c C H locs ls hR hS hL
  exact lv_ineg C.1 C.2.1 hd (k p e s m args below meth c C H locs ls hR hS hL)
def irm (x y : Int32) : Int32 := x - x / y * y
theorem v_idiv {x y : Int32} (hd : dn M pc .idiv 1 pc') (hne : ¬ y = 0) (k : Vx G M d pc' L (.int (x / y) :: st) h v h') : Vx G M d pc L (.int y :: .int x :: st) h v h' := by
  obtain ⟨hd, rfl⟩ := hd
  intro p e s m args below meth c C H locs ls hR hS hL
  exact lv_idiv C.1 C.2.1 hd hne (k p e s m args below meth c C H locs ls hR hS hL)
theorem v_irem {x y : Int32} (hd : dn M pc .irem 1 pc') (hne : ¬ y = 0) (k : Vx G M d pc' L (.int (irm x y) :: st) h v h') : Vx G M d pc L (.int y :: .int x :: st) h v h' := by
  obtain ⟨hd, rfl⟩ := hd
  intro p e s m args below meth c C H locs ls hR hS hL
  exact lv_irem C.1 C.2.1 hd hne (k p e s m args below meth c C H locs ls hR hS hL)
theorem v_land {x y : Int64} (hd : dn M pc .land 1 pc') (k : Vx G M d pc' L (.long (x &&& y) :: st) h v h') : Vx G M d pc L (.long y :: .long x :: st) h v h' := by
  obtain ⟨hd, rfl⟩ := hd
  intro p e s m args below meth c C H locs ls hR hS hL
  exact lv_land C.1 C.2.1 hd (k p e s m args below meth c C H locs ls hR hS hL)
theorem v_lor {x y : Int64} (hd : dn M pc .lor 1 pc') (k : Vx G M d pc' L (.long (x ||| y) :: st) h v h') : Vx G M d pc L (.long y :: .long x :: st) h v h' := by
  obtain ⟨hd, rfl⟩ := hd
  intro p e s m args below meth c C H locs ls hR hS hL
  exact lv_lor C.1 C.2.1 hd (k p e s m args below meth c C H locs ls hR hS hL)
theorem v_lshl {x : Int64} {y : Int32} (hd : dn M pc .lshl 1 pc') (k : Vx G M d pc' L (.long (x <<< (y.toInt64 &&& 63)) :: st) h v h') : Vx G M d pc L (.int y :: .long x :: st) h v h' := by
  obtain ⟨hd, rfl⟩ := hd
  intro p e s m args below meth c C H locs ls hR hS hL
  exact lv_lshl C.1 C.2.1 hd rfl (k p e s m args below meth c C H locs ls hR hS hL)
theorem v_lshr {x : Int64} {y : Int32} (hd : dn M pc .lshr 1 pc') (k : Vx G M d pc' L (.long (x >>> (y.toInt64 &&& 63)) :: st) h v h') : Vx G M d pc L (.int y :: .long x :: st) h v h' := by
  obtain ⟨hd, rfl⟩ := hd
  intro p e s m args below meth c C H locs ls hR hS hL
  exact lv_lshr C.1 C.2.1 hd rfl (k p e s m args below meth c C H locs ls hR hS hL)
theorem v_dup {w : Value} (hd : dn M pc .dup 1 pc') (hw : w.category = 1) (k : Vx G M d pc' L (w :: w :: st) h v h') : Vx G M d pc L (w :: st) h v h' := by
  obtain ⟨hd, rfl⟩ := hd
  intro p e s m args below meth c C H locs ls hR hS hL
  exact lv_dup C.1 C.2.1 hd hw (k p e s m args below meth c C H locs ls hR hS hL)
theorem v_dup2 {w u : Value} (hd : dn M pc .dup2 1 pc') (hw : w.category = 1) (hu : u.category = 1) (k : Vx G M d pc' L (w :: u :: w :: u :: st) h v h') : Vx G M d pc L (w :: u :: st) h v h' := by
  obtain ⟨hd, rfl⟩ := hd
  intro p e s m args below meth c C H locs ls hR hS hL
  exact lv_dup2_11 C.1 C.2.1 hd hw hu (k p e s m args below meth c C H locs ls hR hS hL)
theorem v_pop {w : Value} (hd : dn M pc .pop 1 pc') (hw : w.category = 1) (k : Vx G M d pc' L st h v h') : Vx G M d pc L (w :: st) h v h' := by
  obtain ⟨hd, rfl⟩ := hd
  intro p e s m args below meth c C H locs ls hR hS hL
  exact lv_pop C.1 C.2.1 hd hw (k p e s m args below meth c C H locs ls hR hS hL)
theorem v_if_eq {x : Int32} (hd : db M pc (.ifCond .eq) tgt pc') (kt : x = 0 → Vx G M d tgt L st h v h') (kf : ¬ (x = 0) → Vx G M d pc' L st h v h') : Vx G M d pc L (.int x :: st) h v h' := by
  obtain ⟨off, hd, ht, rfl⟩ := hd
  intro p e s m args below meth c C H locs ls hR hS hL
  exact lv_if_eq C.1 C.2.1 hd ht (fun q => kt q p e s m args below meth c C H locs ls hR hS hL) (fun q => kf q p e s m args below meth c C H locs ls hR hS hL)
theorem v_cmp_eq {x y : Int32} (hd : db M pc (.if_icmp .eq) tgt pc') (kt : x = y → Vx G M d tgt L st h v h') (kf : ¬ (x = y) → Vx G M d pc' L st h v h') : Vx G M d pc L (.int y :: .int x :: st) h v h' := by
  obtain ⟨off, hd, ht, rfl⟩ := hd
  intro p e s m args below meth c C H locs ls hR hS hL
  exact lv_icmp_eq C.1 C.2.1 hd ht (fun q => kt q p e s m args below meth c C H locs ls hR hS hL) (fun q => kf q p e s m args below meth c C H locs ls hR hS hL)
theorem v_if_lt {x : Int32} (hd : db M pc (.ifCond .lt) tgt pc') (kt : x < 0 → Vx G M d tgt L st h v h') (kf : ¬ (x < 0) → Vx G M d pc' L st h v h') : Vx G M d pc L (.int x :: st) h v h' := by
  obtain ⟨off, hd, ht, rfl⟩ := hd
  intro p e s m args below meth c C H locs ls hR hS hL
  exact lv_if_lt C.1 C.2.1 hd ht (fun q => kt q p e s m args below meth c C H locs ls hR hS hL) (fun q => kf q p e s m args below meth c C H locs ls hR hS hL)
theorem v_cmp_lt {x y : Int32} (hd : db M pc (.if_icmp .lt) tgt pc') (kt : x < y → Vx G M d tgt L st h v h') (kf : ¬ (x < y) → Vx G M d pc' L st h v h') : Vx G M d pc L (.int y :: .int x :: st) h v h' := by
  obtain ⟨off, hd, ht, rfl⟩ := hd
  intro p e s m args below meth c C H locs ls hR hS hL
  exact lv_icmp_lt C.1 C.2.1 hd ht (fun q => kt q p e s m args below meth c C H locs ls hR hS hL) (fun q => kf q p e s m args below meth c C H locs ls hR hS hL)
theorem v_if_ge {x : Int32} (hd : db M pc (.ifCond .ge) tgt pc') (kt : 0 ≤ x → Vx G M d tgt L st h v h') (kf : ¬ (0 ≤ x) → Vx G M d pc' L st h v h') : Vx G M d pc L (.int x :: st) h v h' := by
  obtain ⟨off, hd, ht, rfl⟩ := hd
  intro p e s m args below meth c C H locs ls hR hS hL
  exact lv_if_ge C.1 C.2.1 hd ht (fun q => kt q p e s m args below meth c C H locs ls hR hS hL) (fun q => kf q p e s m args below meth c C H locs ls hR hS hL)
theorem v_cmp_ge {x y : Int32} (hd : db M pc (.if_icmp .ge) tgt pc') (kt : y ≤ x → Vx G M d tgt L st h v h') (kf : ¬ (y ≤ x) → Vx G M d pc' L st h v h') : Vx G M d pc L (.int y :: .int x :: st) h v h' := by
  obtain ⟨off, hd, ht, rfl⟩ := hd
  intro p e s m args below meth c C H locs ls hR hS hL
  exact lv_icmp_ge C.1 C.2.1 hd ht (fun q => kt q p e s m args below meth c C H locs ls hR hS hL) (fun q => kf q p e s m args below meth c C H locs ls hR hS hL)
theorem v_if_gt {x : Int32} (hd : db M pc (.ifCond .gt) tgt pc') (kt : 0 < x → Vx G M d tgt L st h v h') (kf : ¬ (0 < x) → Vx G M d pc' L st h v h') : Vx G M d pc L (.int x :: st) h v h' := by
  obtain ⟨off, hd, ht, rfl⟩ := hd
  intro p e s m args below meth c C H locs ls hR hS hL
  exact lv_if_gt C.1 C.2.1 hd ht (fun q => kt q p e s m args below meth c C H locs ls hR hS hL) (fun q => kf q p e s m args below meth c C H locs ls hR hS hL)
theorem v_cmp_gt {x y : Int32} (hd : db M pc (.if_icmp .gt) tgt pc') (kt : y < x → Vx G M d tgt L st h v h') (kf : ¬ (y < x) → Vx G M d pc' L st h v h') : Vx G M d pc L (.int y :: .int x :: st) h v h' := by
  obtain ⟨off, hd, ht, rfl⟩ := hd
  intro p e s m args below meth c C H locs ls hR hS hL
  exact lv_icmp_gt C.1 C.2.1 hd ht (fun q => kt q p e s m args below meth c C H locs ls hR hS hL) (fun q => kf q p e s m args below meth c C H locs ls hR hS hL)
theorem v_if_le {x : Int32} (hd : db M pc (.ifCond .le) tgt pc') (kt : x ≤ 0 → Vx G M d tgt L st h v h') (kf : ¬ (x ≤ 0) → Vx G M d pc' L st h v h') : Vx G M d pc L (.int x :: st) h v h' := by
  obtain ⟨off, hd, ht, rfl⟩ := hd
  intro p e s m args below meth c C H locs ls hR hS hL
  exact lv_if_le C.1 C.2.1 hd ht (fun q => kt q p e s m args below meth c C H locs ls hR hS hL) (fun q => kf q p e s m args below meth c C H locs ls hR hS hL)
theorem v_cmp_le {x y : Int32} (hd : db M pc (.if_icmp .le) tgt pc') (kt : x ≤ y → Vx G M d tgt L st h v h') (kf : ¬ (x ≤ y) → Vx G M d pc' L st h v h') : Vx G M d pc L (.int y :: .int x :: st) h v h' := by
  obtain ⟨off, hd, ht, rfl⟩ := hd
  intro p e s m args below meth c C H locs ls hR hS hL
  exact lv_icmp_le C.1 C.2.1 hd ht (fun q => kt q p e s m args below meth c C H locs ls hR hS hL) (fun q => kf q p e s m args below meth c C H locs ls hR hS hL)
theorem v_if_ne {x : Int32} (hd : db M pc (.ifCond .ne) tgt pc') (kf : x = 0 → Vx G M d pc' L st h v h') (kt : ¬ (x = 0) → Vx G M d tgt L st h v h') : Vx G M d pc L (.int x :: st) h v h' := by
  obtain ⟨off, hd, ht, rfl⟩ := hd
  intro p e s m args below meth c C H locs ls hR hS hL
  exact lv_if_ne C.1 C.2.1 hd ht (fun q => kt q p e s m args below meth c C H locs ls hR hS hL) (fun q => kf q p e s m args below meth c C H locs ls hR hS hL)
theorem v_cmp_ne {x y : Int32} (hd : db M pc (.if_icmp .ne) tgt pc') (kf : x = y → Vx G M d pc' L st h v h') (kt : ¬ (x = y) → Vx G M d tgt L st h v h') : Vx G M d pc L (.int y :: .int x :: st) h v h' := by
  obtain ⟨off, hd, ht, rfl⟩ := hd
  intro p e s m args below meth c C H locs ls hR hS hL
  exact lv_icmp_ne C.1 C.2.1 hd ht (fun q => kt q p e s m args below meth c C H locs ls hR hS hL) (fun q => kf q p e s m args below meth c C H locs ls hR hS hL)
theorem v_goto (hd : db M pc .goto tgt pc') (k : Vx G M d tgt L st h v h') : Vx G M d pc L st h v h' := by
  obtain ⟨off, hd, ht, rfl⟩ := hd
  intro p e s m args below meth c C H locs ls hR hS hL
  exact lv_goto C.1 C.2.1 hd ht (k p e s m args below meth c C H locs ls hR hS hL)
theorem v_iload {i : Nat} {x : Int32} (hd : dl M pc .iload_n .iload i pc') (hl : L[i]? = some (some (.int x))) (k : Vx G M d pc' L (.int x :: st) h v h') : Vx G M d pc L st h v h' := by
  intro p e s m args below meth c C H locs ls hR hS hL
  rcases hd with ⟨k0, hd, e1, rfl⟩ | ⟨hd, rfl⟩
  · exact lv_iload_n C.1 C.2.1 hd e1 (hL.2.2 i _ hl) (k p e s m args below meth c C H locs ls hR hS hL)
  · exact lv_iload C.1 C.2.1 hd (hL.2.2 i _ hl) (k p e s m args below meth c C H locs ls hR hS hL)
theorem v_aload {i : Nat} {x : Nat} (hd : dl M pc .aload_n .aload i pc') (hl : L[i]? = some (some (.ref x))) (k : Vx G M d pc' L (.ref x :: st) h v h') : Vx G M d pc L st h v h' := by
  intro p e s m args below meth c C H locs ls hR hS hL
  rcases hd with ⟨k0, hd, e1, rfl⟩ | ⟨hd, rfl⟩
  · exact lv_aload_n C.1 C.2.1 hd e1 (hL.2.2 i _ hl) (k p e s m args below meth c C H locs ls hR hS hL)
  · exact lv_aload C.1 C.2.1 hd (hL.2.2 i _ hl) (k p e s m args below meth c C H locs ls hR hS hL)
theorem v_lload {i : Nat} {x : Int64} (hd : dl M pc .lload_n .lload i pc') (hl : L[i]? = some (some (.long x))) (k : Vx G M d pc' L (.long x :: st) h v h') : Vx G M d pc L st h v h' := by
  intro p e s m args below meth c C H locs ls hR hS hL
  rcases hd with ⟨k0, hd, e1, rfl⟩ | ⟨hd, rfl⟩
  · exact lv_lload_n C.1 C.2.1 hd e1 (hL.2.2 i _ hl) (k p e s m args below meth c C H locs ls hR hS hL)
  · exact lv_lload C.1 C.2.1 hd (hL.2.2 i _ hl) (k p e s m args below meth c C H locs ls hR hS hL)
theorem v_istore {i : Nat} {x : Int32} (hd : dl M pc .istore_n .istore i pc') (hn : i < M.2.2.1) (hk : okS L i = true) (k : Vx G M d pc' (L.set i (some (.int x))) st h v h') : Vx G M d pc L (.int x :: st) h v h' := by
  intro p e s m args below meth c C H locs ls hR hS hL
  rcases hd with ⟨k0, hd, e1, rfl⟩ | ⟨hd, rfl⟩
  · exact lv_istore_n C.1 C.2.1 hd e1 hL.has hn rfl (fun ls' hl' => k p e s m args below meth c C H locs ls' hR hS (LV.of hl' hk))
  · exact lv_istore C.1 C.2.1 hd hL.has hn rfl (fun ls' hl' => k p e s m args below meth c C H locs ls' hR hS (LV.of hl' hk))
theorem v_astore {i : Nat} {x : Nat} (hd : dl M pc .astore_n .astore i pc') (hn : i < M.2.2.1) (hk : okS L i = true) (k : Vx G M d pc' (L.set i (some (.ref x))) st h v h') : Vx G M d pc L (.ref x :: st) h v h' := by
  intro p e s m args below meth c C H locs ls hR hS hL
  rcases hd with ⟨k0, hd, e1, rfl⟩ | ⟨hd, rfl⟩
  · exact lv_astore_n C.1 C.2.1 hd e1 hL.has hn rfl (fun ls' hl' => k p e s m args below meth c C H locs ls' hR hS (LV.of hl' hk))
  · exact lv_astore C.1 C.2.1 hd hL.has hn rfl (fun ls' hl' => k p e s m args below meth c C H locs ls' hR hS (LV.of hl' hk))
theorem v_iinc {i : Nat} {n : Int} {x y : Int32} (hd : dn M pc (.iinc i n) 3 pc') (hl : L[i]? = some (some (.int x))) (hy : x + Int32.ofInt n = y) (hn : i < M.2.2.1) (hk : okS L i = true) (k : Vx G M d pc' (L.set i (some (.int y))) st h v h') : Vx G M d pc L st h v h' := by
  obtain ⟨hd, rfl⟩ := hd
  intro p e s m args below meth c C H locs ls hR hS hL
  obtain ⟨j, hj⟩ := List.getElem?_of_mem (aL_mem.mpr hl)
  exact lv_iinc C.1 C.2.1 hd hL.has hj hy hn rfl (fun ls' hl' => k p e s m args below meth c C H locs ls' hR hS (LV.of hl' hk))
theorem v_ild_0 {t : List (Option Value)} {x : Int32} (hd : dl M pc .iload_n .iload 0 pc') (k : Vx G M d pc' (some (.int x) :: t) (.int x :: st) h v h') : Vx G M d pc (some (.int x) :: t) st h v h' := v_iload hd rfl k
theorem v_ald_0 {t : List (Option Value)} {x : Nat} (hd : dl M pc .aload_n .aload 0 pc') (k : Vx G M d pc' (some (.ref x) :: t) (.ref x :: st) h v h') : Vx G M d pc (some (.ref x) :: t) st h v h' := v_aload hd rfl k
theorem v_ist_0 {a0 : Option Value} {t : List (Option Value)} {x : Int32} (hd : dl M pc .istore_n .istore 0 pc') (hn : 0 < M.2.2.1) (hk : okS (a0 :: t) 0 = true) (k : Vx G M d pc' (some (.int x) :: t) st h v h') : Vx G M d pc (a0 :: t) (.int x :: st) h v h' := v_istore hd hn hk k
theorem v_ast_0 {a0 : Option Value} {t : List (Option Value)} {x : Nat} (hd : dl M pc .astore_n .astore 0 pc') (hn : 0 < M.2.2.1) (hk : okS (a0 :: t) 0 = true) (k : Vx G M d pc' (some (.ref x) :: t) st h v h') : Vx G M d pc (a0 :: t) (.ref x :: st) h v h' := v_astore hd hn hk k
theorem v_inc_0 {t : List (Option Value)} {n : Int} {x : Int32} (y : Int32) (hd : dn M pc (.iinc 0 n) 3 pc') (hy : Int32.ofInt n = y) (hn : 0 < M.2.2.1) (hk : okS (some (.int x) :: t) 0 = true) (k : Vx G M d pc' (some (.int (x + y)) :: t) st h v h') : Vx G M d pc (some (.int x) :: t) st h v h' := v_iinc hd rfl (by rw [hy]) hn hk k
theorem v_ild_1 {a0 : Option Value} {t : List (Option Value)} {x : Int32} (hd : dl M pc .iload_n .iload 1 pc') (k : Vx G M d pc' (a0 :: some (.int x) :: t) (.int x :: st) h v h') : Vx G M d pc (a0 :: some (.int x) :: t) st h v h' := v_iload hd rfl k
theorem v_ald_1 {a0 : Option Value} {t : List (Option Value)} {x : Nat} (hd : dl M pc .aload_n .aload 1 pc') (k : Vx G M d pc' (a0 :: some (.ref x) :: t) (.ref x :: st) h v h') : Vx G M d pc (a0 :: some (.ref x) :: t) st h v h' := v_aload hd rfl k
theorem v_ist_1 {a0 a1 : Option Value} {t : List (Option Value)} {x : Int32} (hd : dl M pc .istore_n .istore 1 pc') (hn : 1 < M.2.2.1) (hk : okS (a0 :: a1 :: t) 1 = true) (k : Vx G M d pc' (a0 :: some (.int x) :: t) st h v h') : Vx G M d pc (a0 :: a1 :: t) (.int x :: st) h v h' := v_istore hd hn hk k
theorem v_ast_1 {a0 a1 : Option Value} {t : List (Option Value)} {x : Nat} (hd : dl M pc .astore_n .astore 1 pc') (hn : 1 < M.2.2.1) (hk : okS (a0 :: a1 :: t) 1 = true) (k : Vx G M d pc' (a0 :: some (.ref x) :: t) st h v h') : Vx G M d pc (a0 :: a1 :: t) (.ref x :: st) h v h' := v_astore hd hn hk k
theorem v_inc_1 {a0 : Option Value} {t : List (Option Value)} {n : Int} {x : Int32} (y : Int32) (hd : dn M pc (.iinc 1 n) 3 pc') (hy : Int32.ofInt n = y) (hn : 1 < M.2.2.1) (hk : okS (a0 :: some (.int x) :: t) 1 = true) (k : Vx G M d pc' (a0 :: some (.int (x + y)) :: t) st h v h') : Vx G M d pc (a0 :: some (.int x) :: t) st h v h' := v_iinc hd rfl (by rw [hy]) hn hk k
theorem v_ild_2 {a0 a1 : Option Value} {t : List (Option Value)} {x : Int32} (hd : dl M pc .iload_n .iload 2 pc') (k : Vx G M d pc' (a0 :: a1 :: some (.int x) :: t) (.int x :: st) h v h') : Vx G M d pc (a0 :: a1 :: some (.int x) :: t) st h v h' := v_iload hd rfl k
theorem v_ald_2 {a0 a1 : Option Value} {t : List (Option Value)} {x : Nat} (hd : dl M pc .aload_n .aload 2 pc') (k : Vx G M d pc' (a0 :: a1 :: some (.ref x) :: t) (.ref x :: st) h v h') : Vx G M d pc (a0 :: a1 :: some (.ref x) :: t) st h v h' := v_aload hd rfl k
theorem v_ist_2 {a0 a1 a2 : Option Value} {t : List (Option Value)} {x : Int32} (hd : dl M pc .istore_n .istore 2 pc') (hn : 2 < M.2.2.1) (hk : okS (a0 :: a1 :: a2 :: t) 2 = true) (k : Vx G M d pc' (a0 :: a1 :: some (.int x) :: t) st h v h') : Vx G M d pc (a0 :: a1 :: a2 :: t) (.int x :: st) h v h' := v_istore hd hn hk k
theorem v_ast_2 {a0 a1 a2 : Option Value} {t : List (Option Value)} {x : Nat} (hd : dl M pc .astore_n .astore 2 pc') (hn : 2 < M.2.2.1) (hk : okS (a0 :: a1 :: a2 :: t) 2 = true) (k : Vx G M d pc' (a0 :: a1 :: some (.ref x) :: t) st h v h') : Vx G M d pc (a0 :: a1 :: a2 :: t) (.ref x :: st) h v h' := v_astore hd hn hk k
theorem v_inc_2 {a0 a1 : Option Value} {t : List (Option Value)} {n : Int} {x : Int32} (y : Int32) (hd : dn M pc (.iinc 2 n) 3 pc') (hy : Int32.ofInt n = y) (hn : 2 < M.2.2.1) (hk : okS (a0 :: a1 :: some (.int x) :: t) 2 = true) (k : Vx G M d pc' (a0 :: a1 :: some (.int (x + y)) :: t) st h v h') : Vx G M d pc (a0 :: a1 :: some (.int x) :: t) st h v h' := v_iinc hd rfl (by rw [hy]) hn hk k
theorem v_ild_3 {a0 a1 a2 : Option Value} {t : List (Option Value)} {x : Int32} (hd : dl M pc .iload_n .iload 3 pc') (k : Vx G M d pc' (a0 :: a1 :: a2 :: some (.int x) :: t) (.int x :: st) h v h') : Vx G M d pc (a0 :: a1 :: a2 :: some (.int x) :: t) st h v h' := v_iload hd rfl k
theorem v_ald_3 {a0 a1 a2 : Option Value} {t : List (Option Value)} {x : Nat} (hd : dl M pc .aload_n .aload 3 pc') (k : Vx G M d pc' (a0 :: a1 :: a2 :: some (.ref x) :: t) (.ref x :: st) h v h') : Vx G M d pc (a0 :: a1 :: a2 :: some (.ref x) :: t) st h v h' := v_aload hd rfl k
theorem v_ist_3 {a0 a1 a2 a3 : Option Value} {t : List (Option Value)} {x : Int32} (hd : dl M pc .istore_n .istore 3 pc') (hn : 3 < M.2.2.1) (hk : okS (a0 :: a1 :: a2 :: a3 :: t) 3 = true) (k : Vx G M d pc' (a0 :: a1 :: a2 :: some (.int x) :: t) st h v h') : Vx G M d pc (a0 :: a1 :: a2 :: a3 :: t) (.int x :: st) h v h' := v_istore hd hn hk k
theorem v_ast_3 {a0 a1 a2 a3 : Option Value} {t : List (Option Value)} {x : Nat} (hd : dl M pc .astore_n .astore 3 pc') (hn : 3 < M.2.2.1) (hk : okS (a0 :: a1 :: a2 :: a3 :: t) 3 = true) (k : Vx G M d pc' (a0 :: a1 :: a2 :: some (.ref x) :: t) st h v h') : Vx G M d pc (a0 :: a1 :: a2 :: a3 :: t) (.ref x :: st) h v h' := v_astore hd hn hk k
theorem v_inc_3 {a0 a1 a2 : Option Value} {t : List (Option Value)} {n : Int} {x : Int32} (y : Int32) (hd : dn M pc (.iinc 3 n) 3 pc') (hy : Int32.ofInt n = y) (hn : 3 < M.2.2.1) (hk : okS (a0 :: a1 :: a2 :: some (.int x) :: t) 3 = true) (k : Vx G M d pc' (a0 :: a1 :: a2 :: some (.int (x + y)) :: t) st h v h') : Vx G M d pc (a0 :: a1 :: a2 :: some (.int x) :: t) st h v h' := v_iinc hd rfl (by rw [hy]) hn hk k
theorem v_ild_4 {a0 a1 a2 a3 : Option Value} {t : List (Option Value)} {x : Int32} (hd : dl M pc .iload_n .iload 4 pc') (k : Vx G M d pc' (a0 :: a1 :: a2 :: a3 :: some (.int x) :: t) (.int x :: st) h v h') : Vx G M d pc (a0 :: a1 :: a2 :: a3 :: some (.int x) :: t) st h v h' := v_iload hd rfl k
theorem v_ald_4 {a0 a1 a2 a3 : Option Value} {t : List (Option Value)} {x : Nat} (hd : dl M pc .aload_n .aload 4 pc') (k : Vx G M d pc' (a0 :: a1 :: a2 :: a3 :: some (.ref x) :: t) (.ref x :: st) h v h') : Vx G M d pc (a0 :: a1 :: a2 :: a3 :: some (.ref x) :: t) st h v h' := v_aload hd rfl k
theorem v_ist_4 {a0 a1 a2 a3 a4 : Option Value} {t : List (Option Value)} {x : Int32} (hd : dl M pc .istore_n .istore 4 pc') (hn : 4 < M.2.2.1) (hk : okS (a0 :: a1 :: a2 :: a3 :: a4 :: t) 4 = true) (k : Vx G M d pc' (a0 :: a1 :: a2 :: a3 :: some (.int x) :: t) st h v h') : Vx G M d pc (a0 :: a1 :: a2 :: a3 :: a4 :: t) (.int x :: st) h v h' := v_istore hd hn hk k
theorem v_ast_4 {a0 a1 a2 a3 a4 : Option Value} {t : List (Option Value)} {x : Nat} (hd : dl M pc .astore_n .astore 4 pc') (hn : 4 < M.2.2.1) (hk : okS (a0 :: a1 :: a2 :: a3 :: a4 :: t) 4 = true) (k : Vx G M d pc' (a0 :: a1 :: a2 :: a3 :: some (.ref x) :: t) st h v h') : Vx G M d pc (a0 :: a1 :: a2 :: a3 :: a4 :: t) (.ref x :: st) h v h' := v_astore hd hn hk k
theorem v_inc_4 {a0 a1 a2 a3 : Option Value} {t : List (Option Value)} {n : Int} {x : Int32} (y : Int32) (hd : dn M pc (.iinc 4 n) 3 pc') (hy : Int32.ofInt n = y) (hn : 4 < M.2.2.1) (hk : okS (a0 :: a1 :: a2 :: a3 :: some (.int x) :: t) 4 = true) (k : Vx G M d pc' (a0 :: a1 :: a2 :: a3 :: some (.int (x + y)) :: t) st h v h') : Vx G M d pc (a0 :: a1 :: a2 :: a3 :: some (.int x) :: t) st h v h' := v_iinc hd rfl (by rw [hy]) hn hk k
theorem v_ild_5 {a0 a1 a2 a3 a4 : Option Value} {t : List (Option Value)} {x : Int32} (hd : dl M pc .iload_n .iload 5 pc') (k : Vx G M d pc' (a0 :: a1 :: a2 :: a3 :: a4 :: some (.int x) :: t) (.int x :: st) h v h') : Vx G M d pc (a0 :: a1 :: a2 :: a3 :: a4 :: some (.int x) :: t) st h v h' := v_iload hd rfl k
theorem v_ald_5 {a0 a1 a2 a3 a4 : Option Value} {t : List (Option Value)} {x : Nat} (hd : dl M pc .aload_n .aload 5 pc') (k : Vx G M d pc' (a0 :: a1 :: a2 :: a3 :: a4 :: some (.ref x) :: t) (.ref x :: st) h v h') : Vx G M d pc (a0 :: a1 :: a2 :: a3 :: a4 :: some (.ref x) :: t) st h v h' := v_aload hd rfl k
theorem v_ist_5 {a0 a1 a2 a3 a4 a5 : Option Value} {t : List (Option Value)} {x : Int32} (hd : dl M pc .istore_n .istore 5 pc') (hn : 5 < M.2.2.1) (hk : okS (a0 :: a1 :: a2 :: a3 :: a4 :: a5 :: t) 5 = true) (k : Vx G M d pc' (a0 :: a1 :: a2 :: a3 :: a4 :: some (.int x) :: t) st h v h') : Vx G M d pc (a0 :: a1 :: a2 :: a3 :: a4 :: a5 :: t) (.int x :: st) h v h' := v_istore hd hn hk k
theorem v_ast_5 {a0 a1 a2 a3 a4 a5 : Option Value} {t : List (Option Value)} {x : Nat} (hd : dl M pc .astore_n .astore 5 pc') (hn : 5 < M.2.2.1) (hk : okS (a0 :: a1 :: a2 :: a3 :: a4 :: a5 :: t) 5 = true) (k : Vx G M d pc' (a0 :: a1 :: a2 :: a3 :: a4 :: some (.ref x) :: t) st h v h') : Vx G M d pc (a0 :: a1 :: a2 :: a3 :: a4 :: a5 :: t) (.ref x :: st) h v h' := v_astore hd hn hk k
theorem v_inc_5 {a0 a1 a2 a3 a4 : Option Value} {t : List (Option Value)} {n : Int} {x : Int32} (y : Int32) (hd : dn M pc (.iinc 5 n) 3 pc') (hy : Int32.ofInt n = y) (hn : 5 < M.2.2.1) (hk : okS (a0 :: a1 :: a2 :: a3 :: a4 :: some (.int x) :: t) 5 = true) (k : Vx G M d pc' (a0 :: a1 :: a2 :: a3 :: a4 :: some (.int (x + y)) :: t) st h v h') : Vx G M d pc (a0 :: a1 :: a2 :: a3 :: a4 :: some (.int x) :: t) st h v h' := v_iinc hd rfl (by rw [hy]) hn hk k
theorem v_ild_6 {a0 a1 a2 a3 a4 a5 : Option Value} {t : List (Option Value)} {x : Int32} (hd : dl M pc .iload_n .iload 6 pc') (k : Vx G M d pc' (a0 :: a1 :: a2 :: a3 :: a4 :: a5 :: some (.int x) :: t) (.int x :: st) h v h') : Vx G M d pc (a0 :: a1 :: a2 :: a3 :: a4 :: a5 :: some (.int x) :: t) st h v h' := v_iload hd rfl k
theorem v_ald_6 {a0 a1 a2 a3 a4 a5 : Option Value} {t : List (Option Value)} {x : Nat} (hd : dl M pc .aload_n .aload 6 pc') (k : Vx G M d pc' (a0 :: a1 :: a2 :: a3 :: a4 :: a5 :: some (.ref x) :: t) (.ref x :: st) h v h') : Vx G M d pc (a0 :: a1 :: a2 :: a3 :: a4 :: a5 :: some (.ref x) :: t) st h v h' := v_aload hd rfl k
theorem v_ist_6 {a0 a1 a2 a3 a4 a5 a6 : Option Value} {t : List (Option Value)} {x : Int32} (hd : dl M pc .istore_n .istore 6 pc') (hn : 6 < M.2.2.1) (hk : okS (a0 :: a1 :: a2 :: a3 :: a4 :: a5 :: a6 :: t) 6 = true) (k : Vx G M d pc' (a0 :: a1 :: a2 :: a3 :: a4 :: a5 :: some (.int x) :: t) st h v h') : Vx G M d pc (a0 :: a1 :: a2 :: a3 :: a4 :: a5 :: a6 :: t) (.int x :: st) h v h' := v_istore hd hn hk k
theorem v_ast_6 {a0 a1 a2 a3 a4 a5 a6 : Option Value} {t : List (Option Value)} {x : Nat} (hd : dl M pc .astore_n .astore 6 pc') (hn : 6 < M.2.2.1) (hk : okS (a0 :: a1 :: a2 :: a3 :: a4 :: a5 :: a6 :: t) 6 = true) (k : Vx G M d pc' (a0 :: a1 :: a2 :: a3 :: a4 :: a5 :: some (.ref x) :: t) st h v h') : Vx G M d pc (a0 :: a1 :: a2 :: a3 :: a4 :: a5 :: a6 :: t) (.ref x :: st) h v h' := v_astore hd hn hk k
theorem v_inc_6 {a0 a1 a2 a3 a4 a5 : Option Value} {t : List (Option Value)} {n : Int} {x : Int32} (y : Int32) (hd : dn M pc (.iinc 6 n) 3 pc') (hy : Int32.ofInt n = y) (hn : 6 < M.2.2.1) (hk : okS (a0 :: a1 :: a2 :: a3 :: a4 :: a5 :: some (.int x) :: t) 6 = true) (k : Vx G M d pc' (a0 :: a1 :: a2 :: a3 :: a4 :: a5 :: some (.int (x + y)) :: t) st h v h') : Vx G M d pc (a0 :: a1 :: a2 :: a3 :: a4 :: a5 :: some (.int x) :: t) st h v h' := v_iinc hd rfl (by rw [hy]) hn hk k
theorem v_ild_7 {a0 a1 a2 a3 a4 a5 a6 : Option Value} {t : List (Option Value)} {x : Int32} (hd : dl M pc .iload_n .iload 7 pc') (k : Vx G M d pc' (a0 :: a1 :: a2 :: a3 :: a4 :: a5 :: a6 :: some (.int x) :: t) (.int x :: st) h v h') : Vx G M d pc (a0 :: a1 :: a2 :: a3 :: a4 :: a5 :: a6 :: some (.int x) :: t) st h v h' := v_iload hd rfl k
theorem v_ald_7 {a0 a1 a2 a3 a4 a5 a6 : Option Value} {t : List (Option Value)} {x : Nat} (hd : dl M pc .aload_n .aload 7 pc') (k : Vx G M d pc' (a0 :: a1 :: a2 :: a3 :: a4 :: a5 :: a6 :: some (.ref x) :: t) (.ref x :: st) h v h') : Vx G M d pc (a0 :: a1 :: a2 :: a3 :: a4 :: a5 :: a6 :: some (.ref x) :: t) st h v h' := v_aload hd rfl k
theorem v_ist_7 {a0 a1 a2 a3 a4 a5 a6 a7 : Option Value} {t : List (Option Value)} {x : Int32} (hd : dl M pc .istore_n .istore 7 pc') (hn : 7 < M.2.2.1) (hk : okS (a0 :: a1 :: a2 :: a3 :: a4 :: a5 :: a6 :: a7 :: t) 7 = true) (k : Vx G M d pc' (a0 :: a1 :: a2 :: a3 :: a4 :: a5 :: a6 :: some (.int x) :: t) st h v h') : Vx G M d pc (a0 :: a1 :: a2 :: a3 :: a4 :: a5 :: a6 :: a7 :: t) (.int x :: st) h v h' := v_istore hd hn hk k
theorem v_ast_7 {a0 a1 a2 a3 a4 a5 a6 a7 : Option Value} {t : List (Option Value)} {x : Nat} (hd : dl M pc .astore_n .astore 7 pc') (hn : 7 < M.2.2.1) (hk : okS (a0 :: a1 :: a2 :: a3 :: a4 :: a5 :: a6 :: a7 :: t) 7 = true) (k : Vx G M d pc' (a0 :: a1 :: a2 :: a3 :: a4 :: a5 :: a6 :: some (.ref x) :: t) st h v h') : Vx G M d pc (a0 :: a1 :: a2 :: a3 :: a4 :: a5 :: a6 :: a7 :: t) (.ref x :: st) h v h' := v_astore hd hn hk k
theorem v_inc_7 {a0 a1 a2 a3 a4 a5 a6 : Option Value} {t : List (Option Value)} {n : Int} {x : Int32} (y : Int32) (hd : dn M pc (.iinc 7 n) 3 pc') (hy : Int32.ofInt n = y) (hn : 7 < M.2.2.1) (hk : okS (a0 :: a1 :: a2 :: a3 :: a4 :: a5 :: a6 :: some (.int x) :: t) 7 = true) (k : Vx G M d pc' (a0 :: a1 :: a2 :: a3 :: a4 :: a5 :: a6 :: some (.int (x + y)) :: t) st h v h') : Vx G M d pc (a0 :: a1 :: a2 :: a3 :: a4 :: a5 :: a6 :: some (.int x) :: t) st h v h' := v_iinc hd rfl (by rw [hy]) hn hk k
theorem v_ild_8 {a0 a1 a2 a3 a4 a5 a6 a7 : Option Value} {t : List (Option Value)} {x : Int32} (hd : dl M pc .iload_n .iload 8 pc') (k : Vx G M d pc' (a0 :: a1 :: a2 :: a3 :: a4 :: a5 :: a6 :: a7 :: some (.int x) :: t) (.int x :: st) h v h') : Vx G M d pc (a0 :: a1 :: a2 :: a3 :: a4 :: a5 :: a6 :: a7 :: some (.int x) :: t) st h v h' := v_iload hd rfl k
theorem v_ald_8 {a0 a1 a2 a3 a4 a5 a6 a7 : Option Value} {t : List (Option Value)} {x : Nat} (hd : dl M pc .aload_n .aload 8 pc') (k : Vx G M d pc' (a0 :: a1 :: a2 :: a3 :: a4 :: a5 :: a6 :: a7 :: some (.ref x) :: t) (.ref x :: st) h v h') : Vx G M d pc (a0 :: a1 :: a2 :: a3 :: a4 :: a5 :: a6 :: a7 :: some (.ref x) :: t) st h v h' := v_aload hd rfl k
theorem v_ist_8 {a0 a1 a2 a3 a4 a5 a6 a7 a8 : Option Value} {t : List (Option Value)} {x : Int32} (hd : dl M pc .istore_n .istore 8 pc') (hn : 8 < M.2.2.1) (hk : okS (a0 :: a1 :: a2 :: a3 :: a4 :: a5 :: a6 :: a7 :: a8 :: t) 8 = true) (k : Vx G M d pc' (a0 :: a1 :: a2 :: a3 :: a4 :: a5 :: a6 :: a7 :: some (.int x) :: t) st h v h') : Vx G M d pc (a0 :: a1 :: a2 :: a3 :: a4 :: a5 :: a6 :: a7 :: a8 :: t) (.int x :: st) h v h' := v_istore hd hn hk k
theorem v_ast_8 {a0 a1 a2 a3 a4 a5 a6 a7 a8 : Option Value} {t : List (Option Value)} {x : Nat} (hd : dl M pc .astore_n .astore 8 pc') (hn : 8 < M.2.2.1) (hk : okS (a0 :: a1 :: a2 :: a3 :: a4 :: a5 :: a6 :: a7 :: a8 :: t) 8 = true) (k : Vx G M d pc' (a0 :: a1 :: a2 :: a3 :: a4 :: a5 :: a6 :: a7 :: some (.ref x) :: t) st h v h') : Vx G M d pc (a0 :: a1 :: a2 :: a3 :: a4 :: a5 :: a6 :: a7 :: a8 :: t) (.ref x :: st) h v h' := v_astore hd hn hk k
theorem v_inc_8 {a0 a1 a2 a3 a4 a5 a6 a7 : Option Value} {t : List (Option Value)} {n : Int} {x : Int32} (y : Int32) (hd : dn M pc (.iinc 8 n) 3 pc') (hy : Int32.ofInt n = y) (hn : 8 < M.2.2.1) (hk : okS (a0 :: a1 :: a2 :: a3 :: a4 :: a5 :: a6 :: a7 :: some (.int x) :: t) 8 = true) (k : Vx G M d pc' (a0 :: a1 :: a2 :: a3 :: a4 :: a5 :: a6 :: a7 :: some (.int (x + y)) :: t) st h v h') : Vx G M d pc (a0 :: a1 :: a2 :: a3 :: a4 :: a5 :: a6 :: a7 :: some (.int x) :: t) st h v h' := v_iinc hd rfl (by rw [hy]) hn hk k
theorem v_ild_9 {a0 a1 a2 a3 a4 a5 a6 a7 a8 : Option Value} {t : List (Option Value)} {x : Int32} (hd : dl M pc .iload_n .iload 9 pc') (k : Vx G M d pc' (a0 :: a1 :: a2 :: a3 :: a4 :: a5 :: a6 :: a7 :: a8 :: some (.int x) :: t) (.int x :: st) h v h') : Vx G M d pc (a0 :: a1 :: a2 :: a3 :: a4 :: a5 :: a6 :: a7 :: a8 :: some (.int x) :: t) st h v h' := v_iload hd rfl k
theorem v_ald_9 {a0 a1 a2 a3 a4 a5 a6 a7 a8 : Option Value} {t : List (Option Value)} {x : Nat} (hd : dl M pc .aload_n .aload 9 pc') (k : Vx G M d pc' (a0 :: a1 :: a2 :: a3 :: a4 :: a5 :: a6 :: a7 :: a8 :: some (.ref x) :: t) (.ref x :: st) h v h') : Vx G M d pc (a0 :: a1 :: a2 :: a3 :: a4 :: a5 :: a6 :: a7 :: a8 :: some (.ref x) :: t) st h v h' := v_aload hd rfl k
theorem v_ist_9 {a0 a1 a2 a3 a4 a5 a6 a7 a8 a9 : Option Value} {t : List (Option Value)} {x : Int32} (hd : dl M pc .istore_n .istore 9 pc') (hn : 9 < M.2.2.1) (hk : okS (a0 :: a1 :: a2 :: a3 :: a4 :: a5 :: a6 :: a7 :: a8 :: a9 :: t) 9 = true) (k : Vx G M d pc' (a0 :: a1 :: a2 :: a3 :: a4 :: a5 :: a6 :: a7 :: a8 :: some (.int x) :: t) st h v h') : Vx G M d pc (a0 :: a1 :: a2 :: a3 :: a4 :: a5 :: a6 :: a7 :: a8 :: a9 :: t) (.int x :: st) h v h' := v_istore hd hn hk k
theorem v_ast_9 {a0 a1 a2 a3 a4 a5 a6 a7 a8 a9 : Option Value} {t : List (Option Value)} {x : Nat} (hd : dl M pc .astore_n .astore 9 pc') (hn : 9 < M.2.2.1) (hk : okS (a0 :: a1 :: a2 :: a3 :: a4 :: a5 :: a6 :: a7 :: a8 :: a9 :: t) 9 = true) (k : Vx G M d pc' (a0 :: a1 :: a2 :: a3 :: a4 :: a5 :: a6 :: a7 :: a8 :: some (.ref x) :: t) st h v h') : Vx G M d pc (a0 :: a1 :: a2 :: a3 :: a4 :: a5 :: a6 :: a7 :: a8 :: a9 :: t) (.ref x :: st) h v h' := v_astore hd hn hk k
theorem v_inc_9 {a0 a1 a2 a3 a4 a5 a6 a7 a8 : Option Value} {t : List (Option Value)} {n : Int} {x : Int32} (y : Int32) (hd : dn M pc (.iinc 9 n) 3 pc') (hy : Int32.ofInt n = y) (hn : 9 < M.2.2.1) (hk : okS (a0 :: a1 :: a2 :: a3 :: a4 :: a5 :: a6 :: a7 :: a8 :: some (.int x) :: t) 9 = true) (k : Vx G M d pc' (a0 :: a1 :: a2 :: a3 :: a4 :: a5 :: a6 :: a7 :: a8 :: some (.int (x + y)) :: t) st h v h') : Vx G M d pc (a0 :: a1 :: a2 :: a3 :: a4 :: a5 :: a6 :: a7 :: a8 :: some (.int x) :: t) st h v h' := v_iinc hd rfl (by rw [hy]) hn hk k
theorem v_ild_10 {a0 a1 a2 a3 a4 a5 a6 a7 a8 a9 : Option Value} {t : List (Option Value)} {x : Int32} (hd : dl M pc .iload_n .iload 10 pc') (k : Vx G M d pc' (a0 :: a1 :: a2 :: a3 :: a4 :: a5 :: a6 :: a7 :: a8 :: a9 :: some (.int x) :: t) (.int x :: st) h v h') : Vx G M d pc (a0 :: a1 :: a2 :: a3 :: a4 :: a5 :: a6 :: a7 :: a8 :: a9 :: some (.int x) :: t) st h v h' := v_iload hd rfl k
theorem v_ald_10 {a0 a1 a2 a3 a4 a5 a6 a7 a8 a9 : Option Value} {t : List (Option Value)} {x : Nat} (hd : dl M pc .aload_n .aload 10 pc') (k : Vx G M d pc' (a0 :: a1 :: a2 :: a3 :: a4 :: a5 :: a6 :: a7 :: a8 :: a9 :: some (.ref x) :: t) (.ref x :: st) h v h') : Vx G M d pc (a0 :: a1 :: a2 :: a3 :: a4 :: a5 :: a6 :: a7 :: a8 :: a9 :: some (.ref x) :: t) st h v h' := v_aload hd rfl k
theorem v_ist_10 {a0 a1 a2 a3 a4 a5 a6 a7 a8 a9 a10 : Option Value} {t : List (Option Value)} {x : Int32} (hd : dl M pc .istore_n .istore 10 pc') (hn : 10 < M.2.2.1) (hk : okS (a0 :: a1 :: a2 :: a3 :: a4 :: a5 :: a6 :: a7 :: a8 :: a9 :: a10 :: t) 10 = true) (k : Vx G M d pc' (a0 :: a1 :: a2 :: a3 :: a4 :: a5 :: a6 :: a7 :: a8 :: a9 :: some (.int x) :: t) st h v h') : Vx G M d pc (a0 :: a1 :: a2 :: a3 :: a4 :: a5 :: a6 :: a7 :: a8 :: a9 :: a10 :: t) (.int x :: st) h v h' := v_istore hd hn hk k
theorem v_ast_10 {a0 a1 a2 a3 a4 a5 a6 a7 a8 a9 a10 : Option Value} {t : List (Option Value)} {x : Nat} (hd : dl M pc .astore_n .astore 10 pc') (hn : 10 < M.2.2.1) (hk : okS (a0 :: a1 :: a2 :: a3 :: a4 :: a5 :: a6 :: a7 :: a8 :: a9 :: a10 :: t) 10 = true) (k : Vx G M d pc' (a0 :: a1 :: a2 :: a3 :: a4 :: a5 :: a6 :: a7 :: a8 :: a9 :: some (.ref x) :: t) st h v h') : Vx G M d pc (a0 :: a1 :: a2 :: a3 :: a4 :: a5 :: a6 :: a7 :: a8 :: a9 :: a10 :: t) (.ref x :: st) h v h' := v_astore hd hn hk k
theorem v_inc_10 {a0 a1 a2 a3 a4 a5 a6 a7 a8 a9 : Option Value} {t : List (Option Value)} {n : Int} {x : Int32} (y : Int32) (hd : dn M pc (.iinc 10 n) 3 pc') (hy : Int32.ofInt n = y) (hn : 10 < M.2.2.1) (hk : okS (a0 :: a1 :: a2 :: a3 :: a4 :: a5 :: a6 :: a7 :: a8 :: a9 :: some (.int x) :: t) 10 = true) (k : Vx G M d pc' (a0 :: a1 :: a2 :: a3 :: a4 :: a5 :: a6 :: a7 :: a8 :: a9 :: some (.int (x + y)) :: t) st h v h') : Vx G M d pc (a0 :: a1 :: a2 :: a3 :: a4 :: a5 :: a6 :: a7 :: a8 :: a9 :: some (.int x) :: t) st h v h' := v_iinc hd rfl (by rw [hy]) hn hk k
theorem v_ild_11 {a0 a1 a2 a3 a4 a5 a6 a7 a8 a9 a10 : Option Value} {t : List (Option Value)} {x : Int32} (hd : dl M pc .iload_n .iload 11 pc') (k : Vx G M d pc' (a0 :: a1 :: a2 :: a3 :: a4 :: a5 :: a6 :: a7 :: a8 :: a9 :: a10 :: some (.int x) :: t) (.int x :: st) h v h') : Vx G M d pc (a0 :: a1 :: a2 :: a3 :: a4 :: a5 :: a6 :: a7 :: a8 :: a9 :: a10 :: some (.int x) :: t) st h v h' := v_iload hd rfl k
theorem v_ald_11 {a0 a1 a2 a3 a4 a5 a6 a7 a8 a9 a10 : Option Value} {t : List (Option Value)} {x : Nat} (hd : dl M pc .aload_n .aload 11 pc') (k : Vx G M d pc' (a0 :: a1 :: a2 :: a3 :: a4 :: a5 :: a6 :: a7 :: a8 :: a9 :: a10 :: some (.ref x) :: t) (.ref x :: st) h v h') : Vx G M d pc (a0 :: a1 :: a2 :: a3 :: a4 :: a5 :: a6 :: a7 :: a8 :: a9 :: a10 :: some (.ref x) :: t) st h v h' := v_aload hd rfl k
theorem v_ist_11 {a0 a1 a2 a3 a4 a5 a6 a7 a8 a9 a10 a11 : Option Value} {t : List (Option Value)} {x : Int32} (hd : dl M pc .istore_n .istore 11 pc') (hn : 11 < M.2.2.1) (hk : okS (a0 :: a1 :: a2 :: a3 :: a4 :: a5 :: a6 :: a7 :: a8 :: a9 :: a10 :: a11 :: t) 11 = true) (k : Vx G M d pc' (a0 :: a1 :: a2 :: a3 :: a4 :: a5 :: a6 :: a7 :: a8 :: a9 :: a10 :: some (.int x) :: t) st h v h') : Vx G M d pc (a0 :: a1 :: a2 :: a3 :: a4 :: a5 :: a6 :: a7 :: a8 :: a9 :: a10 :: a11 :: t) (.int x :: st) h v h' := v_istore hd hn hk k
theorem v_ast_11 {a0 a1 a2 a3 a4 a5 a6 a7 a8 a9 a10 a11 : Option Value} {t : List (Option Value)} {x : Nat} (hd : dl M pc .astore_n .astore 11 pc') (hn : 11 < M.2.2.1) (hk : okS (a0 :: a1 :: a2 :: a3 :: a4 :: a5 :: a6 :: a7 :: a8 :: a9 :: a10 :: a11 :: t) 11 = true) (k : Vx G M d pc' (a0 :: a1 :: a2 :: a3 :: a4 :: a5 :: a6 :: a7 :: a8 :: a9 :: a10 :: some (.ref x) :: t) st h v h') : Vx G M d pc (a0 :: a1 :: a2 :: a3 :: a4 :: a5 :: a6 :: a7 :: a8 :: a9 :: a10 :: a11 :: t) (.ref x :: st) h v h' := v_astore hd hn hk k
theorem v_inc_11 {a0 a1 a2 a3 a4 a5 a6 a7 a8 a9 a10 : Option Value} {t : List (Option Value)} {n : Int} {x : Int32} (y : Int32) (hd : dn M pc (.iinc 11 n) 3 pc') (hy : Int32.ofInt n = y) (hn : 11 < M.2.2.1) (hk : okS (a0 :: a1 :: a2 :: a3 :: a4 :: a5 :: a6 :: a7 :: a8 :: a9 :: a10 :: some (.int x) :: t) 11 = true) (k : Vx G M d pc' (a0 :: a1 :: a2 :: a3 :: a4 :: a5 :: a6 :: a7 :: a8 :: a9 :: a10 :: some (.int (x + y)) :: t) st h v h') : Vx G M d pc (a0 :: a1 :: a2 :: a3 :: a4 :: a5 :: a6 :: a7 :: a8 :: a9 :: a10 :: some (.int x) :: t) st h v h' := v_iinc hd rfl (by rw [hy]) hn hk k
theorem v_ild_12 {a0 a1 a2 a3 a4 a5 a6 a7 a8 a9 a10 a11 : Option Value} {t : List (Option Value)} {x : Int32} (hd : dl M pc .iload_n .iload 12 pc') (k : Vx G M d pc' (a0 :: a1 :: a2 :: a3 :: a4 :: a5 :: a6 :: a7 :: a8 :: a9 :: a10 :: a11 :: some (.int x) :: t) (.int x :: st) h v h') : Vx G M d pc (a0 :: a1 :: a2 :: a3 :: a4 :: a5 :: a6 :: a7 :: a8 :: a9 :: a10 :: a11 :: some (.int x) :: t) st h v h' := v_iload hd rfl k
theorem v_ald_12 {a0 a1 a2 a3 a4 a5 a6 a7 a8 a9 a10 a11 : Option Value} {t : List (Option Value)} {x : Nat} (hd : dl M pc .aload_n .aload 12 pc') (k : Vx G M d pc' (a0 :: a1 :: a2 :: a3 :: a4 :: a5 :: a6 :: a7 :: a8 :: a9 :: a10 :: a11 :: some (.ref x) :: t) (.ref x :: st) h v h') : Vx G M d pc (a0 :: a1 :: a2 :: a3 :: a4 :: a5 :: a6 :: a7 :: a8 :: a9 :: a10 :: a11 :: some (.ref x) :: t) st h v h' := v_aload hd rfl k
theorem v_ist_12 {a0 a1 a2 a3 a4 a5 a6 a7 a8 a9 a10 a11 a12 : Option Value} {t : List (Option Value)} {x : Int32} (hd : dl M pc .istore_n .istore 12 pc') (hn : 12 < M.2.2.1) (hk : okS (a0 :: a1 :: a2 :: a3 :: a4 :: a5 :: a6 :: a7 :: a8 :: a9 :: a10 :: a11 :: a12 :: t) 12 = true) (k : Vx G M d pc' (a0 :: a1 :: a2 :: a3 :: a4 :: a5 :: a6 :: a7 :: a8 :: a9 :: a10 :: a11 :: some (.int x) :: t) st h v h') : Vx G M d pc (a0 :: a1 :: a2 :: a3 :: a4 :: a5 :: a6 :: a7 :: a8 :: a9 :: a10 :: a11 :: a12 :: t) (.int x :: st) h v h' := v_istore hd hn hk k
theorem v_ast_12 {a0 a1 a2 a3 a4 a5 a6 a7 a8 a9 a10 a11 a12 : Option Value} {t : List (Option Value)} {x : Nat} (hd : dl M pc .astore_n .astore 12 pc') (hn : 12 < M.2.2.1) (hk : okS (a0 :: a1 :: a2 :: a3 :: a4 :: a5 :: a6 :: a7 :: a8 :: a9 :: a10 :: a11 :: a12 :: t) 12 = true) (k : Vx G M d pc' (a0 :: a1 :: a2 :: a3 :: a4 :: a5 :: a6 :: a7 :: a8 :: a9 :: a10 :: a11 :: some (.ref x) :: t) st h v h') : Vx G M d pc (a0 :: a1 :: a2 :: a3 :: a4 :: a5 :: a6 :: a7 :: a8 :: a9 :: a10 :: a11 :: a12 :: t) (.ref x :: st) h v h' := v_astore hd hn hk k
theorem v_inc_12 {a0 a1 a2 a3 a4 a5 a6 a7 a8 a9 a10 a11 : Option Value} {t : List (Option Value)} {n : Int} {x : Int32} (y : Int32) (hd : dn M pc (.iinc 12 n) 3 pc') (hy : Int32.ofInt n = y) (hn : 12 < M.2.2.1) (hk : okS (a0 :: a1 :: a2 :: a3 :: a4 :: a5 :: a6 :: a7 :: a8 :: a9 :: a10 :: a11 :: some (.int x) :: t) 12 = true) (k : Vx G M d pc' (a0 :: a1 :: a2 :: a3 :: a4 :: a5 :: a6 :: a7 :: a8 :: a9 :: a10 :: a11 :: some (.int (x + y)) :: t) st h v h') : Vx G M d pc (a0 :: a1 :: a2 :: a3 :: a4 :: a5 :: a6 :: a7 :: a8 :: a9 :: a10 :: a11 :: some (.int x) :: t) st h v h' := v_iinc hd rfl (by rw [hy]) hn hk k
theorem v_ild_13 {a0 a1 a2 a3 a4 a5 a6 a7 a8 a9 a10 a11 a12 : Option Value} {t : List (Option Value)} {x : Int32} (hd : dl M pc .iload_n .iload 13 pc') (k : Vx G M d pc' (a0 :: a1 :: a2 :: a3 :: a4 :: a5 :: a6 :: a7 :: a8 :: a9 :: a10 :: a11 :: a12 :: some (.int x) :: t) (.int x :: st) h v h') : Vx G M d pc (a0 :: a1 :: a2 :: a3 :: a4 :: a5 :: a6 :: a7 :: a8 :: a9 :: a10 :: a11 :: a12 :: some (.int x) :: t) st h v h' := v_iload hd rfl k
theorem v_ald_13 {a0 a1 a2 a3 a4 a5 a6 a7 a8 a9 a10 a11 a12 : Option Value} {t : List (Option Value)} {x : Nat} (hd : dl M pc .aload_n .aload 13 pc') (k : Vx G M d pc' (a0 :: a1 :: a2 :: a3 :: a4 :: a5 :: a6 :: a7 :: a8 :: a9 :: a10 :: a11 :: a12 :: some (.ref x) :: t) (.ref x :: st) h v h') : Vx G M d pc (a0 :: a1 :: a2 :: a3 :: a4 :: a5 :: a6 :: a7 :: a8 :: a9 :: a10 :: a11 :: a12 :: some (.ref x) :: t) st h v h' := v_aload hd rfl k
theorem v_ist_13 {a0 a1 a2 a3 a4 a5 a6 a7 a8 a9 a10 a11 a12 a13 : Option Value} {t : List (Option Value)} {x : Int32} (hd : dl M pc .istore_n .istore 13 pc') (hn : 13 < M.2.2.1) (hk : okS (a0 :: a1 :: a2 :: a3 :: a4 :: a5 :: a6 :: a7 :: a8 :: a9 :: a10 :: a11 :: a12 :: a13 :: t) 13 = true) (k : Vx G M d pc' (a0 :: a1 :: a2 :: a3 :: a4 :: a5 :: a6 :: a7 :: a8 :: a9 :: a10 :: a11 :: a12 :: some (.int x) :: t) st h v h') : Vx G M d pc (a0 :: a1 :: a2 :: a3 :: a4 :: a5 :: a6 :: a7 :: a8 :: a9 :: a10 :: a11 :: a12 :: a13 :: t) (.int x :: st) h v h' := v_istore hd hn hk k
theorem v_ast_13 {a0 a1 a2 a3 a4 a5 a6 a7 a8 a9 a10 a11 a12 a13 : Option Value} {t : List (Option Value)} {x : Nat} (hd : dl M pc .astore_n .astore 13 pc') (hn : 13 < M.2.2.1) (hk : okS (a0 :: a1 :: a2 :: a3 :: a4 :: a5 :: a6 :: a7 :: a8 :: a9 :: a10 :: a11 :: a12 :: a13 :: t) 13 = true) (k : Vx G M d pc' (a0 :: a1 :: a2 :: a3 :: a4 :: a5 :: a6 :: a7 :: a8 :: a9 :: a10 :: a11 :: a12 :: some (.ref x) :: t) st h v h') : Vx G M d pc (a0 :: a1 :: a2 :: a3 :: a4 :: a5 :: a6 :: a7 :: a8 :: a9 :: a10 :: a11 :: a12 :: a13 :: t) (.ref x :: st) h v h' := v_astore hd hn hk k
theorem v_inc_13 {a0 a1 a2 a3 a4 a5 a6 a7 a8 a9 a10 a11 a12 : Option Value} {t : List (Option Value)} {n : Int} {x : Int32} (y : Int32) (hd : dn M pc (.iinc 13 n) 3 pc') (hy : Int32.ofInt n = y) (hn : 13 < M.2.2.1) (hk : okS (a0 :: a1 :: a2 :: a3 :: a4 :: a5 :: a6 :: a7 :: a8 :: a9 :: a10 :: a11 :: a12 :: some (.int x) :: t) 13 = true) (k : Vx G M d pc' (a0 :: a1 :: a2 :: a3 :: a4 :: a5 :: a6 :: a7 :: a8 :: a9 :: a10 :: a11 :: a12 :: some (.int (x + y)) :: t) st h v h') : Vx G M d pc (a0 :: a1 :: a2 :: a3 :: a4 :: a5 :: a6 :: a7 :: a8 :: a9 :: a10 :: a11 :: a12 :: some (.int x) :: t) st h v h' := v_iinc hd rfl (by rw [hy]) hn hk k
theorem v_ild_14 {a0 a1 a2 a3 a4 a5 a6 a7 a8 a9 a10 a11 a12 a13 : Option Value} {t : List (Option Value)} {x : Int32} (hd : dl M pc .iload_n .iload 14 pc') (k : Vx G M d pc' (a0 :: a1 :: a2 :: a3 :: a4 :: a5 :: a6 :: a7 :: a8 :: a9 :: a10 :: a11 :: a12 :: a13 :: some (.int x) :: t) (.int x :: st) h v h') : Vx G M d pc (a0 :: a1 :: a2 :: a3 :: a4 :: a5 :: a6 :: a7 :: a8 :: a9 :: a10 :: a11 :: a12 :: a13 :: some (.int x) :: t) st h v h' := v_iload hd rfl k
theorem v_ald_14 {a0 a1 a2 a3 a4 a5 a6 a7 a8 a9 a10 a11 a12 a13 : Option Value} {t : List (Option Value)} {x : Nat} (hd : dl M pc .aload_n .aload 14 pc') (k : Vx G M d pc' (a0 :: a1 :: a2 :: a3 :: a4 :: a5 :: a6 :: a7 :: a8 :: a9 :: a10 :: a11 :: a12 :: a13 :: some (.ref x) :: t) (.ref x :: st) h v h') : Vx G M d pc (a0 :: a1 :: a2 :: a3 :: a4 :: a5 :: a6 :: a7 :: a8 :: a9 :: a10 :: a11 :: a12 :: a13 :: some (.ref x) :: t) st h v h' := v_aload hd rfl k
theorem v_ist_14 {a0 a1 a2 a3 a4 a5 a6 a7 a8 a9 a10 a11 a12 a13 a14 : Option Value} {t : List (Option Value)} {x : Int32} (hd : dl M pc .istore_n .istore 14 pc') (hn : 14 < M.2.2.1) (hk : okS (a0 :: a1 :: a2 :: a3 :: a4 :: a5 :: a6 :: a7 :: a8 :: a9 :: a10 :: a11 :: a12 :: a13 :: a14 :: t) 14 = true) (k : Vx G M d pc' (a0 :: a1 :: a2 :: a3 :: a4 :: a5 :: a6 :: a7 :: a8 :: a9 :: a10 :: a11 :: a12 :: a13 :: some (.int x) :: t) st h v h') : Vx G M d pc (a0 :: a1 :: a2 :: a3 :: a4 :: a5 :: a6 :: a7 :: a8 :: a9 :: a10 :: a11 :: a12 :: a13 :: a14 :: t) (.int x :: st) h v h' := v_istore hd hn hk k
theorem v_ast_14 {a0 a1 a2 a3 a4 a5 a6 a7 a8 a9 a10 a11 a12 a13 a14 : Option Value} {t : List (Option Value)} {x : Nat} (hd : dl M pc .astore_n .astore 14 pc') (hn : 14 < M.2.2.1) (hk : okS (a0 :: a1 :: a2 :: a3 :: a4 :: a5 :: a6 :: a7 :: a8 :: a9 :: a10 :: a11 :: a12 :: a13 :: a14 :: t) 14 = true) (k : Vx G M d pc' (a0 :: a1 :: a2 :: a3 :: a4 :: a5 :: a6 :: a7 :: a8 :: a9 :: a10 :: a11 :: a12 :: a13 :: some (.ref x) :: t) st h v h') : Vx G M d pc (a0 :: a1 :: a2 :: a3 :: a4 :: a5 :: a6 :: a7 :: a8 :: a9 :: a10 :: a11 :: a12 :: a13 :: a14 :: t) (.ref x :: st) h v h' := v_astore hd hn hk k
theorem v_inc_14 {a0 a1 a2 a3 a4 a5 a6 a7 a8 a9 a10 a11 a12 a13 : Option Value} {t : List (Option Value)} {n : Int} {x : Int32} (y : Int32) (hd : dn M pc (.iinc 14 n) 3 pc') (hy : Int32.ofInt n = y) (hn : 14 < M.2.2.1) (hk : okS (a0 :: a1 :: a2 :: a3 :: a4 :: a5 :: a6 :: a7 :: a8 :: a9 :: a10 :: a11 :: a12 :: a13 :: some (.int x) :: t) 14 = true) (k : Vx G M d pc' (a0 :: a1 :: a2 :: a3 :: a4 :: a5 :: a6 :: a7 :: a8 :: a9 :: a10 :: a11 :: a12 :: a13 :: some (.int (x + y)) :: t) st h v h') : Vx G M d pc (a0 :: a1 :: a2 :: a3 :: a4 :: a5 :: a6 :: a7 :: a8 :: a9 :: a10 :: a11 :: a12 :: a13 :: some (.int x) :: t) st h v h' := v_iinc hd rfl (by rw [hy]) hn hk k
end RU
end
section
/-! FIELDS, ARRAYS, CALLS, ANSWERS over the pure heap -/
def shOk (t : Nat × Nat) : Bool := !(decide (t.1 < 20)) || ((clsL[t.1]?.map fun r => r.2.2) == some t.2)
theorem shL_ok : shL.all shOk = true := by decide +kernel
theorem sh_n {a ci n : Nat} {C : String} {T : u_T} {N : Nat} (ha : shL[a]? = some (ci, n)) (hc : clsL[ci]? = some (C, T, N)) (hlt : ci < 20) : n = N := by
  have h := List.all_eq_true.mp shL_ok _ (List.mem_of_getElem? ha)
  simp only [shOk, hc, hlt, decide_true, Bool.not_true, Bool.false_or, Option.map_some, beq_iff_eq, Option.some.injEq] at h
  exact h.symm
/-- what is known of each class -/
def clK (r : vw_C) : Prop := (∀ w ∈ u_ws r.1 r.2.1 r.2.2, w ∈ tb) ∧ (∃ ty : Nat → FieldType, ∀ k, k < r.2.2 → parseFieldDescriptor (r.2.1 k).2.2.1 = some (ty k)) ∧ (∀ a, a < r.2.2 → ∀ b, b < r.2.2 → a ≠ b → (r.2.1 a).2.1 ≠ (r.2.1 b).2.1)
theorem u_good {C : String} {T : u_T} {N : Nat} : ∀ w ∈ u_ws C T N, goodWord w = true := by
  intro w hw
  obtain ⟨k, -, rfl⟩ := List.mem_map.mp hw
  unfold u_lay
  split <;> rfl
theorem clK_of {C : String} {T : u_T} {N : Nat} {ty : Nat → FieldType} (h1 : ∀ w ∈ u_ws C T N, w ∈ lw_tbl) (h2 : ∀ k, k < N → parseFieldDescriptor (T k).2.2.1 = some (ty k)) (h3 : ∀ a, a < N → ∀ b, b < N → a ≠ b → (T a).2.1 ≠ (T b).2.1) : clK (C, T, N) :=
  ⟨fun w hw => tb_in (h1 w hw) (u_good w hw), ⟨ty, h2⟩, h3⟩
theorem clK_all : ∀ (ci : Nat) (r : vw_C), clsL[ci]? = some r → ci < 20 ∧ clK r := by
  have h0 := clK_of ws_ok_0 ty_ok_0 nm_ok_0
  have h1 := clK_of ws_ok_1 ty_ok_1 nm_ok_1
  have h2 := clK_of ws_ok_2 ty_ok_2 nm_ok_2
  have h3 := clK_of ws_ok_3 ty_ok_3 nm_ok_3
  have h4 := clK_of ws_ok_4 ty_ok_4 nm_ok_4
  have h5 := clK_of ws_ok_5 ty_ok_5 nm_ok_5
  have h6 := clK_of ws_ok_6 ty_ok_6 nm_ok_6
  have h7 := clK_of ws_ok_7 ty_ok_7 nm_ok_7
  have h8 := clK_of ws_ok_8 ty_ok_8 nm_ok_8
  have h9 := clK_of ws_ok_9 ty_ok_9 nm_ok_9
  have h10 := clK_of ws_ok_10 ty_ok_10 nm_ok_10
  have h11 := clK_of ws_ok_11 ty_ok_11 nm_ok_11
  have h12 := clK_of ws_ok_12 ty_ok_12 nm_ok_12
  intro ci r h
  match ci, h with
  | 0, h => cases h; exact ⟨by decide, h0⟩
  | 1, h => cases h; exact ⟨by decide, h1⟩
  | 2, h => cases h; exact ⟨by decide, h2⟩
  | 3, h => cases h; exact ⟨by decide, h3⟩
  | 4, h => cases h; exact ⟨by decide, h4⟩
  | 5, h => cases h; exact ⟨by decide, h5⟩
  | 6, h => cases h; exact ⟨by decide, h6⟩
  | 7, h => cases h; exact ⟨by decide, h7⟩
  | 8, h => cases h; exact ⟨by decide, h8⟩
  | 9, h => cases h; exact ⟨by decide, h9⟩
  | 10, h => cases h; exact ⟨by decide, h10⟩
  | 11, h => cases h; exact ⟨by decide, h11⟩
  | 12, h => cases h; exact ⟨by decide, h12⟩
  | k + 13, h => simp [clsL] at h
/-- a field's use: from a class's pool, field k of class number ci -/
def fu (own : String) (idx ci k : Nat) : Prop := ∃ (C : String) (T : u_T) (N : Nat), clsL[ci]? = some (C, T, N) ∧ k < N ∧ (T k).1 = C ∧ Cond.fieldLink own idx C (T k).2.1 (T k).2.2.1 ∈ tb
def fty (ci k : Nat) (ty : FieldType) : Prop := ∃ (C : String) (T : u_T) (N : Nat), clsL[ci]? = some (C, T, N) ∧ (T k).2.2.2 = false ∧ parseFieldDescriptor (T k).2.2.1 = some ty
def nb (x : Int32) : Int32 := x &&& 1
section HP
variable {G : GG} {M : MM} {d pc pc' : Nat} {L : List (Option Value)} {st : List Value} {h h' : PH} {v : Option Value}
theorem v_get {idx ci j a n : Nat} {w : Value} (hd : dn M pc (.getfield idx) 3 pc') (hf : fu M.1.cls idx ci j) (ha : shL[a]? = some (ci, n)) (hw : fv (gB G) h a j = w) (k : Vx G M d pc' L (w :: st) h v h') : Vx G M d pc L (.ref (gB G + a) :: st) h v h' := by
  obtain ⟨hd, rfl⟩ := hd
  intro p e s m args below meth c C H locs ls hR hS hL
  obtain ⟨Cn, T, N, hc, hk, hdecl, hlink⟩ := hf
  obtain ⟨hlt, hcl⟩ := clK_all ci _ hc
  have hN := sh_n ha hc hlt
  subst hN
  have he := wd_at (B := gB G) (cA := gA G) (h := h) ha
  rw [ce_obj hlt] at he
  refine va_get C.1 C.2.1 C.2.2.2.2.2.1 hcl.1 C.2.2.2.2.1 C.2.2.2.2.2.2.2.1 hR a he hc j hk (C.2.2.2.2.2.1 _ hlink) (fun x hx => by rw [hdecl] at hx; exact hx) (v := w) ?_ hd (k p e s m args below meth c C H locs ls hR hS hL)
  rw [List.getElem?_map, List.getElem?_range hk]
  exact congrArg some hw
theorem v_getI {idx ci j a n : Nat} (hd : dn M pc (.getfield idx) 3 pc') (hf : fu M.1.cls idx ci j) (ha : shL[a]? = some (ci, n)) (hr : rf a j = none) (k : Vx G M d pc' L (.int (h a j) :: st) h v h') : Vx G M d pc L (.ref (gB G + a) :: st) h v h' := v_get hd hf ha (fv_int hr) k
theorem v_getR {idx ci j a n b : Nat} (hd : dn M pc (.getfield idx) 3 pc') (hf : fu M.1.cls idx ci j) (ha : shL[a]? = some (ci, n)) (hr : rf a j = some b) (k : Vx G M d pc' L (.ref (gB G + b) :: st) h v h') : Vx G M d pc L (.ref (gB G + a) :: st) h v h' := v_get hd hf ha (fv_ref hr) k
theorem v_put {idx ci j a n : Nat} {x : Int32} {ty : FieldType} (hd : dn M pc (.putfield idx) 3 pc') (hf : fu M.1.cls idx ci j) (ht : fty ci j ty) (ha : shL[a]? = some (ci, n)) (hr : rf a j = none) (hn : narrow ty (.int x) = .int x) (hfit : fits ty (.int x) = true) (k : Vx G M d pc' L st (up h a j x) v h') : Vx G M d pc L (.int x :: .ref (gB G + a) :: st) h v h' := by
  obtain ⟨hd, rfl⟩ := hd
  intro p e s m args below meth c C H locs ls hR hS hL
  obtain ⟨Cn, T, N, hc, hk, hdecl, hlink⟩ := hf
  obtain ⟨hlt, hcl⟩ := clK_all ci _ hc
  obtain ⟨C2, T2, N2, hc2, hfin, hpt⟩ := ht
  cases hc.symm.trans hc2
  have hN := sh_n ha hc hlt
  subst hN
  have he := wd_at (B := gB G) (cA := gA G) (h := h) ha
  rw [ce_obj hlt] at he
  obtain ⟨ty0, hty⟩ := hcl.2.1
  refine va_put C.1 C.2.1 C.2.2.2.2.2.1 hcl.1 ty0 hty hcl.2.2 C.2.2.2.2.1 C.2.2.2.2.2.2.2.1 hR (wd_D _ _ _) hS a he hc j hk (C.2.2.2.2.2.1 _ hlink) (fun x hx => by rw [hdecl] at hx; exact hx) hfin hpt hn hfit (by simpa using hk) hd (fun H1 locs1 hP1 hD1 hS1 => ?_)
  rw [wd_set (t := (ci, n)) (f := upd (h a) j x) ha (by rw [ce_obj hlt]; exact congrArg (fun q => Sum.inr (ci, q)) (fv_up hr hk))] at hP1
  exact k p e s m args below meth c C H1 locs1 ls hP1 hS1 hL
theorem v_putI {idx ci j a n : Nat} {x : Int32} (hd : dn M pc (.putfield idx) 3 pc') (hf : fu M.1.cls idx ci j) (ht : fty ci j .int) (ha : shL[a]? = some (ci, n)) (hr : rf a j = none) (k : Vx G M d pc' L st (up h a j x) v h') : Vx G M d pc L (.int x :: .ref (gB G + a) :: st) h v h' := v_put hd hf ht ha hr rfl rfl k
theorem v_putZ {idx ci j a n : Nat} {x : Int32} (hd : dn M pc (.putfield idx) 3 pc') (hf : fu M.1.cls idx ci j) (ht : fty ci j .boolean) (ha : shL[a]? = some (ci, n)) (hr : rf a j = none) (hx : x = 0 ∨ x = 1) (k : Vx G M d pc' L st (up h a j x) v h') : Vx G M d pc L (.int x :: .ref (gB G + a) :: st) h v h' := v_put hd hf ht ha hr (by rcases hx with rfl | rfl <;> rfl) (by rcases hx with rfl | rfl <;> rfl) k
theorem v_iald {a n : Nat} {i : Int32} (hd : dn M pc .iaload 1 pc') (ha : shL[a]? = some (20, n)) (hin : vp_in i n) (k : Vx G M d pc' L (.int (h a i.toNatClampNeg) :: st) h v h') : Vx G M d pc L (.int i :: .ref (gB G + a) :: st) h v h' := by
  obtain ⟨hd, rfl⟩ := hd
  intro p e s m args below meth c C H locs ls hR hS hL
  have he := wd_at (B := gB G) (cA := gA G) (h := h) ha
  exact va_iald C.1 C.2.1 C.2.2.2.2.2.2.2.1 hR a 0 he rfl hin hd (k p e s m args below meth c C H locs ls hR hS hL)
theorem v_bald {a n : Nat} {i : Int32} (hd : dn M pc .baload 1 pc') (ha : shL[a]? = some (21, n)) (hin : vp_in i n) (k : Vx G M d pc' L (.int (h a i.toNatClampNeg) :: st) h v h') : Vx G M d pc L (.int i :: .ref (gB G + a) :: st) h v h' := by
  obtain ⟨hd, rfl⟩ := hd
  intro p e s m args below meth c C H locs ls hR hS hL
  have he := wd_at (B := gB G) (cA := gA G) (h := h) ha
  exact va_bald C.1 C.2.1 C.2.2.2.2.2.2.2.1 hR a 1 he rfl hin hd (k p e s m args below meth c C H locs ls hR hS hL)
theorem v_aald {a n b : Nat} {i : Int32} (hd : dn M pc .aaload 1 pc') (ha : shL[a]? = some (22, n)) (hin : vp_in i n) (hr : rf a i.toNatClampNeg = some b) (k : Vx G M d pc' L (.ref (gB G + b) :: st) h v h') : Vx G M d pc L (.int i :: .ref (gB G + a) :: st) h v h' := by
  obtain ⟨hd, rfl⟩ := hd
  intro p e s m args below meth c C H locs ls hR hS hL
  have he := wd_at (B := gB G) (cA := gA G) (h := h) ha
  rw [ce_bor] at he
  have hk := k p e s m args below meth c C H locs ls hR hS hL
  refine va_aldq C.1 C.2.1 C.2.2.2.2.2.2.2.1 hR a 2 he rfl hin hd ?_
  simp only [hr, Option.map_some, va_rf]
  exact hk
theorem v_iast {a n : Nat} {i x : Int32} (hd : dn M pc .iastore 1 pc') (ha : shL[a]? = some (20, n)) (hin : vp_in i n) (k : Vx G M d pc' L st (up h a i.toNatClampNeg x) v h') : Vx G M d pc L (.int x :: .int i :: .ref (gB G + a) :: st) h v h' := by
  obtain ⟨hd, rfl⟩ := hd
  intro p e s m args below meth c C H locs ls hR hS hL
  have he := wd_at (B := gB G) (cA := gA G) (h := h) ha
  refine va_iast C.1 C.2.1 C.2.2.2.2.2.2.2.1 hR (wd_D _ _ _) hS a 0 he rfl hin hd (fun H1 locs1 hP1 hD1 hS1 => ?_)
  rw [wd_set (t := (20, n)) (f := upd (h a) i.toNatClampNeg x) ha (by rw [ce_int]; simp [setC, gA])] at hP1
  exact k p e s m args below meth c C H1 locs1 ls hP1 hS1 hL
theorem v_bast {a n : Nat} {i x : Int32} (hd : dn M pc .bastore 1 pc') (ha : shL[a]? = some (21, n)) (hin : vp_in i n) (k : Vx G M d pc' L st (up h a i.toNatClampNeg (i2b x)) v h') : Vx G M d pc L (.int x :: .int i :: .ref (gB G + a) :: st) h v h' := by
  obtain ⟨hd, rfl⟩ := hd
  intro p e s m args below meth c C H locs ls hR hS hL
  have he := wd_at (B := gB G) (cA := gA G) (h := h) ha
  refine va_bast C.1 C.2.1 C.2.2.2.2.2.2.2.1 hR (wd_D _ _ _) hS a 1 he rfl hin hd (fun H1 locs1 hP1 hD1 hS1 => ?_)
  rw [wd_set (t := (21, n)) (f := upd (h a) i.toNatClampNeg (i2b x)) ha (by rw [ce_byte]; simp [setC, gA, vp_nar, narrow, i2b])] at hP1
  exact k p e s m args below meth c C H1 locs1 ls hP1 hS1 hL
theorem v_alen {a n : Nat} {x : Int32} (hd : dn M pc .arraylength 1 pc') (ha : shL[a]? = some (20, n)) (hx : Int32.ofNat n = x) (k : Vx G M d pc' L (.int x :: st) h v h') : Vx G M d pc L (.ref (gB G + a) :: st) h v h' := by
  obtain ⟨hd, rfl⟩ := hd
  intro p e s m args below meth c C H locs ls hR hS hL
  have he := wd_at (B := gB G) (cA := gA G) (h := h) ha
  exact va_alen C.1 C.2.1 C.2.2.2.2.2.2.2.1 hR a 0 he (ty := .int) rfl hx hd (k p e s m args below meth c C H locs ls hR hS hL)
/-! answers -/
theorem v_iret {x : Int32} (hd : dn M pc .ireturn 1 pc') (hr : M.2.2.2 = some .int) : Vx G M d pc L [.int x] h (some (.int x)) h := by
  obtain ⟨hd, rfl⟩ := hd
  intro p e s m args below meth c C H locs ls hR hS hL
  exact W.iret C.1 C.2.1 (C.2.2.1.trans hr) (fun t ht _ => ⟨rfl, by rw [ht]; exact hR, hS.F ht⟩) hS.2.2 hd C.2.2.2.2.2.2.1
theorem v_ret (hd : dn M pc .return_ 1 pc') (hr : M.2.2.2 = none) : Vx G M d pc L [] h none h := by
  obtain ⟨hd, rfl⟩ := hd
  intro p e s m args below meth c C H locs ls hR hS hL
  exact W.vret C.1 C.2.1 (C.2.2.1.trans hr) (fun t ht _ => ⟨rfl, by rw [ht]; exact hR, hS.F ht⟩) hS.2.2 hd C.2.2.2.2.2.2.1
theorem v_lret {x : Int64} (hd : dn M pc .lreturn 1 pc') (hr : M.2.2.2 = some .long) : Vx G M d pc L [.long x] h (some (.long x)) h := by
  obtain ⟨hd, rfl⟩ := hd
  intro p e s m args below meth c C H locs ls hR hS hL
  exact W.lret C.1 C.2.1 (C.2.2.1.trans hr) (fun t ht _ => ⟨rfl, by rw [ht]; exact hR, hS.F ht⟩) hS.2.2 hd C.2.2.2.2.2.2.1
theorem W_zretN {p : Program} {l : Launch} {e : Env} {R : Room} {s : State} {m : MethodId} {args : Array Value} {below : List Frame} {meth : Method} {c : Code} {H : Heap} {locs : List Loc} {cells slots : Nat} {cc : ByteArray} {Qc : Array Value → State → Outcome → State → Prop} {free : Addr → Prop} {x y : Int32} {ty : FieldType} (hexec : p.tables.exec = Jvm.exec) (hb : c.code = cc) (hr : meth.sig.returnType = some ty) (hn : narrow ty (.int x) = .int y)
    (hq : ∀ t : State, t.heap = H → s.WarmedH t.vm → Qc args s (.returned (some (.int y))) t) (hf : ∀ q ∈ locs, free q.base)
    {pc : Nat} {ls : Array Slot} (hdg : decode cc pc = .ok (.ireturn, 1)) (hlocks : meth.locks = false) : W p l e R s m args below meth c H locs cells slots (MQ below Qc args s cells slots free) (F0 m pc ls [.int x]) := by
  intro T hT X
  obtain ⟨fs, hret, hrun, hended, hW, hframe⟩ := X.leave (v := some (.int y)) (fun h => by rw [hr] at h; cases h)
  have hmeth' : T.vm.method? m = some meth := X.method'
  refine ⟨T.setFrames fs, ?_, .returned (some (.int y)), hrun, hended, hq _ hT hW, locs, ⟨⟨_, rfl⟩, hW, hframe⟩, hf⟩
  jvm_step X.here [X.here.top, hexec, hb, hdg, hmeth', hr, hn]
  (try refine ⟨rfl, ?_⟩); (try refine ⟨rfl, ?_⟩)
  first | (intro acts; rw [hret _ acts rfl rfl rfl]) | rw [hret _ _ rfl rfl rfl]
  exact Steps.refl _
theorem v_zret {x : Int32} (hd : dn M pc .ireturn 1 pc') (hr : M.2.2.2 = some .boolean) : Vx G M d pc L [.int x] h (some (.int (nb x))) h := by
  obtain ⟨hd, rfl⟩ := hd
  intro p e s m args below meth c C H locs ls hR hS hL
  exact W_zretN C.1 C.2.1 (C.2.2.1.trans hr) rfl (fun t ht _ => ⟨rfl, by rw [ht]; exact hR, hS.F ht⟩) hS.2.2 hd C.2.2.2.2.2.2.1
/-! calls -/
theorem v_run {p : Program} {e : Env} {s : State} {m : MethodId} {args : Array Value} {below : List Frame} {meth : Method} {c : Code} {H : Heap} {locs : List Loc} {ls : Array Slot} {a : Array Value} {w : Option Value} {h1 : PH} {st0 rest : List Value} {Q : State → Prop} {R : Room}
    (hr : va_Run p G.1 e R s m args below meth c H locs 0 0 0 0 (F0 m pc ls st0) rest (QC G w h1 a) (gF G)) (hS : va_S (gF G) s.heap H locs)
    (kk : ∀ (H1 : Heap) (locs1 : List Loc), HR G h1 H1 → va_S (gF G) s.heap H1 locs1 → W p G.1 e R s m args below meth c H1 locs1 0 0 Q (F0 m (pc + 3) ls (w.toList ++ rest))) : W p G.1 e R s m args below meth c H locs 0 0 Q (F0 m pc ls st0) := by
  intro T hT X
  obtain ⟨v, st₀, t, T', L, h0, X', hL, e1, e2, ⟨hv, hb, hz, hk⟩, st⟩ := hr T hT X
  cases hv
  rw [h0] at hz hk
  obtain ⟨t2, a1, b1⟩ := kk T'.heap (locs ++ L) (by rw [e1]; exact hb)
    ⟨Nat.le_trans hS.1 (by rw [e1]; exact hz), fun q h1 h2 => by rw [e1, hk q (Nat.lt_of_lt_of_le h1 hS.1) h2]; exact hS.2.1 q h1 h2, fun q hq => by
      rcases List.mem_append.mp hq with h | h
      · exact hS.2.2 q h
      · exact hL q h⟩ T' rfl X'
  exact ⟨t2, st t2 a1, b1⟩
/-- a method that can be called: its words -/
def mW (M' : MM) (n : Nat) : Prop := Cond.code M'.1 M'.2.1 M'.2.2.1 M'.2.2.2 ∈ tb ∧ Cond.initialized M'.1.cls ∈ tb ∧ (M'.1.cls ≠ "java/lang/invoke/MethodHandle" ∧ M'.1.cls ≠ "java/lang/invoke/VarHandle" ∧ (parseMethodDescriptor M'.1.desc).map (fun d => d.parameters.length) = some n) ∧ M'.2.2.1 ≤ 40
def mV (M' : MM) (n : Nat) : Prop := mW M' n ∧ Cond.instanceMethod M'.1 ∈ tb ∧ Cond.selects M'.1.cls M'.1 M'.1 ∈ tb
def mS (M' : MM) (n : Nat) : Prop := mW M' n ∧ Cond.static M'.1 ∈ tb
theorem wsM_good {M' : MM} {n : Nat} (h : mW M' n) : GoodIn tb (wsM M') := by
  intro w hw
  rcases List.mem_cons.mp hw with rfl | hw
  · exact tb_good _ h.1
  · exact tb_good w hw
theorem blind {G : GG} {As : List Value} {h : PH} : FrameBlind (fun (a : Array Value) (U : State) => a = As.toArray ∧ HR G h U.heap ∧ va_K (gD G) clsL (ty3 G) U ∧ SX G U U.heap) := fun a U g mk q => ⟨q.1, q.2.1, va_K.moved (u := U) (U := U.calling g mk a) (Vm.Alike.refl U.vm) q.2.2.1, SX.same (s := U) (U := U.calling g mk a) rfl q.2.2.2⟩
theorem rm_ok {d k : Nat} (h : k ≤ 40) : (rmd d).frames + 1 ≤ (rmd (d + 1)).frames ∧ 8 + (k + 11) + (rmd d).locals ≤ (rmd (d + 1)).locals := by
  simp only [rmd]; omega
theorem v_callV {M' : MM} {idx n a ci n2 : Nat} {As : List Value} {w : Option Value} {h1 : PH} {st0 : List Value} (hd : dn M pc (.invokevirtual idx) 3 pc') (hl : Cond.methodLink M.1.cls idx M'.1 ∈ tb) (hm : mV M' n) (ha : shL[a]? = some (ci, n2)) (hci : (clsL[ci]?.map fun r => r.1) = some M'.1.cls) (hn : As.length = n) (hst : st0 = As.reverse ++ .ref (gB G + a) :: st) (hrest : (st.map fun v => v.category).sum ≤ 8)
    (hK : Kx G M' d (.ref (gB G + a) :: As) h w h1) (k : Vx G M (d + 1) pc' L (w.toList ++ st) h1 v h') : Vx G M (d + 1) pc L st0 h v h' := by
  obtain ⟨hd, rfl⟩ := hd
  intro p e s m args below meth c C H locs ls hR hS hL
  have hts := C.2.2.2.2.2.1
  have hKs := C.2.2.2.2.2.2.2.1
  have hLB := C.2.2.2.2.2.2.2.2
  obtain ⟨r, hcl, hcn⟩ := Option.map_eq_some_iff.mp hci
  obtain ⟨hlt, -⟩ := clK_all ci _ hcl
  have he := wd_at (B := gB G) (cA := gA G) (h := h) ha
  rw [ce_obj hlt] at he
  have hrecv : ∃ cellB : Cell, H[gB G + a]? = some cellB ∧ cellB.vm.isStatics = false ∧ s.vm.findClass M'.1.cls = some cellB.cls := by
    obtain ⟨r2, h1, cell, q1, q2, q3, q4⟩ := hR a _ he
    have hr : r2 = r := Option.some.inj (h1.symm.trans hcl)
    subst hr
    refine ⟨cell, q1, by rw [q3]; rfl, ?_⟩
    rw [q2, ← hcn]
    exact (hKs.1 ci _ hcl).2.1
  refine v_run (va_runV (n := n) (As := As) (rest := st) (Ts := tb) (bytes := M'.2.1) (maxL := M'.2.2.1) (ret := M'.2.2.2) ⟨C.1, C.2.1, C.2.2.2.1, C.2.2.2.2.1, hts⟩ hK ⟨callB_of n hts (wsM_good hm.1) rfl rfl rfl (hts _ hm.1.2.1) (hts _ hl) hm.1.2.2.1 (rm_ok hm.1.2.2.2), hts _ hm.2.1, hts _ hm.2.2⟩ ⟨blind, hrecv, fun U hU hW => ⟨rfl, by rw [hU]; exact hR, va_K.moved hW.alike hKs, by rw [hU]; exact (hLB.warm hW).go hS⟩⟩ rfl hn hL.1 hst (lv_room hrest) hd ⟨Nat.le_refl _, Nat.le_refl _⟩) hS (fun H1 locs1 hR1 hS1 => ?_)
  exact k p e s m args below meth c C H1 locs1 ls hR1 hS1 hL
theorem v_callS {M' : MM} {idx n : Nat} {As : List Value} {w : Option Value} {h1 : PH} {st0 : List Value} (hd : dn M pc (.invokestatic idx) 3 pc') (hl : Cond.methodLink M.1.cls idx M'.1 ∈ tb) (hm : mS M' n) (hn : As.length = n) (hst : st0 = As.reverse ++ st) (hrest : (st.map fun v => v.category).sum ≤ 8)
    (hK : Kx G M' d As h w h1) (k : Vx G M (d + 1) pc' L (w.toList ++ st) h1 v h') : Vx G M (d + 1) pc L st0 h v h' := by
  obtain ⟨hd, rfl⟩ := hd
  intro p e s m args below meth c C H locs ls hR hS hL
  have hts := C.2.2.2.2.2.1
  have hKs := C.2.2.2.2.2.2.2.1
  have hLB := C.2.2.2.2.2.2.2.2
  refine v_run (va_runS (n := n) (As := As) (rest := st) (Ts := tb) (bytes := M'.2.1) (maxL := M'.2.2.1) (ret := M'.2.2.2) ⟨C.1, C.2.1, C.2.2.2.1, C.2.2.2.2.1, hts⟩ hK ⟨callB_of n hts (wsM_good hm.1) rfl rfl rfl (hts _ hm.1.2.1) (hts _ hl) hm.1.2.2.1 (rm_ok hm.1.2.2.2), hts _ hm.2⟩ ⟨blind, fun U hU hW => ⟨rfl, by rw [hU]; exact hR, va_K.moved hW.alike hKs, by rw [hU]; exact (hLB.warm hW).go hS⟩⟩ rfl hn hL.1 hst (lv_room hrest) hd ⟨Nat.le_refl _, Nat.le_refl _⟩) hS (fun H1 locs1 hR1 hS1 => ?_)
  exact k p e s m args below meth c C H1 locs1 ls hR1 hS1 hL
theorem v_callSN {M' : MM} {idx n : Nat} {As : List Value} {w : Option Value} {h1 : PH} {st0 : List Value} (hd : dn M pc (.invokestatic idx) 3 pc') (hl : (M.1.cls, idx, M'.1) ∈ nsL) (hm : mS M' n) (hn : As.length = n) (hst : st0 = As.reverse ++ st) (hrest : (st.map fun v => v.category).sum ≤ 8)
    (hK : Kx G M' d As h w h1) (k : Vx G M (d + 1) pc' L (w.toList ++ st) h1 v h') : Vx G M (d + 1) pc L st0 h v h' := by
  obtain ⟨hd, rfl⟩ := hd
  intro p e s m args below meth c C H locs ls hR hS hL
  have hts := C.2.2.2.2.2.1
  have hKs := C.2.2.2.2.2.2.2.1
  have hLB := C.2.2.2.2.2.2.2.2
  have hG := wsM_good hm.1
  have hr2 := rm_ok (d := d) hm.1.2.2.2
  have hnw : va_Nw (.methodLinkNest M.1.cls idx M'.1 "GingerRents") s := hLB.1 (M.1.cls, idx, M'.1) hl
  have hcn : va_CN (rmd (d + 1)) s args M.1.cls idx M'.1 "GingerRents" M'.2.1 M'.2.2.1 M'.2.2.2 (wsM M') (rmd d) 0 0 n :=
    ⟨⟨rfl, rfl, hr2.1, hr2.2, pay_in hts hG, List.mem_cons_self⟩, hts _ hm.1.1, hts _ hm.1.2.1, ⟨hm.1.2.2.1.1, hm.1.2.2.1.2.1⟩, fun sig hsig => by have h2 := hm.1.2.2.1.2.2; rw [hsig] at h2; exact (Option.some.inj h2).symm, va_Nw.use rfl hnw⟩
  refine v_run (va_runSN (n := n) (As := As) (rest := st) (Ts := tb) ⟨C.1, C.2.1, C.2.2.2.1, C.2.2.2.2.1, hts⟩ hK ⟨hcn, hts _ hm.2, trivial⟩ ⟨blind, fun U hU hW => ⟨rfl, by rw [hU]; exact hR, va_K.moved hW.alike hKs, by rw [hU]; exact (hLB.warm hW).go hS⟩⟩ rfl hn hL.1 hst (lv_room hrest) hd ⟨Nat.le_refl _, Nat.le_refl _⟩) hS (fun H1 locs1 hR1 hS1 => ?_)
  exact k p e s m args below meth c C H1 locs1 ls hR1 hS1 hL
end HP
end
