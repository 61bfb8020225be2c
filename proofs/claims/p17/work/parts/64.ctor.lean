/-! THE CONSTRUCTORS: a world that grows; cell a is F a, for a < n. Printed by wip/gen/p64.py -/
abbrev CE : Type := Nat × Nat × List Value × (Nat → Int32) × (Nat → Option Nat)
abbrev CF : Type := Nat → CE
def sF (F : CF) (a : Nat) (c : CE) : CF := fun b => if b = a then c else F b
def rv (B : Nat) (v : Value) : Value := match v with
  | .ref a => .ref (B + a)
  | v => v
def ceE (B : Nat) (cA : Nat → ClassId) (c : CE) : va_E :=
  if c.1 < 20 then .inr (c.1, c.2.2.1.map (rv B))
  else if c.1 = 22 then .inl (cA 2, c.2.1, .inr (.inr (.inr (.inr (fun j => (c.2.2.2.2 j).map (B + ·))))))
  else .inl (cA (c.1 - 20), c.2.1, .inl c.2.2.2.1)
def wn (B : Nat) (cA : Nat → ClassId) (n : Nat) (F : CF) : va_W := (List.range n).map fun a => (B + a, ceE B cA (F a))
theorem wn_at {B : Nat} {cA : Nat → ClassId} {n a : Nat} {F : CF} (h : a < n) : (wn B cA n F)[a]? = some (B + a, ceE B cA (F a)) := by
  simp [wn, h]
theorem wn_inv {B : Nat} {cA : Nat → ClassId} {n a : Nat} {F : CF} {q : Nat × va_E} (hq : (wn B cA n F)[a]? = some q) : a < n ∧ q = (B + a, ceE B cA (F a)) := by
  have hl : a < n := by simpa [wn] using (List.getElem?_eq_some_iff.mp hq).1
  rw [wn_at hl] at hq
  exact ⟨hl, (Option.some.inj hq).symm⟩
theorem wn_D (B : Nat) (cA : Nat → ClassId) (n : Nat) (F : CF) : va_D (fun q => B ≤ q) (wn B cA n F) := by
  refine ⟨fun i j p q hi hj e => ?_, fun k q hk => ?_⟩
  · obtain ⟨-, rfl⟩ := wn_inv hi
    obtain ⟨-, rfl⟩ := wn_inv hj
    exact Nat.add_left_cancel e
  · obtain ⟨-, rfl⟩ := wn_inv hk
    exact Nat.le_add_right B k
theorem wn_set {B : Nat} {cA : Nat → ClassId} {n a : Nat} {F : CF} {c : CE} {e : va_E} (h : a < n) (he : ceE B cA c = e) : (wn B cA n F).set a (B + a, e) = wn B cA n (sF F a c) := by
  apply List.ext_getElem?
  intro i
  by_cases hi : i = a
  · subst hi
    rw [List.getElem?_set_self (by simpa [wn] using h), wn_at h]
    simp [sF, he]
  · rw [List.getElem?_set_ne (Ne.symm hi)]
    by_cases hn : i < n
    · rw [wn_at hn, wn_at hn]; simp [sF, hi]
    · simp [wn, hn]
theorem wn_push {B : Nat} {cA : Nat → ClassId} {n : Nat} {F : CF} {c : CE} {e : va_E} (he : ceE B cA c = e) : wn B cA n F ++ [(B + n, e)] = wn B cA (n + 1) (sF F n c) := by
  apply List.ext_getElem?
  intro i
  have hlen : (wn B cA n F).length = n := by simp [wn]
  by_cases hn : i < n
  · rw [List.getElem?_append_left (by rw [hlen]; exact hn), wn_at hn, wn_at (by omega)]
    simp [sF, Nat.ne_of_lt hn]
  · by_cases hi : i = n
    · subst hi
      rw [List.getElem?_append_right (by rw [hlen]; exact Nat.le_refl _), hlen, Nat.sub_self, wn_at (by omega)]
      simp [sF, he]
    · rw [List.getElem?_eq_none (by simp [hlen]; omega), List.getElem?_eq_none (by simp [wn]; omega)]
def rmc (d mc ms : Nat) : Room := { frames := d + 1, cells := mc, slots := ms, locals := 64 * (d + 1) }
def nsL2 : List (String × Nat × MethodName) := [("GingerRents", 9, ⟨"GingerRents$Borough", "<init>", "()V"⟩), ("GingerRents", 12, ⟨"GingerRents$Told", "<init>", "()V"⟩), ("GingerRents$Past", 19, ⟨"GingerRents$Borough", "<init>", "()V"⟩), ("GingerRents", 65, ⟨"GingerRents$Tape", "<init>", "()V"⟩), ("GingerRents", 81, ⟨"GingerRents$Street", "<init>", "()V"⟩), ("GingerRents", 88, ⟨"GingerRents$Kitchen", "<init>", "()V"⟩), ("GingerRents", 95, ⟨"GingerRents$Slab", "<init>", "()V"⟩)]
def NS2 (U : State) : Prop := (∀ q ∈ nsL2, va_Nw (.methodLinkNest q.1 q.2.1 q.2.2 "GingerRents") U) ∧ va_AO "GingerRents$Borough" U
theorem NS2.warm {s U : State} (hW : s.WarmedH U.vm) (h : NS2 s) : NS2 U := ⟨fun q hq => va_Nw.warmM hW (h.1 q hq), h.2.moved hW.alike⟩
theorem NS2.same {s U : State} (hv : U.vm = s.vm) (h : NS2 s) : NS2 U := ⟨fun q hq => va_Nw.same rfl hv.symm (h.1 q hq), h.2.moved (by rw [hv]; exact Vm.Alike.refl s.vm)⟩
def HC (G : GG) (n : Nat) (F : CF) (H : Heap) : Prop := H.size = gB G + n ∧ va_P (gD G) clsL (wn (gB G) (gA G) n F) H
def Cc (G : GG) (M : MM) (p : Program) (s : State) (m : MethodId) (args : Array Value) (meth : Method) (c : Code) : Prop :=
  p.tables.exec = Jvm.exec ∧ c.code = M.2.1 ∧ meth.sig.returnType = M.2.2.2 ∧ c.maxLocals = M.2.2.1 ∧ s.vm.findClass M.1.cls = some m.cls ∧ (∀ w ∈ tb, w.before args s = true) ∧ meth.locks = false ∧ va_K (gD G) clsL (ty3 G) s ∧ NS2 s ∧ meth.name = "<init>" ∧ gB G ≤ s.heap.size
def QCc (G : GG) (n' : Nat) (F' : CF) : Array Value → State → Outcome → State → Prop := fun _ st o t => o = .returned none ∧ HC G n' F' t.heap ∧ va_F (gF G) st t
def Vc (G : GG) (M : MM) (d mc ms pc : Nat) (L : List (Option Value)) (st : List Value) (k t n : Nat) (F : CF) (n' : Nat) (F' : CF) : Prop :=
  ∀ (p : Program) (e : Env) (s : State) (m : MethodId) (args : Array Value) (below : List Frame) (meth : Method) (c : Code), Cc G M p s m args meth c →
  ∀ (H : Heap) (locs : List Loc) (ls : Array Slot), HC G n F H → va_S (gF G) s.heap H locs → LV ls M.2.2.1 L →
    W p G.1 e (rmc d mc ms) s m args below meth c H locs k t (MQ below (QCc G n' F') args s mc ms (gF G)) (F0 m pc ls st)
def Kc (G : GG) (M : MM) (d mc ms : Nat) (As : List Value) (n : Nat) (F : CF) (n' : Nat) (F' : CF) : Prop :=
  Met G.1 M.1 (wsM M) (rmc d mc ms) (fun a U => a = As.toArray ∧ HC G n F U.heap ∧ va_K (gD G) clsL (ty3 G) U ∧ NS2 U) (QCc G n' F') mc ms (gF G)
theorem K_of_Vc {G : GG} {M : MM} {d mc ms : Nat} {As : List Value} {n n' : Nat} {F F' : CF} (hp : plainName M.1.cls = true) (hnm : M.1.name = "<init>") (hc : ∀ v ∈ As, v.category = 1) (hn : As.length ≤ M.2.2.1)
    (k : Vc G M d mc ms 0 (ini M.2.2.1 As) [] 0 0 n F n' F') : Kc G M d mc ms As n F n' F' := by
  refine Met.ofW (cc := M.2.1) (maxL := M.2.2.1) (ret := M.2.2.2) hp rfl ?_
  intro p e s m args below meth c s₁ B hml hv
  obtain ⟨rfl, hR, hK, hN⟩ := hv
  have hts : ∀ w ∈ wsM M, w.before As.toArray s = true := atoms_spec (ws := wsM M) B.pre
  have hl := lv_entry As (n := M.2.2.1) (by rw [sl_one As hc]; exact hn)
  rw [lg_entry_eq]
  refine k p e s m As.toArray below meth c ⟨B.exec, B.bytes, B.returns, hml, findClass_of_methodNamed B.named, fun w hw => hts w (List.mem_cons_of_mem _ hw), B.notSynchronized, hK, hN, (name_of_methodNamed B.named B.method).1.trans hnm, by rw [hR.1]; exact Nat.le_add_right _ _⟩ s.heap [] _ hR va_S.rf ⟨hl.1, hl.2.1, fun i v hi => ?_⟩
  have := hl.2.2 (i, v) (by have := lv_args_one As 0 hc i v (ini_at hi); rwa [Nat.zero_add] at this)
  exact this
set_option maxRecDepth 20000 in
theorem w_obj : Cond.instanceMethod Lib.objectInit ∈ tb ∧ Cond.code Lib.objectInit ⟨#[0xb1]⟩ 1 none ∈ tb := ⟨tb_in (by decide +kernel) rfl, tb_in (by decide +kernel) rfl⟩
section CT
variable {G : GG} {M : MM} {d mc ms pc pc' tgt : Nat} {L : List (Option Value)} {st : List Value} {k t n n' : Nat} {F F' : CF}
theorem c_iconst {q : Int} {x : Int32} (hd : dn M pc (.iconst q) 1 pc') (hv : Int32.ofInt q = x) (kk : Vc G M d mc ms pc' L (.int x :: st) k t n F n' F') : Vc G M d mc ms pc L st k t n F n' F' := by
  obtain ⟨hd, rfl⟩ := hd
  intro p e s m args below meth c C H locs ls hR hS hL
  exact lv_iconst C.1 C.2.1 hd hv (kk p e s m args below meth c C H locs ls hR hS hL)
theorem c_bipush {q : Int} {x : Int32} (hd : dn M pc (.bipush q) 2 pc') (hv : (Int8.ofInt q).toInt32 = x) (kk : Vc G M d mc ms pc' L (.int x :: st) k t n F n' F') : Vc G M d mc ms pc L st k t n F n' F' := by
  obtain ⟨hd, rfl⟩ := hd
  intro p e s m args below meth c C H locs ls hR hS hL
  exact lv_bipush C.1 C.2.1 hd hv (kk p e s m args below meth c C H locs ls hR hS hL)
theorem c_sipush {q : Int} {x : Int32} (hd : dn M pc (.sipush q) 3 pc') (hv : (Int16.ofInt q).toInt32 = x) (kk : Vc G M d mc ms pc' L (.int x :: st) k t n F n' F') : Vc G M d mc ms pc L st k t n F n' F' := by
  obtain ⟨hd, rfl⟩ := hd
  intro p e s m args below meth c C H locs ls hR hS hL
  exact lv_sipush C.1 C.2.1 hd hv (kk p e s m args below meth c C H locs ls hR hS hL)
theorem c_ldc {q : Nat} {x : Int32} (hd : dn M pc (.ldc q) 2 pc') (hw : Cond.constant M.1.cls q x ∈ tb) (kk : Vc G M d mc ms pc' L (.int x :: st) k t n F n' F') : Vc G M d mc ms pc L st k t n F n' F' := by
  obtain ⟨hd, rfl⟩ := hd
  intro p e s m args below meth c C H locs ls hR hS hL
  exact lv_ldc C.1 C.2.1 C.2.2.2.2.1 (C.2.2.2.2.2.1 _ hw) hd (kk p e s m args below meth c C H locs ls hR hS hL)
theorem c_imul {x y z : Int32} (hd : dn M pc .imul 1 pc') (hz : x * y = z) (kk : Vc G M d mc ms pc' L (.int z :: st) k t n F n' F') : Vc G M d mc ms pc L (.int y :: .int x :: st) k t n F n' F' := by
  obtain ⟨hd, rfl⟩ := hd
  intro p e s m args below meth c C H locs ls hR hS hL
  exact lv_imul C.1 C.2.1 hd (by rw [hz]; exact (kk p e s m args below meth c C H locs ls hR hS hL))
theorem c_dup {w : Value} (hd : dn M pc .dup 1 pc') (hw : w.category = 1) (kk : Vc G M d mc ms pc' L (w :: w :: st) k t n F n' F') : Vc G M d mc ms pc L (w :: st) k t n F n' F' := by
  obtain ⟨hd, rfl⟩ := hd
  intro p e s m args below meth c C H locs ls hR hS hL
  exact lv_dup C.1 C.2.1 hd hw (kk p e s m args below meth c C H locs ls hR hS hL)
theorem c_goto (hd : db M pc .goto tgt pc') (kk : Vc G M d mc ms tgt L st k t n F n' F') : Vc G M d mc ms pc L st k t n F n' F' := by
  obtain ⟨off, hd, ht, rfl⟩ := hd
  intro p e s m args below meth c C H locs ls hR hS hL
  exact lv_goto C.1 C.2.1 hd ht (kk p e s m args below meth c C H locs ls hR hS hL)
theorem c_ge_t {x y : Int32} (hd : db M pc (.if_icmp .ge) tgt pc') (hc : y ≤ x) (kk : Vc G M d mc ms tgt L st k t n F n' F') : Vc G M d mc ms pc L (.int y :: .int x :: st) k t n F n' F' := by
  obtain ⟨off, hd, ht, rfl⟩ := hd
  intro p e s m args below meth c C H locs ls hR hS hL
  exact lv_icmp_ge C.1 C.2.1 hd ht (fun _ => (kk p e s m args below meth c C H locs ls hR hS hL)) (fun q => absurd hc q)
theorem c_ge_f {x y : Int32} (hd : db M pc (.if_icmp .ge) tgt pc') (hc : ¬ y ≤ x) (kk : Vc G M d mc ms pc' L st k t n F n' F') : Vc G M d mc ms pc L (.int y :: .int x :: st) k t n F n' F' := by
  obtain ⟨off, hd, ht, rfl⟩ := hd
  intro p e s m args below meth c C H locs ls hR hS hL
  exact lv_icmp_ge C.1 C.2.1 hd ht (fun q => absurd q hc) (fun _ => (kk p e s m args below meth c C H locs ls hR hS hL))
theorem c_iload {i : Nat} {x : Int32} (hd : dl M pc .iload_n .iload i pc') (hl : L[i]? = some (some (.int x))) (kk : Vc G M d mc ms pc' L (.int x :: st) k t n F n' F') : Vc G M d mc ms pc L st k t n F n' F' := by
  intro p e s m args below meth c C H locs ls hR hS hL
  rcases hd with ⟨k0, hd, e1, rfl⟩ | ⟨hd, rfl⟩
  · exact lv_iload_n C.1 C.2.1 hd e1 (hL.2.2 i _ hl) (kk p e s m args below meth c C H locs ls hR hS hL)
  · exact lv_iload C.1 C.2.1 hd (hL.2.2 i _ hl) (kk p e s m args below meth c C H locs ls hR hS hL)
theorem c_aload {i : Nat} {x : Nat} (hd : dl M pc .aload_n .aload i pc') (hl : L[i]? = some (some (.ref x))) (kk : Vc G M d mc ms pc' L (.ref x :: st) k t n F n' F') : Vc G M d mc ms pc L st k t n F n' F' := by
  intro p e s m args below meth c C H locs ls hR hS hL
  rcases hd with ⟨k0, hd, e1, rfl⟩ | ⟨hd, rfl⟩
  · exact lv_aload_n C.1 C.2.1 hd e1 (hL.2.2 i _ hl) (kk p e s m args below meth c C H locs ls hR hS hL)
  · exact lv_aload C.1 C.2.1 hd (hL.2.2 i _ hl) (kk p e s m args below meth c C H locs ls hR hS hL)
theorem c_istore {i : Nat} {x : Int32} (hd : dl M pc .istore_n .istore i pc') (hn : i < M.2.2.1) (hk : okS L i = true) (kk : Vc G M d mc ms pc' (L.set i (some (.int x))) st k t n F n' F') : Vc G M d mc ms pc L (.int x :: st) k t n F n' F' := by
  intro p e s m args below meth c C H locs ls hR hS hL
  rcases hd with ⟨k0, hd, e1, rfl⟩ | ⟨hd, rfl⟩
  · exact lv_istore_n C.1 C.2.1 hd e1 hL.has hn rfl (fun ls' hl' => kk p e s m args below meth c C H locs ls' hR hS (LV.of hl' hk))
  · exact lv_istore C.1 C.2.1 hd hL.has hn rfl (fun ls' hl' => kk p e s m args below meth c C H locs ls' hR hS (LV.of hl' hk))
theorem c_astore {i : Nat} {x : Nat} (hd : dl M pc .astore_n .astore i pc') (hn : i < M.2.2.1) (hk : okS L i = true) (kk : Vc G M d mc ms pc' (L.set i (some (.ref x))) st k t n F n' F') : Vc G M d mc ms pc L (.ref x :: st) k t n F n' F' := by
  intro p e s m args below meth c C H locs ls hR hS hL
  rcases hd with ⟨k0, hd, e1, rfl⟩ | ⟨hd, rfl⟩
  · exact lv_astore_n C.1 C.2.1 hd e1 hL.has hn rfl (fun ls' hl' => kk p e s m args below meth c C H locs ls' hR hS (LV.of hl' hk))
  · exact lv_astore C.1 C.2.1 hd hL.has hn rfl (fun ls' hl' => kk p e s m args below meth c C H locs ls' hR hS (LV.of hl' hk))
theorem c_iinc {i : Nat} {q : Int} {x y : Int32} (hd : dn M pc (.iinc i q) 3 pc') (hl : L[i]? = some (some (.int x))) (hy : x + Int32.ofInt q = y) (hn : i < M.2.2.1) (hk : okS L i = true) (kk : Vc G M d mc ms pc' (L.set i (some (.int y))) st k t n F n' F') : Vc G M d mc ms pc L st k t n F n' F' := by
  obtain ⟨hd, rfl⟩ := hd
  intro p e s m args below meth c C H locs ls hR hS hL
  obtain ⟨j, hj⟩ := List.getElem?_of_mem (aL_mem.mpr hl)
  exact lv_iinc C.1 C.2.1 hd hL.has hj hy hn rfl (fun ls' hl' => kk p e s m args below meth c C H locs ls' hR hS (LV.of hl' hk))
theorem c_mmax {idx : Nat} {x y z : Int32} (hd : dn M pc (.invokestatic idx) 3 pc') (hl : Cond.methodLink M.1.cls idx Lib.Math.max.name ∈ tb) (hz : imax x y = z) (hrest : (st.map fun v => v.category).sum ≤ 8) (hk : k ≤ mc) (ht : t ≤ ms) (kk : Vc G M d mc ms pc' L (.int z :: st) k t n F n' F') : Vc G M d mc ms pc L (.int y :: .int x :: st) k t n F n' F' := by
  obtain ⟨hd, rfl⟩ := hd
  subst hz
  intro p e s m args below meth c C H locs ls hR hS hL
  have hts := C.2.2.2.2.2.1
  exact va_mmax C.1 C.2.1 (C.2.2.2.1.trans hL.1.symm) C.2.2.2.2.1 (hts _ hl) (hts _ w_max.1) (hts _ w_max.2.1) (hts _ w_max.2.2) (by simp only [rmc]; omega) (by simp only [rmc]; omega) hk ht hd (kk p e s m args below meth c C H locs ls hR hS hL)
theorem ceE_obj {B : Nat} {cA : Nat → ClassId} {c : CE} {ci : Nat} (h : c.1 = ci) (hlt : ci < 20) : ceE B cA c = .inr (ci, c.2.2.1.map (rv B)) := by
  subst h; simp [ceE, hlt]
theorem c_get {idx ci j a : Nat} {w w' : Value} (hd : dn M pc (.getfield idx) 3 pc') (hf : fu M.1.cls idx ci j) (ha : a < n) (hc : (F a).1 = ci) (hl : (F a).2.2.1[j]? = some w) (hw : rv (gB G) w = w') (kk : Vc G M d mc ms pc' L (w' :: st) k t n F n' F') : Vc G M d mc ms pc L (.ref (gB G + a) :: st) k t n F n' F' := by
  obtain ⟨hd, rfl⟩ := hd
  intro p e s m args below meth c C H locs ls hR hS hL
  obtain ⟨Cn, T, N, hcl, hk, hdecl, hlink⟩ := hf
  obtain ⟨hlt, hcls⟩ := clK_all ci _ hcl
  have he := wn_at (B := gB G) (cA := gA G) (F := F) ha
  rw [ceE_obj hc hlt] at he
  refine va_get C.1 C.2.1 C.2.2.2.2.2.1 hcls.1 C.2.2.2.2.1 C.2.2.2.2.2.2.2.1 hR.2 a he hcl j hk (C.2.2.2.2.2.1 _ hlink) (fun x hx => by rw [hdecl] at hx; exact hx) (v := w') ?_ hd (kk p e s m args below meth c C H locs ls hR hS hL)
  rw [List.getElem?_map, hl, ← hw]
  rfl
def ftc (ci j : Nat) (v : Value) : Prop := ∃ (C : String) (T : u_T) (N : Nat) (ty : FieldType), clsL[ci]? = some (C, T, N) ∧ parseFieldDescriptor (T j).2.2.1 = some ty ∧ narrow ty v = v ∧ fits ty v = true
theorem c_put {idx ci j a : Nat} {w w' : Value} {cc : CE} (hd : dn M pc (.putfield idx) 3 pc') (hf : fu M.1.cls idx ci j) (ht : ftc ci j w') (hown : (clsL[ci]?.map fun r => r.1) = some M.1.cls) (ha : a < n) (hc : (F a).1 = ci) (hj : j < (F a).2.2.1.length) (hw : rv (gB G) w = w') (hcc : (ci, (F a).2.1, (F a).2.2.1.set j w, (F a).2.2.2.1, (F a).2.2.2.2) = cc) (kk : Vc G M d mc ms pc' L st k t n (sF F a cc) n' F') : Vc G M d mc ms pc L (w' :: .ref (gB G + a) :: st) k t n F n' F' := by
  obtain ⟨hd, rfl⟩ := hd
  subst hcc
  intro p e s m args below meth c C H locs ls hR hS hL
  obtain ⟨Cn, T, N, hcl, hk, hdecl, hlink⟩ := hf
  obtain ⟨hlt, hcls⟩ := clK_all ci _ hcl
  obtain ⟨C2, T2, N2, ty, hc2, hpt, hn, hfit⟩ := ht
  cases hcl.symm.trans hc2
  have ho : Cn = M.1.cls := by rw [hcl] at hown; exact Option.some.inj hown
  have he := wn_at (B := gB G) (cA := gA G) (F := F) ha
  rw [ceE_obj hc hlt] at he
  obtain ⟨ty0, hty⟩ := hcls.2.1
  have hset : ceE (gB G) (gA G) (ci, (F a).2.1, (F a).2.2.1.set j w, (F a).2.2.2.1, (F a).2.2.2.2) = .inr (ci, ((F a).2.2.1.map (rv (gB G))).set j w') := by
    rw [ceE_obj rfl hlt, List.map_set, hw]
  have fin : ∀ (H1 : Heap) (locs1 : List Loc), H1.size = H.size → va_P (gD G) clsL ((wn (gB G) (gA G) n F).set a (gB G + a, .inr (ci, ((F a).2.2.1.map (rv (gB G))).set j w'))) H1 → va_S (gF G) s.heap H1 locs1 → W p G.1 e (rmc d mc ms) s m args below meth c H1 locs1 k t (MQ below (QCc G n' F') args s mc ms (gF G)) (F0 m (pc + 3) ls st) := by
    intro H1 locs1 hz hP1 hS1
    rw [wn_set ha hset] at hP1
    exact kk p e s m args below meth c C H1 locs1 ls ⟨hz.trans hR.1, hP1⟩ hS1 hL
  have hap := va_apart (own := Cn) C.2.2.2.2.2.1 hcls.1 ty0 hty hcls.2.2 C.2.2.2.2.2.2.2.1 hcl
  obtain ⟨r, h1, cell, q1, q2, q3, q4⟩ := hR.2 a _ he
  have hr : r = (Cn, T, N) := Option.some.inj (h1.symm.trans hcl)
  subst hr
  obtain ⟨hSl, hfc, kC, hkC, hkind⟩ := C.2.2.2.2.2.2.2.1.1 ci _ hcl
  obtain ⟨cf, kf, fi, f, hi, hsl⟩ := hSl j hk
  have hst := (u_facts hfc hkC (u_lays C.2.2.2.2.2.1 hcls.1 hk) hi).1
  have hl : j < ((F a).2.2.1.map (rv (gB G))).length := by simpa using hj
  have hD := wn_D (gB G) (gA G) n F
  have hlink' := C.2.2.2.2.2.1 _ hlink
  have hi' : s.fieldFound? Cn (T j).2.1 (T j).2.2.1 = some (cf, kf, fi, f) := by rw [← hdecl]; exact hi
  have hlay := C.2.2.2.2.2.1 _ (hcls.1 _ (u_in_lay hk))
  unfold u_lay at hlay
  cases hfin : (T j).2.2.2 with
  | false =>
    rw [if_neg (by rw [hfin]; decide)] at hlay
    have h6 := u_store hfc hkC hkind hlay hi hpt hn hfit
    refine W.putK C.1 C.2.1 (f := f) ⟨C.2.2.2.2.1, hlink', ⟨_, _, _, hi'⟩, hst⟩ (by rw [q2]; exact h6) q1 q3 (by rw [hsl]; exact k2_hasslot (q4 j hk)) rfl rfl hd fun H' e1 e2 e3 => ?_
    rw [hsl] at e1 ⊢
    exact fin H' _ e2 (hR.2.set hD he ⟨_, hcl, t_OB.to (V := updV (vp_V ((F a).2.2.1.map (rv (gB G)))) j w') ⟨_, e1, q2, q3, t_set q4 hap hk w'⟩ (fun i _ => vp_updV_set hl w' i)⟩ e3) (hS.put e2 e3 (hD.2 a _ he))
  | true =>
    rw [if_pos hfin] at hlay
    have hcf : m.cls = cf := by
      obtain ⟨_, _, c', _, _, _, -, -, hf', -, -, -, hown2, -⟩ := Cond.laysFinal_spec hlay
      have e1 : c' = cf := by have := hi.symm.trans hf'; simp at this; exact this.1.symm
      rw [hdecl, ho] at hown2
      rw [← e1]; exact Option.some.inj (C.2.2.2.2.1.symm.trans hown2)
    have h6 := u_fits hfc hkC hkind (Or.inr hlay) hi hpt hn hfit
    refine W.putFinK C.1 C.2.1 C.2.2.2.2.1 hlink' hi' hst hcf C.2.2.2.2.2.2.2.2.2.1 (by rw [q2]; exact h6) q1 q3 (by rw [hsl]; exact k2_hasslot (q4 j hk)) rfl rfl hd fun H' e1 e2 e3 => ?_
    rw [hsl] at e1 ⊢
    exact fin H' _ e2 (hR.2.set hD he ⟨_, hcl, t_OB.to (V := updV (vp_V ((F a).2.2.1.map (rv (gB G)))) j w') ⟨_, e1, q2, q3, t_set q4 hap hk w'⟩ (fun i _ => vp_updV_set hl w' i)⟩ e3) (hS.put e2 e3 (hD.2 a _ he))
def z0 : Nat → Int32 := fun _ => 0
def zn : Nat → Option Nat := fun _ => none
/-- the world behind a new cell -/
theorem HC_push {H H1 : Heap} {e : va_E} {cc : CE} (hR : HC G n F H) (he : ceE (gB G) (gA G) cc = e) (z1 : H1.size = H.size + 1) (o1 : ∀ q, q < H.size → H1[q]? = H[q]?) (hat : va_at (gD G) clsL (gB G + n, e) H1) : HC G (n + 1) (sF F n cc) H1 := by
  refine ⟨by rw [z1, hR.1]; omega, ?_⟩
  rw [← wn_push he]
  refine (hR.2.kept (fun k x hx => o1 x.1 ((hR.2 k x hx).lt))).app (fun k x hx => ?_)
  have hz : k < 1 := (List.getElem?_eq_some_iff.mp hx).1
  rw [show k = 0 by omega] at hx
  cases hx
  exact hat
theorem S_push {H0 H H1 : Heap} {locs : List Loc} {A : Nat → Prop} (hS : va_S A H0 H locs) (z1 : H1.size = H.size + 1) (o1 : ∀ q, q < H.size → H1[q]? = H[q]?) : va_S A H0 H1 locs := ⟨Nat.le_trans hS.1 (by omega), fun x h1 h2 => (o1 x (Nat.lt_of_lt_of_le h1 hS.1)).trans (hS.2.1 x h1 h2), hS.2.2⟩
theorem c_new {idx ci N : Nat} {Cn : String} {T : u_T} {ty : Nat → FieldType} (fs : List Value) (hd : dn M pc (.new idx) 3 pc') (hcl : Cond.classLink M.1.cls idx Cn ∈ tb) (hins : Cond.instantiable Cn N ∈ tb) (hini : Cond.initialized Cn ∈ tb) (hc : clsL[ci]? = some (Cn, T, N)) (hty : ∀ j, j < N → parseFieldDescriptor (T j).2.2.1 = some (ty j)) (hfs : ∀ j, j < N → defaultValue (ty j) = vp_V fs j) (hmap : fs.map (rv (gB G)) = fs) (hk : k + 1 ≤ mc) (ht : t + N ≤ ms)
    (kk : Vc G M d mc ms pc' L (.ref (gB G + n) :: st) (k + 1) (t + N) (n + 1) (sF F n (ci, N, fs, z0, zn)) n' F') : Vc G M d mc ms pc L st k t n F n' F' := by
  obtain ⟨hd, rfl⟩ := hd
  intro p e s m args below meth c C H locs ls hR hS hL
  have hts := C.2.2.2.2.2.1
  obtain ⟨hlt, hcls⟩ := clK_all ci _ hc
  have hKn := C.2.2.2.2.2.2.2.1.1 ci _ hc
  refine W.newcK C.1 C.2.1 C.2.2.2.2.1 (hts _ hcl) (hts _ hins) (hts _ hini) rfl hd hk ht hKn.2.1 hR.1 fun H1 kC hkC e1 z1 o1 => ?_
  have z1' : H1.size = H.size + 1 := by rw [z1, hR.1]
  have o1' : ∀ q, q < H.size → H1[q]? = H[q]? := fun q hq => o1 q (by rw [← hR.1]; exact hq)
  refine kk p e s m args below meth c C H1 locs ls (HC_push hR (e := .inr (ci, fs)) (by rw [ceE_obj rfl hlt]; exact congrArg (fun q => Sum.inr (ci, q)) hmap) z1' o1' ?_) (S_push hS z1' o1') hL
  exact ⟨_, hc, (u_born ty hts hcls.1 hKn hkC e1 hty).to hfs⟩
theorem c_newi {N : Nat} {x : Int32} (hd : dn M pc (.newarray .int) 2 pc') (hw : Cond.arrayClass .int ∈ tb) (hn : ¬ x < 0) (hN : x.toNatClampNeg = N) (hb : N * 4 ≤ 536870912) (hk : k + 1 ≤ mc) (ht : t + N ≤ ms)
    (kk : Vc G M d mc ms pc' L (.ref (gB G + n) :: st) (k + 1) (t + N) (n + 1) (sF F n (20, N, [], z0, zn)) n' F') : Vc G M d mc ms pc L (.int x :: st) k t n F n' F' := by
  obtain ⟨hd, rfl⟩ := hd
  intro p e s m args below meth c C H locs ls hR hS hL
  have hts := C.2.2.2.2.2.1
  refine va_newaK (atype := .int) C.1 C.2.1 (hts _ hw) rfl hd rfl hn hN hb hk ht hR.1 fun H1 cA e1 z1 o1 hAr hNm => ?_
  have z1' : H1.size = H.size + 1 := by rw [z1, hR.1]
  have o1' : ∀ q, q < H.size → H1[q]? = H[q]? := fun q hq => o1 q (by rw [← hR.1]; exact hq)
  have hcA : cA = gA G 0 := Option.some.inj (hNm.symm.trans (C.2.2.2.2.2.2.2.1.2 0 (gA G 0, .int) rfl).2)
  refine kk p e s m args below meth c C H1 locs ls (HC_push hR (e := .inl (gA G 0, N, .inl z0)) rfl z1' o1' ?_) (S_push hS z1' o1') hL
  show H1[gB G + n]? = some (vp_cell (gA G 0) (N, .inl z0))
  rw [e1, hcA]
  rfl
theorem c_newb {N : Nat} {x : Int32} (hd : dn M pc (.newarray .byte) 2 pc') (hw : Cond.arrayClass .byte ∈ tb) (hn : ¬ x < 0) (hN : x.toNatClampNeg = N) (hb : N * 1 ≤ 536870912) (hk : k + 1 ≤ mc) (ht : t + N ≤ ms)
    (kk : Vc G M d mc ms pc' L (.ref (gB G + n) :: st) (k + 1) (t + N) (n + 1) (sF F n (21, N, [], z0, zn)) n' F') : Vc G M d mc ms pc L (.int x :: st) k t n F n' F' := by
  obtain ⟨hd, rfl⟩ := hd
  intro p e s m args below meth c C H locs ls hR hS hL
  have hts := C.2.2.2.2.2.1
  refine va_newaK (atype := .byte) C.1 C.2.1 (hts _ hw) rfl hd rfl hn hN hb hk ht hR.1 fun H1 cA e1 z1 o1 hAr hNm => ?_
  have z1' : H1.size = H.size + 1 := by rw [z1, hR.1]
  have o1' : ∀ q, q < H.size → H1[q]? = H[q]? := fun q hq => o1 q (by rw [← hR.1]; exact hq)
  have hcA : cA = gA G 1 := Option.some.inj (hNm.symm.trans (C.2.2.2.2.2.2.2.1.2 1 (gA G 1, .byte) rfl).2)
  refine kk p e s m args below meth c C H1 locs ls (HC_push hR (e := .inl (gA G 1, N, .inl z0)) rfl z1' o1' ?_) (S_push hS z1' o1') hL
  show H1[gB G + n]? = some (vp_cell (gA G 1) (N, .inl z0))
  rw [e1, hcA]
  rfl
theorem c_anew {idx N : Nat} {x : Int32} (hd : dn M pc (.anewarray idx) 3 pc') (hcl : Cond.classLink M.1.cls idx "GingerRents$Borough" ∈ tb) (hn : ¬ x < 0) (hN : x.toNatClampNeg = N) (hb : N * 4 ≤ 536870912) (hk : k + 1 ≤ mc) (ht : t + N ≤ ms)
    (kk : Vc G M d mc ms pc' L (.ref (gB G + n) :: st) (k + 1) (t + N) (n + 1) (sF F n (22, N, [], z0, zn)) n' F') : Vc G M d mc ms pc L (.int x :: st) k t n F n' F' := by
  obtain ⟨hd, rfl⟩ := hd
  subst hN
  intro p e s m args below meth c C H locs ls hR hS hL
  have hts := C.2.2.2.2.2.1
  refine W.anew C.1 C.2.1 C.2.2.2.2.1 (hts _ hcl) (va_AO.use C.2.2.2.2.2.2.2.2.1.2) rfl hd rfl hn hb hk ht fun cA kA comp f1 f2 f3 f4 => ?_
  obtain ⟨kA2, comp2, r1, r2, r3, r4⟩ := (C.2.2.2.2.2.2.2.1.2 2 (gA G 2, .object "GingerRents$Borough") rfl).2
  have hcA : cA = gA G 2 := Option.some.inj (f1.symm.trans r4)
  generalize hH1 : H.push ({ cls := cA, slots := Array.replicate x.toNatClampNeg .null, vm := .none } : Cell) = H1
  have z1 : H1.size = H.size + 1 := by rw [← hH1, Array.size_push]
  have e1 : H1[H.size]? = some (arrV cA x.toNatClampNeg (fun _ => .null)) := by rw [← hH1, Array.getElem?_push_size, ← arrV_new]
  have o1 : ∀ q : Nat, q < H.size → H1[q]? = H[q]? := fun q hq => by rw [← hH1, Array.getElem?_push, if_neg (Nat.ne_of_lt hq)]
  have hfin := kk p e s m args below meth c C H1 locs ls (HC_push hR (e := .inl (gA G 2, x.toNatClampNeg, .inr (.inr (.inr (.inr (fun j => (zn j).map (gB G + ·))))))) rfl z1 o1 (by
    show H1[gB G + n]? = some (vp_cell (gA G 2) (x.toNatClampNeg, .inr (.inr (.inr (.inr (fun j => (zn j).map (gB G + ·)))))))
    rw [← hR.1, e1, hcA]
    rfl)) (S_push hS z1 o1) hL
  rw [← hR.1] at hfin
  exact hfin
theorem c_iast {a N : Nat} {i x : Int32} {cc : CE} (hd : dn M pc .iastore 1 pc') (ha : a < n) (hc : (F a).1 = 20) (hN : (F a).2.1 = N) (hin : vp_in i N) (hcc : (20, (F a).2.1, (F a).2.2.1, upd (F a).2.2.2.1 i.toNatClampNeg x, (F a).2.2.2.2) = cc) (kk : Vc G M d mc ms pc' L st k t n (sF F a cc) n' F') : Vc G M d mc ms pc L (.int x :: .int i :: .ref (gB G + a) :: st) k t n F n' F' := by
  obtain ⟨hd, rfl⟩ := hd
  subst hcc; subst hN
  intro p e s m args below meth c C H locs ls hR hS hL
  have he := wn_at (B := gB G) (cA := gA G) (F := F) ha
  have hce : ceE (gB G) (gA G) (F a) = .inl (gA G 0, (F a).2.1, .inl (F a).2.2.2.1) := by simp [ceE, hc]
  rw [hce] at he
  have hat := hR.2 a _ he
  refine W.iast C.1 C.2.1 hat ((C.2.2.2.2.2.2.2.1.2 0 (gA G 0, .int) rfl).1 _ (fun j => .int ((F a).2.2.2.1 j))) (fun q => by cases q) (by show ¬ (i < 0 ∨ (arrV _ _ _).slots.size ≤ _); rw [arrV_size]; exact hin) rfl rfl hd fun H1 e1 z oq => ?_
  have hD := wn_D (gB G) (gA G) n F
  have hP1 := hR.2.set (e := .inl (gA G 0, (F a).2.1, .inl (upd (F a).2.2.2.1 i.toNatClampNeg x))) hD he (by
    show H1[gB G + a]? = some (vp_cell _ _)
    rw [e1]
    rw [vp_cell_i, vp_cell_i, arrV_store]
    congr 2
    funext q
    by_cases hq : q = i.toNatClampNeg
    · subst hq; simp [updV, upd]
    · simp [updV, upd, hq]) oq
  rw [wn_set (e := .inl (gA G 0, (F a).2.1, .inl (upd (F a).2.2.2.1 i.toNatClampNeg x))) (c := (20, (F a).2.1, (F a).2.2.1, upd (F a).2.2.2.1 i.toNatClampNeg x, (F a).2.2.2.2)) ha rfl] at hP1
  exact kk p e s m args below meth c C H1 _ ls ⟨z.trans hR.1, hP1⟩ (hS.put z oq (hD.2 a _ he)) hL
theorem c_aast {a b N : Nat} {i : Int32} {cc : CE} (hd : dn M pc .aastore 1 pc') (ha : a < n) (hb : b < n) (hc : (F a).1 = 22) (hN : (F a).2.1 = N) (hcb : (F b).1 = 1) (hin : vp_in i N) (hcc : (22, (F a).2.1, (F a).2.2.1, (F a).2.2.2.1, va_up (F a).2.2.2.2 i.toNatClampNeg (some b)) = cc) (kk : Vc G M d mc ms pc' L st k t n (sF F a cc) n' F') : Vc G M d mc ms pc L (.ref (gB G + b) :: .int i :: .ref (gB G + a) :: st) k t n F n' F' := by
  obtain ⟨hd, rfl⟩ := hd
  subst hcc; subst hN
  intro p e s m args below meth c C H locs ls hR hS hL
  have he := wn_at (B := gB G) (cA := gA G) (F := F) ha
  have he2 := wn_at (B := gB G) (cA := gA G) (F := F) hb
  have hce : ceE (gB G) (gA G) (F a) = .inl (gA G 2, (F a).2.1, .inr (.inr (.inr (.inr (fun j => ((F a).2.2.2.2 j).map (gB G + ·)))))) := by simp [ceE, hc]
  rw [hce] at he
  rw [ceE_obj hcb (by decide)] at he2
  have hlt : i.toNatClampNeg < (F a).2.1 := Nat.not_le.mp fun q => hin (Or.inr q)
  have hsz : ∀ (H1 : Heap) (locs1 : List Loc), va_P (gD G) clsL ((wn (gB G) (gA G) n F).set a (gB G + a, .inl (gA G 2, (F a).2.1, .inr (.inr (.inr (.inr (va_up (fun j => ((F a).2.2.2.2 j).map (gB G + ·)) i.toNatClampNeg (some (gB G + b))))))))) H1 → H1.size = H.size → va_S (gF G) s.heap H1 locs1 → W p G.1 e (rmc d mc ms) s m args below meth c H1 locs1 k t (MQ below (QCc G n' F') args s mc ms (gF G)) (F0 m (pc + 1) ls st) := by
    intro H1 locs1 hP1 hz hS1
    rw [wn_set (c := (22, (F a).2.1, (F a).2.2.1, (F a).2.2.2.1, va_up (F a).2.2.2.2 i.toNatClampNeg (some b))) ha (by
      simp only [ceE, show ¬ (22 : Nat) < 20 by decide, if_false, if_true]
      congr 7
      funext j
      simp only [va_up]
      split <;> rfl)] at hP1
    exact kk p e s m args below meth c C H1 locs1 ls ⟨hz.trans hR.1, hP1⟩ hS1 hL
  have h0 : ¬ i < 0 := fun q => hin (Or.inl q)
  obtain ⟨r', hr', cellV, g1, g2, g3, -⟩ := hR.2 b _ he2
  have hcls := (C.2.2.2.2.2.2.2.1.1 1 ("GingerRents$Borough", tT_1, 8) rfl).2
  obtain ⟨kA, comp, k1, k2, k3, -⟩ := (C.2.2.2.2.2.2.2.1.2 2 (gA G 2, .object "GingerRents$Borough") rfl).2
  have hcomp : comp = (gD G).1 1 := Option.some.inj (k3.symm.trans hcls.1)
  subst hcomp
  obtain ⟨kC, hkC, -⟩ := hcls.2
  have hat := hR.2 a _ he
  have hD := wn_D (gB G) (gA G) n F
  refine W.aast C.1 C.2.1 hat (fun q h => by cases h) (fun h => by cases h) k1 k2 rfl hkC ⟨h0, by show _ < (arrV _ _ _).slots.size; rw [arrV_size]; exact hlt⟩ g1 (fun q h => by rw [g3] at h; cases h) (by rw [g2]; exact hkC) (by rw [g2]; exact va_assign hcls) rfl rfl hd fun H1 e1 z oq => ?_
  refine hsz H1 _ (hR.2.set hD he ?_ oq) z (hS.put z oq (hD.2 a _ he))
  show H1[gB G + a]? = some (vp_cell _ _)
  rw [e1]
  rw [vp_cell_q, vp_cell_q, arrV_store]
  congr 2
  funext q
  by_cases hq : q = i.toNatClampNeg
  · subst hq
    simp [updV, va_up, va_rf]
  · simp [updV, va_up, hq]
theorem c_obj {idx a : Nat} (hd : dn M pc (.invokespecial idx) 3 pc') (hl : Cond.methodLink M.1.cls idx Lib.objectInit ∈ tb) (hrest : (st.map fun v => v.category).sum ≤ 8) (kk : Vc G M d mc ms pc' L st k t n F n' F') : Vc G M d mc ms pc L (.ref (gB G + a) :: st) k t n F n' F' := by
  obtain ⟨hd, rfl⟩ := hd
  intro p e s m args below meth c C H locs ls hR hS hL
  have hts := C.2.2.2.2.2.1
  exact W.objInit C.1 C.2.1 C.2.2.2.2.1 (hts _ hl) (hts _ w_obj.1) (hts _ w_obj.2) rfl (hL.1.trans C.2.2.2.1.symm) rfl hd (by simp only [rmc]; omega) (by show 2 * 0 + _ + 12 ≤ _; simp only [rmc]; omega) (kk p e s m args below meth c C H locs ls hR hS hL)
theorem c_ret (hd : dn M pc .return_ 1 pc') (hr : M.2.2.2 = none) (hF : F = F') : Vc G M d mc ms pc L [] mc ms n F n F' := by
  obtain ⟨hd, rfl⟩ := hd
  subst hF
  intro p e s m args below meth c C H locs ls hR hS hL
  exact W.vret C.1 C.2.1 (C.2.2.1.trans hr) (fun t ht _ => ⟨rfl, by rw [ht]; exact hR, hS.F ht⟩) hS.2.2 hd C.2.2.2.2.2.2.1
theorem c_blind {As : List Value} : FrameBlind (fun (a : Array Value) (U : State) => a = As.toArray ∧ HC G n F U.heap ∧ va_K (gD G) clsL (ty3 G) U ∧ NS2 U) := fun a U g mk q => ⟨q.1, q.2.1, va_K.moved (u := U) (U := U.calling g mk a) (Vm.Alike.refl U.vm) q.2.2.1, NS2.same (s := U) (U := U.calling g mk a) rfl q.2.2.2⟩
/-- behind the run of a constructor -/
theorem c_run {p : Program} {e : Env} {s : State} {m : MethodId} {args : Array Value} {below : List Frame} {meth : Method} {c : Code} {H : Heap} {locs : List Loc} {ls : Array Slot} {a : Array Value} {n1 mc1 ms1 : Nat} {F1 : CF} {st0 rest : List Value} {Q : State → Prop} {R : Room}
    (hr : va_Run p G.1 e R s m args below meth c H locs k t mc1 ms1 (F0 m pc ls st0) rest (QCc G n1 F1 a) (gF G)) (hS : va_S (gF G) s.heap H locs)
    (kk : ∀ (H1 : Heap) (locs1 : List Loc), HC G n1 F1 H1 → va_S (gF G) s.heap H1 locs1 → W p G.1 e R s m args below meth c H1 locs1 (k + mc1) (t + ms1) Q (F0 m (pc + 3) ls rest)) : W p G.1 e R s m args below meth c H locs k t Q (F0 m pc ls st0) := by
  intro T hT X
  obtain ⟨v, st₀, tt, T', L, h0, X', hL, e1, e2, ⟨hv, hb, hz, hk⟩, st⟩ := hr T hT X
  cases hv
  rw [h0] at hz hk
  obtain ⟨t2, a1, b1⟩ := kk T'.heap (locs ++ L) (by rw [e1]; exact hb)
    ⟨Nat.le_trans hS.1 (by rw [e1]; exact hz), fun q h1 h2 => by rw [e1, hk q (Nat.lt_of_lt_of_le h1 hS.1) h2]; exact hS.2.1 q h1 h2, fun q hq => by
      rcases List.mem_append.mp hq with h | h
      · exact hS.2.2 q h
      · exact hL q h⟩ T' rfl X'
  exact ⟨t2, st t2 a1, b1⟩
theorem c_rm {k0 mc1 ms1 : Nat} (h : k0 ≤ 40) : (rmc d mc1 ms1).frames + 1 ≤ (rmc (d + 1) mc ms).frames ∧ 8 + (k0 + 11) + (rmc d mc1 ms1).locals ≤ (rmc (d + 1) mc ms).locals := by
  simp only [rmc]; omega
def mI (M' : MM) (n : Nat) : Prop := mW M' n ∧ M'.1.name = "<init>" ∧ Cond.instanceMethod M'.1 ∈ tb ∧ M'.2.2.2 = none
theorem c_call {M' : MM} {idx nn a n1 mc1 ms1 : Nat} {F1 : CF} {As st0 : List Value} (hd : dn M pc (.invokespecial idx) 3 pc') (hl : Cond.methodLink M.1.cls idx M'.1 ∈ tb) (hm : mI M' nn) (hn : As.length = nn) (hst : st0 = As.reverse ++ .ref (gB G + a) :: st) (hrest : (st.map fun v => v.category).sum ≤ 8) (hk : k + mc1 ≤ mc) (ht : t + ms1 ≤ ms)
    (hK : Kc G M' d mc1 ms1 (.ref (gB G + a) :: As) n F n1 F1) (kk : Vc G M (d + 1) mc ms pc' L st (k + mc1) (t + ms1) n1 F1 n' F') : Vc G M (d + 1) mc ms pc L st0 k t n F n' F' := by
  obtain ⟨hd, rfl⟩ := hd
  intro p e s m args below meth c C H locs ls hR hS hL
  have hts := C.2.2.2.2.2.1
  have hcod := hm.1.1
  rw [hm.2.2.2] at hcod
  have hws : wsM M' = Cond.code M'.1 M'.2.1 M'.2.2.1 none :: tb := by unfold wsM; rw [hm.2.2.2]
  refine c_run (va_runI (n := nn) (b := gB G + a) (As := As) (rest := st) (Ts := tb) (bytes := M'.2.1) (maxL := M'.2.2.1) ⟨C.1, C.2.1, C.2.2.2.1, C.2.2.2.2.1, hts⟩ hK ⟨callB_of nn hts (wsM_good hm.1) hws rfl rfl (hts _ hm.1.2.1) (hts _ hl) hm.1.2.2.1 (c_rm hm.1.2.2.2), hm.2.1, hts _ hm.2.2.1⟩ ⟨c_blind, fun U hU hW => ⟨rfl, by rw [hU]; exact hR, va_K.moved hW.alike C.2.2.2.2.2.2.2.1, C.2.2.2.2.2.2.2.2.1.warm hW⟩⟩ rfl hn hL.1 hst (lv_room hrest) hd ⟨hk, ht⟩) hS (fun H1 locs1 hR1 hS1 => ?_)
  exact kk p e s m args below meth c C H1 locs1 ls hR1 hS1 hL
theorem c_callN {M' : MM} {idx nn a n1 mc1 ms1 : Nat} {F1 : CF} {As st0 : List Value} (hd : dn M pc (.invokespecial idx) 3 pc') (hl : (M.1.cls, idx, M'.1) ∈ nsL2) (hm : mI M' nn) (hn : As.length = nn) (hst : st0 = As.reverse ++ .ref (gB G + a) :: st) (hrest : (st.map fun v => v.category).sum ≤ 8) (hk : k + mc1 ≤ mc) (ht : t + ms1 ≤ ms)
    (hK : Kc G M' d mc1 ms1 (.ref (gB G + a) :: As) n F n1 F1) (kk : Vc G M (d + 1) mc ms pc' L st (k + mc1) (t + ms1) n1 F1 n' F') : Vc G M (d + 1) mc ms pc L st0 k t n F n' F' := by
  obtain ⟨hd, rfl⟩ := hd
  intro p e s m args below meth c C H locs ls hR hS hL
  have hts := C.2.2.2.2.2.1
  have hcod := hm.1.1
  rw [hm.2.2.2] at hcod
  have hG := wsM_good hm.1
  have hr2 := c_rm (d := d) (mc := mc) (ms := ms) (mc1 := mc1) (ms1 := ms1) hm.1.2.2.2
  have hcw : Cond.code M'.1 M'.2.1 M'.2.2.1 none ∈ wsM M' := by unfold wsM; rw [hm.2.2.2]; exact List.mem_cons_self
  have hnw : va_Nw (.methodLinkNest M.1.cls idx M'.1 "GingerRents") s := C.2.2.2.2.2.2.2.2.1.1 (M.1.cls, idx, M'.1) hl
  have hcn : va_CN (rmc (d + 1) mc ms) s args M.1.cls idx M'.1 "GingerRents" M'.2.1 M'.2.2.1 none (wsM M') (rmc d mc1 ms1) mc1 ms1 nn :=
    ⟨⟨rfl, rfl, hr2.1, hr2.2, pay_in hts hG, hcw⟩, hts _ hcod, hts _ hm.1.2.1, ⟨hm.1.2.2.1.1, hm.1.2.2.1.2.1⟩, fun sig hsig => by have h2 := hm.1.2.2.1.2.2; rw [hsig] at h2; exact (Option.some.inj h2).symm, va_Nw.use rfl hnw⟩
  refine c_run (va_runIN (n := nn) (b := gB G + a) (As := As) (rest := st) (Ts := tb) ⟨C.1, C.2.1, C.2.2.2.1, C.2.2.2.2.1, hts⟩ hK ⟨hcn, hm.2.1, hts _ hm.2.2.1⟩ ⟨c_blind, fun U hU hW => ⟨rfl, by rw [hU]; exact hR, va_K.moved hW.alike C.2.2.2.2.2.2.2.1, C.2.2.2.2.2.2.2.2.1.warm hW⟩⟩ rfl hn hL.1 hst (lv_room hrest) hd ⟨hk, ht⟩) hS (fun H1 locs1 hR1 hS1 => ?_)
  exact kk p e s m args below meth c C H1 locs1 ls hR1 hS1 hL
end CT
