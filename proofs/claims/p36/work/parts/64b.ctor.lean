theorem NS2.same {s U : State} (hv : U.vm = s.vm) (h : NS2 s) : NS2 U := ⟨fun q hq => va_Nw.same rfl hv.symm (h.1 q hq), h.2.moved (by rw [hv]; exact Vm.Alike.refl s.vm)⟩
def HC (G : GG) (n : Nat) (F : CF) (H : Heap) : Prop := H.size = gB G + n ∧ va_P (gD G) clsL (wn (gB G) (gA G) n F) H
def Cc (G : GG) (M : MM) (p : Program) (s : State) (m : MethodId) (args : Array Value) (meth : Method) (c : Code) : Prop :=
  p.tables.exec = Jvm.exec ∧ c.code = M.2.1 ∧ meth.sig.returnType = M.2.2.2 ∧ c.maxLocals = M.2.2.1 ∧ s.vm.findClass M.1.cls = some m.cls ∧ (∀ w ∈ tb, w.before args s = true) ∧ meth.locks = false ∧ va_K (gD G) clsL (ty3 G) s ∧ NS2 s ∧ meth.name = "<init>" ∧ gB G ≤ s.heap.size
def QCc (G : GG) (n' : Nat) (F' : CF) : Array Value → State → Outcome → State → Prop := fun _ st o t => o = .returned none ∧ HC G n' F' t.heap ∧ va_F (gF G) st t
def Vc (G : GG) (M : MM) (d mc ms pc : Nat) (L : List (Option Value)) (st : List Value) (k t n : Nat) (F : CF) (n' : Nat) (F' : CF) : Prop :=
  ∀ (p : Program) (e : Env) (s : State) (m : MethodId) (args : Array Value) (below : List Frame) (meth : Method) (c : Code), Cc G M p s m args meth c →
  ∀ (H : Heap) (locs : List Loc) (ls : Array Slot), HC G n F H → va_S (gF G) s.heap H locs → LV ls M.2.2.1 L →
    W p G.1 e (rmc d mc ms) s m args below meth c H locs k t (MQ below (QCc G n' F') args s mc ms (gF G)) (F0 m pc ls st)
def Kc (G : GG) (M : MM) (d mc ms : Nat) (As : List Value) (n : Nat) (F : CF) (n' : Nat) (F' : CF) : Prop :=
  Met G.1 M.1 (wsM M) (rmc d mc ms) (fun a U => a = As.toArray ∧ HC G n F U.heap ∧ va_K (gD G) clsL (ty3 G) U ∧ NS2 U) (QCc G n' F') mc ms (gF G)
theorem K_of_Vc {G : GG} {M : MM} {d mc ms : Nat} {As : List Value} {n n' : Nat} {F F' : CF} (hp : plainName M.1.cls = true) (hnm : M.1.name = "<init>") (hc : ∀ v ∈ As, v.category = 1) (hn : As.length ≤ M.2.2.1)
    (k : Vc G M d mc ms 0 (ini M.2.2.1 As) [] 0 0 n F n' F') : Kc G M d mc ms As n F n' F' := by
  refine Met.ofW (cc := M.2.1) (maxL := M.2.2.1) (ret := M.2.2.2) hp rfl ?_
  intro p e s m args below meth c s₁ B hml hv
  obtain ⟨rfl, hR, hK, hN⟩ := hv
  have hts : ∀ w ∈ wsM M, w.before As.toArray s = true := atoms_spec (ws := wsM M) B.pre
  have hl := lv_entry As (n := M.2.2.1) (by rw [sl_one As hc]; exact hn)
  rw [lg_entry_eq]
  refine k p e s m As.toArray below meth c ⟨B.exec, B.bytes, B.returns, hml, findClass_of_methodNamed B.named, fun w hw => hts w (List.mem_cons_of_mem _ hw), B.notSynchronized, hK, hN, (name_of_methodNamed B.named B.method).1.trans hnm, by rw [hR.1]; exact Nat.le_add_right _ _⟩ s.heap [] _ hR va_S.rf ⟨hl.1, hl.2.1, fun i v hi => ?_⟩
  have := hl.2.2 (i, v) (by have := lv_args_one As 0 hc i v (ini_at hi); rwa [Nat.zero_add] at this)
  exact this
set_option maxRecDepth 20000 in
theorem w_obj : Cond.instanceMethod Lib.objectInit ∈ tb ∧ Cond.code Lib.objectInit ⟨#[0xb1]⟩ 1 none ∈ tb := ⟨tb_in (by decide +kernel) rfl, tb_in (by decide +kernel) rfl⟩
section CT
variable {G : GG} {M : MM} {d mc ms pc pc' tgt : Nat} {L : List (Option Value)} {st : List Value} {k t n n' : Nat} {F F' : CF}
theorem c_iconst {q : Int} {x : Int32} (hd : dn M pc (.iconst q) 1 pc') (hv : Int32.ofInt q = x) (kk : Vc G M d mc ms pc' L (.int x :: st) k t n F n' F') : Vc G M d mc ms pc L st k t n F n' F' := by
  obtain ⟨hd, rfl⟩ := hd
  intro p e s m args below meth c C H locs ls hR hS hL
  exact lv_iconst C.1 C.2.1 hd hv (kk p e s m args below meth c C H locs ls hR hS hL)
theorem c_bipush {q : Int} {x : Int32} (hd : dn M pc (.bipush q) 2 pc') (hv : (Int8.ofInt q).toInt32 = x) (kk : Vc G M d mc ms pc' L (.int x :: st) k t n F n' F') : Vc G M d mc ms pc L st k t n F n' F' := by
  obtain ⟨hd, rfl⟩ := hd
  intro p e s m args below meth c C H locs ls hR hS hL
  exact lv_bipush C.1 C.2.1 hd hv (kk p e s m args below meth c C H locs ls hR hS hL)
theorem c_sipush {q : Int} {x : Int32} (hd : dn M pc (.sipush q) 3 pc') (hv : (Int16.ofInt q).toInt32 = x) (kk : Vc G M d mc ms pc' L (.int x :: st) k t n F n' F') : Vc G M d mc ms pc L st k t n F n' F' := by
  obtain ⟨hd, rfl⟩ := hd
  intro p e s m args below meth c C H locs ls hR hS hL
  exact lv_sipush C.1 C.2.1 hd hv (kk p e s m args below meth c C H locs ls hR hS hL)
theorem c_ldc {q : Nat} {x : Int32} (hd : dn M pc (.ldc q) 2 pc') (hw : Cond.constant M.1.cls q x ∈ tb) (kk : Vc G M d mc ms pc' L (.int x :: st) k t n F n' F') : Vc G M d mc ms pc L st k t n F n' F' := by
  obtain ⟨hd, rfl⟩ := hd
  intro p e s m args below meth c C H locs ls hR hS hL
  exact lv_ldc C.1 C.2.1 C.2.2.2.2.1 (C.2.2.2.2.2.1 _ hw) hd (kk p e s m args below meth c C H locs ls hR hS hL)
theorem c_imul {x y z : Int32} (hd : dn M pc .imul 1 pc') (hz : x * y = z) (kk : Vc G M d mc ms pc' L (.int z :: st) k t n F n' F') : Vc G M d mc ms pc L (.int y :: .int x :: st) k t n F n' F' := by
  obtain ⟨hd, rfl⟩ := hd
  intro p e s m args below meth c C H locs ls hR hS hL
  exact lv_imul C.1 C.2.1 hd (by rw [hz]; exact (kk p e s m args below meth c C H locs ls hR hS hL))
theorem c_dup {w : Value} (hd : dn M pc .dup 1 pc') (hw : w.category = 1) (kk : Vc G M d mc ms pc' L (w :: w :: st) k t n F n' F') : Vc G M d mc ms pc L (w :: st) k t n F n' F' := by
  obtain ⟨hd, rfl⟩ := hd
  intro p e s m args below meth c C H locs ls hR hS hL
  exact lv_dup C.1 C.2.1 hd hw (kk p e s m args below meth c C H locs ls hR hS hL)
theorem c_goto (hd : db M pc .goto tgt pc') (kk : Vc G M d mc ms tgt L st k t n F n' F') : Vc G M d mc ms pc L st k t n F n' F' := by
  obtain ⟨off, hd, ht, rfl⟩ := hd
  intro p e s m args below meth c C H locs ls hR hS hL
  exact lv_goto C.1 C.2.1 hd ht (kk p e s m args below meth c C H locs ls hR hS hL)
end CT
