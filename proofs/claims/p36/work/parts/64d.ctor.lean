section CT
variable {G : GG} {M : MM} {d mc ms pc pc' tgt : Nat} {L : List (Option Value)} {st : List Value} {k t n n' : Nat} {F F' : CF}
theorem S_push {H0 H H1 : Heap} {locs : List Loc} {A : Nat → Prop} (hS : va_S A H0 H locs) (z1 : H1.size = H.size + 1) (o1 : ∀ q, q < H.size → H1[q]? = H[q]?) : va_S A H0 H1 locs := ⟨Nat.le_trans hS.1 (by omega), fun x h1 h2 => (o1 x (Nat.lt_of_lt_of_le h1 hS.1)).trans (hS.2.1 x h1 h2), hS.2.2⟩
theorem c_new {idx ci N : Nat} {Cn : String} {T : u_T} {ty : Nat → FieldType} (fs : List Value) (hd : dn M pc (.new idx) 3 pc') (hcl : Cond.classLink M.1.cls idx Cn ∈ tb) (hins : Cond.instantiable Cn N ∈ tb) (hini : Cond.initialized Cn ∈ tb) (hc : clsL[ci]? = some (Cn, T, N)) (hty : ∀ j, j < N → parseFieldDescriptor (T j).2.2.1 = some (ty j)) (hfs : ∀ j, j < N → defaultValue (ty j) = vp_V fs j) (hmap : fs.map (rv (gB G)) = fs) (hk : k + 1 ≤ mc) (ht : t + N ≤ ms)
    (kk : Vc G M d mc ms pc' L (.ref (gB G + n) :: st) (k + 1) (t + N) (n + 1) (sF F n (ci, N, fs, z0, zn)) n' F') : Vc G M d mc ms pc L st k t n F n' F' := by
  obtain ⟨hd, rfl⟩ := hd
  intro p e s m args below meth c C H locs ls hR hS hL
  have hts := C.2.2.2.2.2.1
  obtain ⟨hlt, hcls⟩ := clK_all ci _ hc
  have hKn := C.2.2.2.2.2.2.2.1.1 ci _ hc
  refine W.newcK C.1 C.2.1 C.2.2.2.2.1 (hts _ hcl) (hts _ hins) (hts _ hini) rfl hd hk ht hKn.2.1 hR.1 fun H1 kC hkC e1 z1 o1 => ?_
  have z1' : H1.size = H.size + 1 := by rw [z1, hR.1]
  have o1' : ∀ q, q < H.size → H1[q]? = H[q]? := fun q hq => o1 q (by rw [← hR.1]; exact hq)
  refine kk p e s m args below meth c C H1 locs ls (HC_push hR (e := .inr (ci, fs)) (by rw [ceE_obj rfl hlt]; exact congrArg (fun q => Sum.inr (ci, q)) hmap) z1' o1' ?_) (S_push hS z1' o1') hL
  exact ⟨_, hc, (u_born ty hts hcls.1 hKn hkC e1 hty).to hfs⟩
theorem c_newi {N : Nat} {x : Int32} (hd : dn M pc (.newarray .int) 2 pc') (hw : Cond.arrayClass .int ∈ tb) (hn : ¬ x < 0) (hN : x.toNatClampNeg = N) (hb : N * 4 ≤ 536870912) (hk : k + 1 ≤ mc) (ht : t + N ≤ ms)
    (kk : Vc G M d mc ms pc' L (.ref (gB G + n) :: st) (k + 1) (t + N) (n + 1) (sF F n (20, N, [], z0, zn)) n' F') : Vc G M d mc ms pc L (.int x :: st) k t n F n' F' := by
  obtain ⟨hd, rfl⟩ := hd
  intro p e s m args below meth c C H locs ls hR hS hL
  have hts := C.2.2.2.2.2.1
  refine va_newaK (atype := .int) C.1 C.2.1 (hts _ hw) rfl hd rfl hn hN hb hk ht hR.1 fun H1 cA e1 z1 o1 hAr hNm => ?_
  have z1' : H1.size = H.size + 1 := by rw [z1, hR.1]
  have o1' : ∀ q, q < H.size → H1[q]? = H[q]? := fun q hq => o1 q (by rw [← hR.1]; exact hq)
  have hcA : cA = gA G 0 := Option.some.inj (hNm.symm.trans (C.2.2.2.2.2.2.2.1.2 0 (gA G 0, .int) rfl).2)
  refine kk p e s m args below meth c C H1 locs ls (HC_push hR (e := .inl (gA G 0, N, .inl z0)) rfl z1' o1' ?_) (S_push hS z1' o1') hL
  show H1[gB G + n]? = some (vp_cell (gA G 0) (N, .inl z0))
  rw [e1, hcA]
  rfl
theorem c_newb {N : Nat} {x : Int32} (hd : dn M pc (.newarray .byte) 2 pc') (hw : Cond.arrayClass .byte ∈ tb) (hn : ¬ x < 0) (hN : x.toNatClampNeg = N) (hb : N * 1 ≤ 536870912) (hk : k + 1 ≤ mc) (ht : t + N ≤ ms)
    (kk : Vc G M d mc ms pc' L (.ref (gB G + n) :: st) (k + 1) (t + N) (n + 1) (sF F n (21, N, [], z0, zn)) n' F') : Vc G M d mc ms pc L (.int x :: st) k t n F n' F' := by
  obtain ⟨hd, rfl⟩ := hd
  intro p e s m args below meth c C H locs ls hR hS hL
  have hts := C.2.2.2.2.2.1
  refine va_newaK (atype := .byte) C.1 C.2.1 (hts _ hw) rfl hd rfl hn hN hb hk ht hR.1 fun H1 cA e1 z1 o1 hAr hNm => ?_
  have z1' : H1.size = H.size + 1 := by rw [z1, hR.1]
  have o1' : ∀ q, q < H.size → H1[q]? = H[q]? := fun q hq => o1 q (by rw [← hR.1]; exact hq)
  have hcA : cA = gA G 1 := Option.some.inj (hNm.symm.trans (C.2.2.2.2.2.2.2.1.2 1 (gA G 1, .byte) rfl).2)
  refine kk p e s m args below meth c C H1 locs ls (HC_push hR (e := .inl (gA G 1, N, .inl z0)) rfl z1' o1' ?_) (S_push hS z1' o1') hL
  show H1[gB G + n]? = some (vp_cell (gA G 1) (N, .inl z0))
  rw [e1, hcA]
  rfl
theorem c_anew {idx N : Nat} {x : Int32} (hd : dn M pc (.anewarray idx) 3 pc') (hcl : Cond.classLink M.1.cls idx "GingerRents$Borough" ∈ tb) (hn : ¬ x < 0) (hN : x.toNatClampNeg = N) (hb : N * 4 ≤ 536870912) (hk : k + 1 ≤ mc) (ht : t + N ≤ ms)
    (kk : Vc G M d mc ms pc' L (.ref (gB G + n) :: st) (k + 1) (t + N) (n + 1) (sF F n (22, N, [], z0, zn)) n' F') : Vc G M d mc ms pc L (.int x :: st) k t n F n' F' := by
  obtain ⟨hd, rfl⟩ := hd
  subst hN
  intro p e s m args below meth c C H locs ls hR hS hL
  have hts := C.2.2.2.2.2.1
  refine W.anew C.1 C.2.1 C.2.2.2.2.1 (hts _ hcl) (va_AO.use C.2.2.2.2.2.2.2.2.1.2) rfl hd rfl hn hb hk ht fun cA kA comp f1 f2 f3 f4 => ?_
  obtain ⟨kA2, comp2, r1, r2, r3, r4⟩ := (C.2.2.2.2.2.2.2.1.2 2 (gA G 2, .object "GingerRents$Borough") rfl).2
  have hcA : cA = gA G 2 := Option.some.inj (f1.symm.trans r4)
  generalize hH1 : H.push ({ cls := cA, slots := Array.replicate x.toNatClampNeg .null, vm := .none } : Cell) = H1
  have z1 : H1.size = H.size + 1 := by rw [← hH1, Array.size_push]
  have e1 : H1[H.size]? = some (arrV cA x.toNatClampNeg (fun _ => .null)) := by rw [← hH1, Array.getElem?_push_size, ← arrV_new]
  have o1 : ∀ q : Nat, q < H.size → H1[q]? = H[q]? := fun q hq => by rw [← hH1, Array.getElem?_push, if_neg (Nat.ne_of_lt hq)]
  have hfin := kk p e s m args below meth c C H1 locs ls (HC_push hR (e := .inl (gA G 2, x.toNatClampNeg, .inr (.inr (.inr (.inr (fun j => (zn j).map (gB G + ·))))))) rfl z1 o1 (by
    show H1[gB G + n]? = some (vp_cell (gA G 2) (x.toNatClampNeg, .inr (.inr (.inr (.inr (fun j => (zn j).map (gB G + ·)))))))
    rw [← hR.1, e1, hcA]
    rfl)) (S_push hS z1 o1) hL
  rw [← hR.1] at hfin
  exact hfin
theorem c_iast {a N : Nat} {i x : Int32} {cc : CE} (hd : dn M pc .iastore 1 pc') (ha : a < n) (hc : (F a).1 = 20) (hN : (F a).2.1 = N) (hin : vp_in i N) (hcc : (20, (F a).2.1, (F a).2.2.1, upd (F a).2.2.2.1 i.toNatClampNeg x, (F a).2.2.2.2) = cc) (kk : Vc G M d mc ms pc' L st k t n (sF F a cc) n' F') : Vc G M d mc ms pc L (.int x :: .int i :: .ref (gB G + a) :: st) k t n F n' F' := by
  obtain ⟨hd, rfl⟩ := hd
  subst hcc; subst hN
  intro p e s m args below meth c C H locs ls hR hS hL
  have he := wn_at (B := gB G) (cA := gA G) (F := F) ha
  have hce : ceE (gB G) (gA G) (F a) = .inl (gA G 0, (F a).2.1, .inl (F a).2.2.2.1) := by simp [ceE, hc]
  rw [hce] at he
  have hat := hR.2 a _ he
  refine W.iast C.1 C.2.1 hat ((C.2.2.2.2.2.2.2.1.2 0 (gA G 0, .int) rfl).1 _ (fun j => .int ((F a).2.2.2.1 j))) (fun q => by cases q) (by show ¬ (i < 0 ∨ (arrV _ _ _).slots.size ≤ _); rw [arrV_size]; exact hin) rfl rfl hd fun H1 e1 z oq => ?_
  have hD := wn_D (gB G) (gA G) n F
  have hP1 := hR.2.set (e := .inl (gA G 0, (F a).2.1, .inl (upd (F a).2.2.2.1 i.toNatClampNeg x))) hD he (by
    show H1[gB G + a]? = some (vp_cell _ _)
    rw [e1]
    rw [vp_cell_i, vp_cell_i, arrV_store]
    congr 2
    funext q
    by_cases hq : q = i.toNatClampNeg
    · subst hq; simp [updV, upd]
    · simp [updV, upd, hq]) oq
  rw [wn_set (e := .inl (gA G 0, (F a).2.1, .inl (upd (F a).2.2.2.1 i.toNatClampNeg x))) (c := (20, (F a).2.1, (F a).2.2.1, upd (F a).2.2.2.1 i.toNatClampNeg x, (F a).2.2.2.2)) ha rfl] at hP1
  exact kk p e s m args below meth c C H1 _ ls ⟨z.trans hR.1, hP1⟩ (hS.put z oq (hD.2 a _ he)) hL
theorem c_aast {a b N : Nat} {i : Int32} {cc : CE} (hd : dn M pc .aastore 1 pc') (ha : a < n) (hb : b < n) (hc : (F a).1 = 22) (hN : (F a).2.1 = N) (hcb : (F b).1 = 1) (hin : vp_in i N) (hcc : (22, (F a).2.1, (F a).2.2.1, (F a).2.2.2.1, va_up (F a).2.2.2.2 i.toNatClampNeg (some b)) = cc) (kk : Vc G M d mc ms pc' L st k t n (sF F a cc) n' F') : Vc G M d mc ms pc L (.ref (gB G + b) :: .int i :: .ref (gB G + a) :: st) k t n F n' F' := by
  obtain ⟨hd, rfl⟩ := hd
  subst hcc; subst hN
  intro p e s m args below meth c C H locs ls hR hS hL
  have he := wn_at (B := gB G) (cA := gA G) (F := F) ha
  have he2 := wn_at (B := gB G) (cA := gA G) (F := F) hb
  have hce : ceE (gB G) (gA G) (F a) = .inl (gA G 2, (F a).2.1, .inr (.inr (.inr (.inr (fun j => ((F a).2.2.2.2 j).map (gB G + ·)))))) := by simp [ceE, hc]
  rw [hce] at he
  rw [ceE_obj hcb (by decide)] at he2
  have hlt : i.toNatClampNeg < (F a).2.1 := Nat.not_le.mp fun q => hin (Or.inr q)
  have hsz : ∀ (H1 : Heap) (locs1 : List Loc), va_P (gD G) clsL ((wn (gB G) (gA G) n F).set a (gB G + a, .inl (gA G 2, (F a).2.1, .inr (.inr (.inr (.inr (va_up (fun j => ((F a).2.2.2.2 j).map (gB G + ·)) i.toNatClampNeg (some (gB G + b))))))))) H1 → H1.size = H.size → va_S (gF G) s.heap H1 locs1 → W p G.1 e (rmc d mc ms) s m args below meth c H1 locs1 k t (MQ below (QCc G n' F') args s mc ms (gF G)) (F0 m (pc + 1) ls st) := by
    intro H1 locs1 hP1 hz hS1
    rw [wn_set (c := (22, (F a).2.1, (F a).2.2.1, (F a).2.2.2.1, va_up (F a).2.2.2.2 i.toNatClampNeg (some b))) ha (by
      simp only [ceE, show ¬ (22 : Nat) < 20 by decide, if_false, if_true]
      congr 7
      funext j
      simp only [va_up]
      split <;> rfl)] at hP1
    exact kk p e s m args below meth c C H1 locs1 ls ⟨hz.trans hR.1, hP1⟩ hS1 hL
  have h0 : ¬ i < 0 := fun q => hin (Or.inl q)
  obtain ⟨r', hr', cellV, g1, g2, g3, -⟩ := hR.2 b _ he2
  have hcls := (C.2.2.2.2.2.2.2.1.1 1 ("GingerRents$Borough", tT_1, 8) rfl).2
  obtain ⟨kA, comp, k1, k2, k3, -⟩ := (C.2.2.2.2.2.2.2.1.2 2 (gA G 2, .object "GingerRents$Borough") rfl).2
  have hcomp : comp = (gD G).1 1 := Option.some.inj (k3.symm.trans hcls.1)
  subst hcomp
  obtain ⟨kC, hkC, -⟩ := hcls.2
  have hat := hR.2 a _ he
  have hD := wn_D (gB G) (gA G) n F
  refine W.aast C.1 C.2.1 hat (fun q h => by cases h) (fun h => by cases h) k1 k2 rfl hkC ⟨h0, by show _ < (arrV _ _ _).slots.size; rw [arrV_size]; exact hlt⟩ g1 (fun q h => by rw [g3] at h; cases h) (by rw [g2]; exact hkC) (by rw [g2]; exact va_assign hcls) rfl rfl hd fun H1 e1 z oq => ?_
  refine hsz H1 _ (hR.2.set hD he ?_ oq) z (hS.put z oq (hD.2 a _ he))
  show H1[gB G + a]? = some (vp_cell _ _)
  rw [e1]
  rw [vp_cell_q, vp_cell_q, arrV_store]
  congr 2
  funext q
  by_cases hq : q = i.toNatClampNeg
  · subst hq
    simp [updV, va_up, va_rf]
  · simp [updV, va_up, hq]
theorem c_obj {idx a : Nat} (hd : dn M pc (.invokespecial idx) 3 pc') (hl : Cond.methodLink M.1.cls idx Lib.objectInit ∈ tb) (hrest : (st.map fun v => v.category).sum ≤ 8) (kk : Vc G M d mc ms pc' L st k t n F n' F') : Vc G M d mc ms pc L (.ref (gB G + a) :: st) k t n F n' F' := by
  obtain ⟨hd, rfl⟩ := hd
  intro p e s m args below meth c C H locs ls hR hS hL
  have hts := C.2.2.2.2.2.1
  exact W.objInit C.1 C.2.1 C.2.2.2.2.1 (hts _ hl) (hts _ w_obj.1) (hts _ w_obj.2) rfl (hL.1.trans C.2.2.2.1.symm) rfl hd (by simp only [rmc]; omega) (by show 2 * 0 + _ + 12 ≤ _; simp only [rmc]; omega) (kk p e s m args below meth c C H locs ls hR hS hL)
theorem c_ret (hd : dn M pc .return_ 1 pc') (hr : M.2.2.2 = none) (hF : F = F') : Vc G M d mc ms pc L [] mc ms n F n F' := by
  obtain ⟨hd, rfl⟩ := hd
  subst hF
  intro p e s m args below meth c C H locs ls hR hS hL
  exact W.vret C.1 C.2.1 (C.2.2.1.trans hr) (fun t ht _ => ⟨rfl, by rw [ht]; exact hR, hS.F ht⟩) hS.2.2 hd C.2.2.2.2.2.2.1
theorem c_blind {As : List Value} : FrameBlind (fun (a : Array Value) (U : State) => a = As.toArray ∧ HC G n F U.heap ∧ va_K (gD G) clsL (ty3 G) U ∧ NS2 U) := fun a U g mk q => ⟨q.1, q.2.1, va_K.moved (u := U) (U := U.calling g mk a) (Vm.Alike.refl U.vm) q.2.2.1, NS2.same (s := U) (U := U.calling g mk a) rfl q.2.2.2⟩
/-- behind the run of a constructor -/
theorem c_run {p : Program} {e : Env} {s : State} {m : MethodId} {args : Array Value} {below : List Frame} {meth : Method} {c : Code} {H : Heap} {locs : List Loc} {ls : Array Slot} {a : Array Value} {n1 mc1 ms1 : Nat} {F1 : CF} {st0 rest : List Value} {Q : State → Prop} {R : Room}
    (hr : va_Run p G.1 e R s m args below meth c H locs k t mc1 ms1 (F0 m pc ls st0) rest (QCc G n1 F1 a) (gF G)) (hS : va_S (gF G) s.heap H locs)
    (kk : ∀ (H1 : Heap) (locs1 : List Loc), HC G n1 F1 H1 → va_S (gF G) s.heap H1 locs1 → W p G.1 e R s m args below meth c H1 locs1 (k + mc1) (t + ms1) Q (F0 m (pc + 3) ls rest)) : W p G.1 e R s m args below meth c H locs k t Q (F0 m pc ls st0) := by
  intro T hT X
  obtain ⟨v, st₀, tt, T', L, h0, X', hL, e1, e2, ⟨hv, hb, hz, hk⟩, st⟩ := hr T hT X
  cases hv
  rw [h0] at hz hk
  obtain ⟨t2, a1, b1⟩ := kk T'.heap (locs ++ L) (by rw [e1]; exact hb)
    ⟨Nat.le_trans hS.1 (by rw [e1]; exact hz), fun q h1 h2 => by rw [e1, hk q (Nat.lt_of_lt_of_le h1 hS.1) h2]; exact hS.2.1 q h1 h2, fun q hq => by
      rcases List.mem_append.mp hq with h | h
      · exact hS.2.2 q h
      · exact hL q h⟩ T' rfl X'
  exact ⟨t2, st t2 a1, b1⟩
theorem c_rm {k0 mc1 ms1 : Nat} (h : k0 ≤ 40) : (rmc d mc1 ms1).frames + 1 ≤ (rmc (d + 1) mc ms).frames ∧ 8 + (k0 + 11) + (rmc d mc1 ms1).locals ≤ (rmc (d + 1) mc ms).locals := by
  simp only [rmc]; omega
def mI (M' : MM) (n : Nat) : Prop := mW M' n ∧ M'.1.name = "<init>" ∧ Cond.instanceMethod M'.1 ∈ tb ∧ M'.2.2.2 = none
theorem c_call {M' : MM} {idx nn a n1 mc1 ms1 : Nat} {F1 : CF} {As st0 : List Value} (hd : dn M pc (.invokespecial idx) 3 pc') (hl : Cond.methodLink M.1.cls idx M'.1 ∈ tb) (hm : mI M' nn) (hn : As.length = nn) (hst : st0 = As.reverse ++ .ref (gB G + a) :: st) (hrest : (st.map fun v => v.category).sum ≤ 8) (hk : k + mc1 ≤ mc) (ht : t + ms1 ≤ ms)
    (hK : Kc G M' d mc1 ms1 (.ref (gB G + a) :: As) n F n1 F1) (kk : Vc G M (d + 1) mc ms pc' L st (k + mc1) (t + ms1) n1 F1 n' F') : Vc G M (d + 1) mc ms pc L st0 k t n F n' F' := by
  obtain ⟨hd, rfl⟩ := hd
  intro p e s m args below meth c C H locs ls hR hS hL
  have hts := C.2.2.2.2.2.1
  have hcod := hm.1.1
  rw [hm.2.2.2] at hcod
  have hws : wsM M' = Cond.code M'.1 M'.2.1 M'.2.2.1 none :: tb := by unfold wsM; rw [hm.2.2.2]
  refine c_run (va_runI (n := nn) (b := gB G + a) (As := As) (rest := st) (Ts := tb) (bytes := M'.2.1) (maxL := M'.2.2.1) ⟨C.1, C.2.1, C.2.2.2.1, C.2.2.2.2.1, hts⟩ hK ⟨callB_of nn hts (wsM_good hm.1) hws rfl rfl (hts _ hm.1.2.1) (hts _ hl) hm.1.2.2.1 (c_rm hm.1.2.2.2), hm.2.1, hts _ hm.2.2.1⟩ ⟨c_blind, fun U hU hW => ⟨rfl, by rw [hU]; exact hR, va_K.moved hW.alike C.2.2.2.2.2.2.2.1, C.2.2.2.2.2.2.2.2.1.warm hW⟩⟩ rfl hn hL.1 hst (lv_room hrest) hd ⟨hk, ht⟩) hS (fun H1 locs1 hR1 hS1 => ?_)
  exact kk p e s m args below meth c C H1 locs1 ls hR1 hS1 hL
theorem c_callN {M' : MM} {idx nn a n1 mc1 ms1 : Nat} {F1 : CF} {As st0 : List Value} (hd : dn M pc (.invokespecial idx) 3 pc') (hl : (M.1.cls, idx, M'.1) ∈ nsL2) (hm : mI M' nn) (hn : As.length = nn) (hst : st0 = As.reverse ++ .ref (gB G + a) :: st) (hrest : (st.map fun v => v.category).sum ≤ 8) (hk : k + mc1 ≤ mc) (ht : t + ms1 ≤ ms)
    (hK : Kc G M' d mc1 ms1 (.ref (gB G + a) :: As) n F n1 F1) (kk : Vc G M (d + 1) mc ms pc' L st (k + mc1) (t + ms1) n1 F1 n' F') : Vc G M (d + 1) mc ms pc L st0 k t n F n' F' := by
  obtain ⟨hd, rfl⟩ := hd
  intro p e s m args below meth c C H locs ls hR hS hL
  have hts := C.2.2.2.2.2.1
  have hcod := hm.1.1
  rw [hm.2.2.2] at hcod
  have hG := wsM_good hm.1
  have hr2 := c_rm (d := d) (mc := mc) (ms := ms) (mc1 := mc1) (ms1 := ms1) hm.1.2.2.2
  have hcw : Cond.code M'.1 M'.2.1 M'.2.2.1 none ∈ wsM M' := by unfold wsM; rw [hm.2.2.2]; exact List.mem_cons_self
  have hcn : va_CN (rmc (d + 1) mc ms) s args M.1.cls idx M'.1 "GingerRents" M'.2.1 M'.2.2.1 none (wsM M') (rmc d mc1 ms1) mc1 ms1 nn :=
    ⟨⟨rfl, rfl, hr2.1, hr2.2, pay_in hts hG, hcw⟩, hts _ hcod, hts _ hm.1.2.1, ⟨hm.1.2.2.1.1, hm.1.2.2.1.2.1⟩, fun sig hsig => by have h2 := hm.1.2.2.1.2.2; rw [hsig] at h2; exact (Option.some.inj h2).symm, va_Nw.use rfl (C.2.2.2.2.2.2.2.2.1.1 _ hl)⟩
  refine c_run (va_runIN (n := nn) (b := gB G + a) (As := As) (rest := st) (Ts := tb) ⟨C.1, C.2.1, C.2.2.2.1, C.2.2.2.2.1, hts⟩ hK ⟨hcn, hm.2.1, hts _ hm.2.2.1⟩ ⟨c_blind, fun U hU hW => ⟨rfl, by rw [hU]; exact hR, va_K.moved hW.alike C.2.2.2.2.2.2.2.1, C.2.2.2.2.2.2.2.2.1.warm hW⟩⟩ rfl hn hL.1 hst (lv_room hrest) hd ⟨hk, ht⟩) hS (fun H1 locs1 hR1 hS1 => ?_)
  exact kk p e s m args below meth c C H1 locs1 ls hR1 hS1 hL
end CT
