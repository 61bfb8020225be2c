section CT
variable {G : GG} {M : MM} {d mc ms pc pc' tgt : Nat} {L : List (Option Value)} {st : List Value} {k t n n' : Nat} {F F' : CF}
theorem c_ge_t {x y : Int32} (hd : db M pc (.if_icmp .ge) tgt pc') (hc : y ≤ x) (kk : Vc G M d mc ms tgt L st k t n F n' F') : Vc G M d mc ms pc L (.int y :: .int x :: st) k t n F n' F' := by
  obtain ⟨off, hd, ht, rfl⟩ := hd
  intro p e s m args below meth c C H locs ls hR hS hL
  exact lv_icmp_ge C.1 C.2.1 hd ht (fun _ => (kk p e s m args below meth c C H locs ls hR hS hL)) (fun q => absurd hc q)
theorem c_ge_f {x y : Int32} (hd : db M pc (.if_icmp .ge) tgt pc') (hc : ¬ y ≤ x) (kk : Vc G M d mc ms pc' L st k t n F n' F') : Vc G M d mc ms pc L (.int y :: .int x :: st) k t n F n' F' := by
  obtain ⟨off, hd, ht, rfl⟩ := hd
  intro p e s m args below meth c C H locs ls hR hS hL
  exact lv_icmp_ge C.1 C.2.1 hd ht (fun q => absurd q hc) (fun _ => (kk p e s m args below meth c C H locs ls hR hS hL))
theorem c_iload {i : Nat} {x : Int32} (hd : dl M pc .iload_n .iload i pc') (hl : L[i]? = some (some (.int x))) (kk : Vc G M d mc ms pc' L (.int x :: st) k t n F n' F') : Vc G M d mc ms pc L st k t n F n' F' := by
  intro p e s m args below meth c C H locs ls hR hS hL
  rcases hd with ⟨k0, hd, e1, rfl⟩ | ⟨hd, rfl⟩
  · exact lv_iload_n C.1 C.2.1 hd e1 (hL.2.2 i _ hl) (kk p e s m args below meth c C H locs ls hR hS hL)
  · exact lv_iload C.1 C.2.1 hd (hL.2.2 i _ hl) (kk p e s m args below meth c C H locs ls hR hS hL)
theorem c_aload {i : Nat} {x : Nat} (hd : dl M pc .aload_n .aload i pc') (hl : L[i]? = some (some (.ref x))) (kk : Vc G M d mc ms pc' L (.ref x :: st) k t n F n' F') : Vc G M d mc ms pc L st k t n F n' F' := by
  intro p e s m args below meth c C H locs ls hR hS hL
  rcases hd with ⟨k0, hd, e1, rfl⟩ | ⟨hd, rfl⟩
  · exact lv_aload_n C.1 C.2.1 hd e1 (hL.2.2 i _ hl) (kk p e s m args below meth c C H locs ls hR hS hL)
  · exact lv_aload C.1 C.2.1 hd (hL.2.2 i _ hl) (kk p e s m args below meth c C H locs ls hR hS hL)
theorem c_istore {i : Nat} {x : Int32} (hd : dl M pc .istore_n .istore i pc') (hn : i < M.2.2.1) (hk : okS L i = true) (kk : Vc G M d mc ms pc' (L.set i (some (.int x))) st k t n F n' F') : Vc G M d mc ms pc L (.int x :: st) k t n F n' F' := by
  intro p e s m args below meth c C H locs ls hR hS hL
  rcases hd with ⟨k0, hd, e1, rfl⟩ | ⟨hd, rfl⟩
  · exact lv_istore_n C.1 C.2.1 hd e1 hL.has hn rfl (fun ls' hl' => kk p e s m args below meth c C H locs ls' hR hS (LV.of hl' hk))
  · exact lv_istore C.1 C.2.1 hd hL.has hn rfl (fun ls' hl' => kk p e s m args below meth c C H locs ls' hR hS (LV.of hl' hk))
theorem c_astore {i : Nat} {x : Nat} (hd : dl M pc .astore_n .astore i pc') (hn : i < M.2.2.1) (hk : okS L i = true) (kk : Vc G M d mc ms pc' (L.set i (some (.ref x))) st k t n F n' F') : Vc G M d mc ms pc L (.ref x :: st) k t n F n' F' := by
  intro p e s m args below meth c C H locs ls hR hS hL
  rcases hd with ⟨k0, hd, e1, rfl⟩ | ⟨hd, rfl⟩
  · exact lv_astore_n C.1 C.2.1 hd e1 hL.has hn rfl (fun ls' hl' => kk p e s m args below meth c C H locs ls' hR hS (LV.of hl' hk))
  · exact lv_astore C.1 C.2.1 hd hL.has hn rfl (fun ls' hl' => kk p e s m args below meth c C H locs ls' hR hS (LV.of hl' hk))
theorem c_iinc {i : Nat} {q : Int} {x y : Int32} (hd : dn M pc (.iinc i q) 3 pc') (hl : L[i]? = some (some (.int x))) (hy : x + Int32.ofInt q = y) (hn : i < M.2.2.1) (hk : okS L i = true) (kk : Vc G M d mc ms pc' (L.set i (some (.int y))) st k t n F n' F') : Vc G M d mc ms pc L st k t n F n' F' := by
  obtain ⟨hd, rfl⟩ := hd
  intro p e s m args below meth c C H locs ls hR hS hL
  obtain ⟨j, hj⟩ := List.getElem?_of_mem (aL_mem.mpr hl)
  exact lv_iinc C.1 C.2.1 hd hL.has hj hy hn rfl (fun ls' hl' => kk p e s m args below meth c C H locs ls' hR hS (LV.of hl' hk))
theorem c_mmax {idx : Nat} {x y z : Int32} (hd : dn M pc (.invokestatic idx) 3 pc') (hl : Cond.methodLink M.1.cls idx Lib.Math.max.name ∈ tb) (hz : imax x y = z) (hrest : (st.map fun v => v.category).sum ≤ 8) (hk : k ≤ mc) (ht : t ≤ ms) (kk : Vc G M d mc ms pc' L (.int z :: st) k t n F n' F') : Vc G M d mc ms pc L (.int y :: .int x :: st) k t n F n' F' := by
  obtain ⟨hd, rfl⟩ := hd
  subst hz
  intro p e s m args below meth c C H locs ls hR hS hL
  have hts := C.2.2.2.2.2.1
  exact va_mmax C.1 C.2.1 (C.2.2.2.1.trans hL.1.symm) C.2.2.2.2.1 (hts _ hl) (hts _ w_max.1) (hts _ w_max.2.1) (hts _ w_max.2.2) (by simp only [rmc]; omega) (by simp only [rmc]; omega) hk ht hd (kk p e s m args below meth c C H locs ls hR hS hL)
theorem ceE_obj {B : Nat} {cA : Nat → ClassId} {c : CE} {ci : Nat} (h : c.1 = ci) (hlt : ci < 20) : ceE B cA c = .inr (ci, c.2.2.1.map (rv B)) := by
  subst h; simp [ceE, hlt]
theorem c_get {idx ci j a : Nat} {w w' : Value} (hd : dn M pc (.getfield idx) 3 pc') (hf : fu M.1.cls idx ci j) (ha : a < n) (hc : (F a).1 = ci) (hl : (F a).2.2.1[j]? = some w) (hw : rv (gB G) w = w') (kk : Vc G M d mc ms pc' L (w' :: st) k t n F n' F') : Vc G M d mc ms pc L (.ref (gB G + a) :: st) k t n F n' F' := by
  obtain ⟨hd, rfl⟩ := hd
  intro p e s m args below meth c C H locs ls hR hS hL
  obtain ⟨Cn, T, N, hcl, hk, hdecl, hlink⟩ := hf
  obtain ⟨hlt, hcls⟩ := clK_all ci _ hcl
  have he := wn_at (B := gB G) (cA := gA G) (F := F) ha
  rw [ceE_obj hc hlt] at he
  refine va_get C.1 C.2.1 C.2.2.2.2.2.1 hcls.1 C.2.2.2.2.1 C.2.2.2.2.2.2.2.1 hR.2 a he hcl j hk (C.2.2.2.2.2.1 _ hlink) (fun x hx => by rw [hdecl] at hx; exact hx) (v := w') ?_ hd (kk p e s m args below meth c C H locs ls hR hS hL)
  rw [List.getElem?_map, hl, ← hw]
  rfl
def ftc (ci j : Nat) (v : Value) : Prop := ∃ (C : String) (T : u_T) (N : Nat) (ty : FieldType), clsL[ci]? = some (C, T, N) ∧ parseFieldDescriptor (T j).2.2.1 = some ty ∧ narrow ty v = v ∧ fits ty v = true
theorem c_put {idx ci j a : Nat} {w w' : Value} {cc : CE} (hd : dn M pc (.putfield idx) 3 pc') (hf : fu M.1.cls idx ci j) (ht : ftc ci j w') (hown : (clsL[ci]?.map fun r => r.1) = some M.1.cls) (ha : a < n) (hc : (F a).1 = ci) (hj : j < (F a).2.2.1.length) (hw : rv (gB G) w = w') (hcc : (ci, (F a).2.1, (F a).2.2.1.set j w, (F a).2.2.2.1, (F a).2.2.2.2) = cc) (kk : Vc G M d mc ms pc' L st k t n (sF F a cc) n' F') : Vc G M d mc ms pc L (w' :: .ref (gB G + a) :: st) k t n F n' F' := by
  obtain ⟨hd, rfl⟩ := hd
  subst hcc
  intro p e s m args below meth c C H locs ls hR hS hL
  obtain ⟨Cn, T, N, hcl, hk, hdecl, hlink⟩ := hf
  obtain ⟨hlt, hcls⟩ := clK_all ci _ hcl
  obtain ⟨C2, T2, N2, ty, hc2, hpt, hn, hfit⟩ := ht
  cases hcl.symm.trans hc2
  have ho : Cn = M.1.cls := by rw [hcl] at hown; exact Option.some.inj hown
  have he := wn_at (B := gB G) (cA := gA G) (F := F) ha
  rw [ceE_obj hc hlt] at he
  obtain ⟨ty0, hty⟩ := hcls.2.1
  have hset : ceE (gB G) (gA G) (ci, (F a).2.1, (F a).2.2.1.set j w, (F a).2.2.2.1, (F a).2.2.2.2) = .inr (ci, ((F a).2.2.1.map (rv (gB G))).set j w') := by
    rw [ceE_obj rfl hlt, List.map_set, hw]
  have fin : ∀ (H1 : Heap) (locs1 : List Loc), H1.size = H.size → va_P (gD G) clsL ((wn (gB G) (gA G) n F).set a (gB G + a, .inr (ci, ((F a).2.2.1.map (rv (gB G))).set j w'))) H1 → va_S (gF G) s.heap H1 locs1 → W p G.1 e (rmc d mc ms) s m args below meth c H1 locs1 k t (MQ below (QCc G n' F') args s mc ms (gF G)) (F0 m (pc + 3) ls st) := by
    intro H1 locs1 hz hP1 hS1
    rw [wn_set ha hset] at hP1
    exact kk p e s m args below meth c C H1 locs1 ls ⟨hz.trans hR.1, hP1⟩ hS1 hL
  have hap := va_apart (own := Cn) C.2.2.2.2.2.1 hcls.1 ty0 hty hcls.2.2 C.2.2.2.2.2.2.2.1 hcl
  obtain ⟨r, h1, cell, q1, q2, q3, q4⟩ := hR.2 a _ he
  have hr : r = (Cn, T, N) := Option.some.inj (h1.symm.trans hcl)
  subst hr
  obtain ⟨hSl, hfc, kC, hkC, hkind⟩ := C.2.2.2.2.2.2.2.1.1 ci _ hcl
  obtain ⟨cf, kf, fi, f, hi, hsl⟩ := hSl j hk
  have hst := (u_facts hfc hkC (u_lays C.2.2.2.2.2.1 hcls.1 hk) hi).1
  have hl : j < ((F a).2.2.1.map (rv (gB G))).length := by simpa using hj
  have hD := wn_D (gB G) (gA G) n F
  have hlink' := C.2.2.2.2.2.1 _ hlink
  have hi' : s.fieldFound? Cn (T j).2.1 (T j).2.2.1 = some (cf, kf, fi, f) := by rw [← hdecl]; exact hi
  have hlay := C.2.2.2.2.2.1 _ (hcls.1 _ (u_in_lay hk))
  unfold u_lay at hlay
  cases hfin : (T j).2.2.2 with
  | false =>
    rw [if_neg (by rw [hfin]; decide)] at hlay
    have h6 := u_store hfc hkC hkind hlay hi hpt hn hfit
    refine W.putK C.1 C.2.1 (f := f) ⟨C.2.2.2.2.1, hlink', ⟨_, _, _, hi'⟩, hst⟩ (by rw [q2]; exact h6) q1 q3 (by rw [hsl]; exact k2_hasslot (q4 j hk)) rfl rfl hd fun H' e1 e2 e3 => ?_
    rw [hsl] at e1 ⊢
    exact fin H' _ e2 (hR.2.set hD he ⟨_, hcl, t_OB.to (V := updV (vp_V ((F a).2.2.1.map (rv (gB G)))) j w') ⟨_, e1, q2, q3, t_set q4 hap hk w'⟩ (fun i _ => vp_updV_set hl w' i)⟩ e3) (hS.put e2 e3 (hD.2 a _ he))
  | true =>
    rw [if_pos hfin] at hlay
    have hcf : m.cls = cf := by
      obtain ⟨_, _, c', _, _, _, -, -, hf', -, -, -, hown2, -⟩ := Cond.laysFinal_spec hlay
      have e1 : c' = cf := by have := hi.symm.trans hf'; simp at this; exact this.1.symm
      rw [hdecl, ho] at hown2
      rw [← e1]; exact Option.some.inj (C.2.2.2.2.1.symm.trans hown2)
    have h6 := u_fits hfc hkC hkind (Or.inr hlay) hi hpt hn hfit
    refine W.putFinK C.1 C.2.1 C.2.2.2.2.1 hlink' hi' hst hcf C.2.2.2.2.2.2.2.2.2.1 (by rw [q2]; exact h6) q1 q3 (by rw [hsl]; exact k2_hasslot (q4 j hk)) rfl rfl hd fun H' e1 e2 e3 => ?_
    rw [hsl] at e1 ⊢
    exact fin H' _ e2 (hR.2.set hD he ⟨_, hcl, t_OB.to (V := updV (vp_V ((F a).2.2.1.map (rv (gB G)))) j w') ⟨_, e1, q2, q3, t_set q4 hap hk w'⟩ (fun i _ => vp_updV_set hl w' i)⟩ e3) (hS.put e2 e3 (hD.2 a _ he))
def z0 : Nat → Int32 := fun _ => 0
def zn : Nat → Option Nat := fun _ => none
/-- the world behind a new cell -/
theorem HC_push {H H1 : Heap} {e : va_E} {cc : CE} (hR : HC G n F H) (he : ceE (gB G) (gA G) cc = e) (z1 : H1.size = H.size + 1) (o1 : ∀ q, q < H.size → H1[q]? = H[q]?) (hat : va_at (gD G) clsL (gB G + n, e) H1) : HC G (n + 1) (sF F n cc) H1 := by
  refine ⟨by rw [z1, hR.1]; omega, ?_⟩
  rw [← wn_push he]
  refine (hR.2.kept (fun k x hx => o1 x.1 ((hR.2 k x hx).lt))).app (fun k x hx => ?_)
  have hz : k < 1 := (List.getElem?_eq_some_iff.mp hx).1
  rw [show k = 0 by omega] at hx
  cases hx
  exact hat
end CT
