section HP
variable {G : GG} {M : MM} {d pc pc' : Nat} {L : List (Option Value)} {st : List Value} {h h' : PH} {v : Option Value}
theorem v_get {idx ci j a n : Nat} {w : Value} (hd : dn M pc (.getfield idx) 3 pc') (hf : fu M.1.cls idx ci j) (ha : shL[a]? = some (ci, n)) (hw : fv (gB G) h a j = w) (k : Vx G M d pc' L (w :: st) h v h') : Vx G M d pc L (.ref (gB G + a) :: st) h v h' := by
  obtain ⟨hd, rfl⟩ := hd
  intro p e s m args below meth c C H locs ls hR hS hL
  obtain ⟨Cn, T, N, hc, hk, hdecl, hlink⟩ := hf
  obtain ⟨hlt, hcl⟩ := clK_all ci _ hc
  have hN := sh_n ha hc hlt
  subst hN
  have he := wd_at (B := gB G) (cA := gA G) (h := h) ha
  rw [ce_obj hlt] at he
  refine va_get C.1 C.2.1 C.2.2.2.2.2.1 hcl.1 C.2.2.2.2.1 C.2.2.2.2.2.2.2.1 hR a he hc j hk (C.2.2.2.2.2.1 _ hlink) (fun x hx => by rw [hdecl] at hx; exact hx) (v := w) ?_ hd (k p e s m args below meth c C H locs ls hR hS hL)
  rw [List.getElem?_map, List.getElem?_range hk]
  exact congrArg some hw
theorem v_getI {idx ci j a n : Nat} (hd : dn M pc (.getfield idx) 3 pc') (hf : fu M.1.cls idx ci j) (ha : shL[a]? = some (ci, n)) (hr : rf a j = none) (k : Vx G M d pc' L (.int (h a j) :: st) h v h') : Vx G M d pc L (.ref (gB G + a) :: st) h v h' := v_get hd hf ha (fv_int hr) k
theorem v_getR {idx ci j a n b : Nat} (hd : dn M pc (.getfield idx) 3 pc') (hf : fu M.1.cls idx ci j) (ha : shL[a]? = some (ci, n)) (hr : rf a j = some b) (k : Vx G M d pc' L (.ref (gB G + b) :: st) h v h') : Vx G M d pc L (.ref (gB G + a) :: st) h v h' := v_get hd hf ha (fv_ref hr) k
end HP
