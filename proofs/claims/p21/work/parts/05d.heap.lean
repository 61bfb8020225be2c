section HP
variable {G : GG} {M : MM} {d pc pc' : Nat} {L : List (Option Value)} {st : List Value} {h h' : PH} {v : Option Value}
theorem v_put {idx ci j a n : Nat} {x : Int32} {ty : FieldType} (hd : dn M pc (.putfield idx) 3 pc') (hf : fu M.1.cls idx ci j) (ht : fty ci j ty) (ha : shL[a]? = some (ci, n)) (hr : rf a j = none) (hn : narrow ty (.int x) = .int x) (hfit : fits ty (.int x) = true) (k : Vx G M d pc' L st (up h a j x) v h') : Vx G M d pc L (.int x :: .ref (gB G + a) :: st) h v h' := by
  obtain ⟨hd, rfl⟩ := hd
  intro p e s m args below meth c C H locs ls hR hS hL
  obtain ⟨Cn, T, N, hc, hk, hdecl, hlink⟩ := hf
  obtain ⟨hlt, hcl⟩ := clK_all ci _ hc
  obtain ⟨C2, T2, N2, hc2, hfin, hpt⟩ := ht
  cases hc.symm.trans hc2
  have hN := sh_n ha hc hlt
  subst hN
  have he := wd_at (B := gB G) (cA := gA G) (h := h) ha
  rw [ce_obj hlt] at he
  obtain ⟨ty0, hty⟩ := hcl.2.1
  refine va_put C.1 C.2.1 C.2.2.2.2.2.1 hcl.1 ty0 hty hcl.2.2 C.2.2.2.2.1 C.2.2.2.2.2.2.2.1 hR (wd_D _ _ _) hS a he hc j hk (C.2.2.2.2.2.1 _ hlink) (fun x hx => by rw [hdecl] at hx; exact hx) hfin hpt hn hfit (by simpa using hk) hd (fun H1 locs1 hP1 hD1 hS1 => ?_)
  rw [wd_set (t := (ci, n)) (f := upd (h a) j x) ha (by rw [ce_obj hlt]; exact congrArg (fun q => Sum.inr (ci, q)) (fv_up hr hk))] at hP1
  exact k p e s m args below meth c C H1 locs1 ls hP1 hS1 hL
theorem v_putI {idx ci j a n : Nat} {x : Int32} (hd : dn M pc (.putfield idx) 3 pc') (hf : fu M.1.cls idx ci j) (ht : fty ci j .int) (ha : shL[a]? = some (ci, n)) (hr : rf a j = none) (k : Vx G M d pc' L st (up h a j x) v h') : Vx G M d pc L (.int x :: .ref (gB G + a) :: st) h v h' := v_put hd hf ht ha hr rfl rfl k
theorem v_putZ {idx ci j a n : Nat} {x : Int32} (hd : dn M pc (.putfield idx) 3 pc') (hf : fu M.1.cls idx ci j) (ht : fty ci j .boolean) (ha : shL[a]? = some (ci, n)) (hr : rf a j = none) (hx : x = 0 ∨ x = 1) (k : Vx G M d pc' L st (up h a j x) v h') : Vx G M d pc L (.int x :: .ref (gB G + a) :: st) h v h' := v_put hd hf ht ha hr (by rcases hx with rfl | rfl <;> rfl) (by rcases hx with rfl | rfl <;> rfl) k
end HP
