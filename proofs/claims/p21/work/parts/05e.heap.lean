section HP
variable {G : GG} {M : MM} {d pc pc' : Nat} {L : List (Option Value)} {st : List Value} {h h' : PH} {v : Option Value}
theorem v_iald {a n : Nat} {i : Int32} (hd : dn M pc .iaload 1 pc') (ha : shL[a]? = some (20, n)) (hin : vp_in i n) (k : Vx G M d pc' L (.int (h a i.toNatClampNeg) :: st) h v h') : Vx G M d pc L (.int i :: .ref (gB G + a) :: st) h v h' := by
  obtain ⟨hd, rfl⟩ := hd
  intro p e s m args below meth c C H locs ls hR hS hL
  have he := wd_at (B := gB G) (cA := gA G) (h := h) ha
  exact va_iald C.1 C.2.1 C.2.2.2.2.2.2.2.1 hR a 0 he rfl hin hd (k p e s m args below meth c C H locs ls hR hS hL)
theorem v_bald {a n : Nat} {i : Int32} (hd : dn M pc .baload 1 pc') (ha : shL[a]? = some (21, n)) (hin : vp_in i n) (k : Vx G M d pc' L (.int (h a i.toNatClampNeg) :: st) h v h') : Vx G M d pc L (.int i :: .ref (gB G + a) :: st) h v h' := by
  obtain ⟨hd, rfl⟩ := hd
  intro p e s m args below meth c C H locs ls hR hS hL
  have he := wd_at (B := gB G) (cA := gA G) (h := h) ha
  exact va_bald C.1 C.2.1 C.2.2.2.2.2.2.2.1 hR a 1 he rfl hin hd (k p e s m args below meth c C H locs ls hR hS hL)
theorem v_aald {a n b : Nat} {i : Int32} (hd : dn M pc .aaload 1 pc') (ha : shL[a]? = some (22, n)) (hin : vp_in i n) (hr : rf a i.toNatClampNeg = some b) (k : Vx G M d pc' L (.ref (gB G + b) :: st) h v h') : Vx G M d pc L (.int i :: .ref (gB G + a) :: st) h v h' := by
  obtain ⟨hd, rfl⟩ := hd
  intro p e s m args below meth c C H locs ls hR hS hL
  have he := wd_at (B := gB G) (cA := gA G) (h := h) ha
  rw [ce_bor] at he
  have hk := k p e s m args below meth c C H locs ls hR hS hL
  refine va_aldq C.1 C.2.1 C.2.2.2.2.2.2.2.1 hR a 2 he rfl hin hd ?_
  simp only [hr, Option.map_some, va_rf]
  exact hk
theorem v_iast {a n : Nat} {i x : Int32} (hd : dn M pc .iastore 1 pc') (ha : shL[a]? = some (20, n)) (hin : vp_in i n) (k : Vx G M d pc' L st (up h a i.toNatClampNeg x) v h') : Vx G M d pc L (.int x :: .int i :: .ref (gB G + a) :: st) h v h' := by
  obtain ⟨hd, rfl⟩ := hd
  intro p e s m args below meth c C H locs ls hR hS hL
  have he := wd_at (B := gB G) (cA := gA G) (h := h) ha
  refine va_iast C.1 C.2.1 C.2.2.2.2.2.2.2.1 hR (wd_D _ _ _) hS a 0 he rfl hin hd (fun H1 locs1 hP1 hD1 hS1 => ?_)
  rw [wd_set (t := (20, n)) (f := upd (h a) i.toNatClampNeg x) ha (by rw [ce_int]; simp [setC, gA])] at hP1
  exact k p e s m args below meth c C H1 locs1 ls hP1 hS1 hL
theorem v_bast {a n : Nat} {i x : Int32} (hd : dn M pc .bastore 1 pc') (ha : shL[a]? = some (21, n)) (hin : vp_in i n) (k : Vx G M d pc' L st (up h a i.toNatClampNeg (i2b x)) v h') : Vx G M d pc L (.int x :: .int i :: .ref (gB G + a) :: st) h v h' := by
  obtain ⟨hd, rfl⟩ := hd
  intro p e s m args below meth c C H locs ls hR hS hL
  have he := wd_at (B := gB G) (cA := gA G) (h := h) ha
  refine va_bast C.1 C.2.1 C.2.2.2.2.2.2.2.1 hR (wd_D _ _ _) hS a 1 he rfl hin hd (fun H1 locs1 hP1 hD1 hS1 => ?_)
  rw [wd_set (t := (21, n)) (f := upd (h a) i.toNatClampNeg (i2b x)) ha (by rw [ce_byte]; simp [setC, gA, vp_nar, narrow, i2b])] at hP1
  exact k p e s m args below meth c C H1 locs1 ls hP1 hS1 hL
end HP
