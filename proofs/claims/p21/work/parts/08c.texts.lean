section TX
variable {G : GG} {M : MM} {d pc pc' : Nat} {L : List (Option Value)} {st : List Value} {h h' : PH} {v : Option Value}
theorem v_cret {x : Int32} (hd : dn M pc .ireturn 1 pc') (hr : M.2.2.2 = some .char) : Vx G M d pc L [.int x] h (some (.int (nc x))) h := by
  obtain ⟨hd, rfl⟩ := hd
  intro p e s m args below meth c C H locs ls hR hS hL
  exact W_zretN C.1 C.2.1 (C.2.2.1.trans hr) rfl (fun t ht _ => ⟨rfl, by rw [ht]; exact hR, hS.F ht⟩) hS.2.2 hd C.2.2.2.2.2.2.1
theorem v_bret {x : Int32} (hd : dn M pc .ireturn 1 pc') (hr : M.2.2.2 = some .byte) : Vx G M d pc L [.int x] h (some (.int (i2b x))) h := by
  obtain ⟨hd, rfl⟩ := hd
  intro p e s m args below meth c C H locs ls hR hS hL
  exact W_zretN C.1 C.2.1 (C.2.2.1.trans hr) rfl (fun t ht _ => ⟨rfl, by rw [ht]; exact hR, hS.F ht⟩) hS.2.2 hd C.2.2.2.2.2.2.1
end TX
