section TX
variable {G : GG} {M : MM} {d pc pc' : Nat} {L : List (Option Value)} {st : List Value} {h h' : PH} {v : Option Value}
theorem v_aret {a : Nat} {c : String} (hd : dn M pc .areturn 1 pc') (hr : M.2.2.2 = some (.object c)) : Vx G M d pc L [.ref a] h (some (.ref a)) h := by
  obtain ⟨hd, rfl⟩ := hd
  intro p e s m args below meth c C H locs ls hR hS hL
  exact W.aret C.1 C.2.1 (C.2.2.1.trans hr) (Or.inl ⟨_, rfl⟩) (Or.inr ⟨_, rfl⟩) (fun t ht _ => ⟨rfl, by rw [ht]; exact hR, hS.F ht⟩) hS.2.2 hd C.2.2.2.2.2.2.1
end TX
