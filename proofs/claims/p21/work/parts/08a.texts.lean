/-! TEXTS (the five literals, by number) and LONGS -/
section TX
variable {G : GG} {M : MM} {d pc pc' : Nat} {L : List (Option Value)} {st : List Value} {h h' : PH} {v : Option Value}
/-- entry i of a text's bytes -/
def sby (i j : Nat) : Int32 := (stB.getD i []).getD j 0
def sln (i : Nat) : Nat := stN.getD i 0
theorem v_ldcS {idx i : Nat} {tx : String} (hd : dn M pc (.ldc idx) 2 pc') (hs : stL[i]? = some (M.1.cls, idx, tx)) (k : Vx G M d pc' L (.ref (gS G i) :: st) h v h') : Vx G M d pc L st h v h' := by
  obtain ⟨hd, rfl⟩ := hd
  intro p e s m args below meth c C H locs ls hR hS hL
  exact va_ldcS C.1 C.2.1 C.2.2.2.2.1 (C.2.2.2.2.2.2.2.2.2.1 i _ hs) hd (k p e s m args below meth c C H locs ls hR hS hL)
end TX
