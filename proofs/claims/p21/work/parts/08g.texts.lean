section TX
variable {G : GG} {M : MM} {d pc pc' : Nat} {L : List (Option Value)} {st : List Value} {h h' : PH} {v : Option Value}
def lushr (x : Int64) (y : Int32) : Int64 := (x.toUInt64 >>> (y.toInt64.toUInt64 &&& Int64.toUInt64 63)).toInt64
theorem v_lushr {x : Int64} {y : Int32} (hd : dn M pc .lushr 1 pc') (k : Vx G M d pc' L (.long (lushr x y) :: st) h v h') : Vx G M d pc L (.int y :: .long x :: st) h v h' := by
  obtain ⟨hd, rfl⟩ := hd
  intro p e s m args below meth c C H locs ls hR hS hL
  exact lv_lushr C.1 C.2.1 hd rfl (k p e s m args below meth c C H locs ls hR hS hL)
theorem v_l2i {x : Int64} (hd : dn M pc .l2i 1 pc') (k : Vx G M d pc' L (.int x.toInt32 :: st) h v h') : Vx G M d pc L (.long x :: st) h v h' := by
  obtain ⟨hd, rfl⟩ := hd
  intro p e s m args below meth c C H locs ls hR hS hL
  exact lv_l2i C.1 C.2.1 hd rfl (k p e s m args below meth c C H locs ls hR hS hL)
theorem v_topl {ρ : Type} {x : Int64} {f : Int64 → Option ρ} {r : ρ} (hm : lt x f = some r) (k : ∀ y : Int64, f y = some r → Vx G M d pc L (.long y :: st) h v h') : Vx G M d pc L (.long x :: st) h v h' := k x hm
end TX
