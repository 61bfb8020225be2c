section TX
variable {G : GG} {M : MM} {d pc pc' : Nat} {L : List (Option Value)} {st : List Value} {h h' : PH} {v : Option Value}
theorem v_getCoder {idx i : Nat} (hd : dn M pc (.getfield idx) 3 pc') (hl : Cond.fieldLink M.1.cls idx "java/lang/String" "coder" "B" ∈ tb) (hi : i < 5) (k : Vx G M d pc' L (.int 0 :: st) h v h') : Vx G M d pc L (.ref (gS G i) :: st) h v h' := by
  obtain ⟨hd, rfl⟩ := hd
  intro p e s m args below meth c C H locs ls hR hS hL
  exact vk_getf C.1 C.2.1 (C.2.2.2.2.2.2.2.2.2.2.1.1 i hi).2.1 hS C.2.2.2.2.1 (C.2.2.2.2.2.1 _ hl) (fun x hx => hx) hd (k p e s m args below meth c C H locs ls hR hS hL)
theorem v_getVal {idx i : Nat} (hd : dn M pc (.getfield idx) 3 pc') (hl : Cond.fieldLink M.1.cls idx "java/lang/String" "value" "[B" ∈ tb) (hi : i < 5) (k : Vx G M d pc' L (.ref (gV G i) :: st) h v h') : Vx G M d pc L (.ref (gS G i) :: st) h v h' := by
  obtain ⟨hd, rfl⟩ := hd
  intro p e s m args below meth c C H locs ls hR hS hL
  exact vk_getf C.1 C.2.1 (C.2.2.2.2.2.2.2.2.2.2.1.1 i hi).2.2.1 hS C.2.2.2.2.1 (C.2.2.2.2.2.1 _ hl) (fun x hx => hx) hd (k p e s m args below meth c C H locs ls hR hS hL)
theorem v_getCS {idx : Nat} (hd : dn M pc (.getstatic idx) 3 pc') (hl : Cond.fieldLink M.1.cls idx "java/lang/String" "COMPACT_STRINGS" "Z" ∈ tb) (k : Vx G M d pc' L (.int 1 :: st) h v h') : Vx G M d pc L st h v h' := by
  obtain ⟨hd, rfl⟩ := hd
  intro p e s m args below meth c C H locs ls hR hS hL
  exact va_gets C.1 C.2.1 C.2.2.2.2.2.2.2.2.2.2.2.1 hS C.2.2.2.2.1 (C.2.2.2.2.2.1 _ hl) (fun x hx => hx) hd (k p e s m args below meth c C H locs ls hR hS hL)
theorem v_getFm {idx : Nat} (hd : dn M pc (.getstatic idx) 3 pc') (hl : Cond.fieldLink M.1.cls idx "jdk/internal/util/Preconditions" "SIOOBE_FORMATTER" "Ljava/util/function/BiFunction;" ∈ tb) (k : Vx G M d pc' L (fmtV G :: st) h v h') : Vx G M d pc L st h v h' := by
  obtain ⟨hd, rfl⟩ := hd
  intro p e s m args below meth c C H locs ls hR hS hL
  exact va_gets C.1 C.2.1 C.2.2.2.2.2.2.2.2.2.2.2.2 hS C.2.2.2.2.1 (C.2.2.2.2.2.1 _ hl) (fun x hx => hx) hd (k p e s m args below meth c C H locs ls hR hS hL)
theorem v_alenT {i : Nat} (hd : dn M pc .arraylength 1 pc') (hi : i < 5) (k : Vx G M d pc' L (.int (Int32.ofNat (sln i)) :: st) h v h') : Vx G M d pc L (.ref (gV G i) :: st) h v h' := by
  obtain ⟨hd, rfl⟩ := hd
  intro p e s m args below meth c C H locs ls hR hS hL
  exact va_tlen C.1 C.2.1 (C.2.2.2.2.2.2.2.2.2.2.1.1 i hi).2.2.2 hS rfl hd (k p e s m args below meth c C H locs ls hR hS hL)
theorem v_baldT {i : Nat} {x : Int32} (hd : dn M pc .baload 1 pc') (hi : i < 5) (hin : vp_in x (sln i)) (k : Vx G M d pc' L (.int (sby i (ix x)) :: st) h v h') : Vx G M d pc L (.int x :: .ref (gV G i) :: st) h v h' := by
  obtain ⟨hd, rfl⟩ := hd
  intro p e s m args below meth c C H locs ls hR hS hL
  exact va_tb C.1 C.2.1 (C.2.2.2.2.2.2.2.2.2.2.1.1 i hi).2.2.2 hS hin rfl hd (k p e s m args below meth c C H locs ls hR hS hL)
def nc (x : Int32) : Int32 := x.toUInt32.toUInt16.toUInt32.toInt32
end TX
