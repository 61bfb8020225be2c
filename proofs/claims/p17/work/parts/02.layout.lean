/-! THE LAYOUT: the classes by number, their fields in order; the cells that the two constructors make, by number from the first; which slots are references. Printed by wip/gen/p02.py -/
theorem fd_0 : parseFieldDescriptor "LGingerRents$Borough;" = some (.object "GingerRents$Borough") := by decide +kernel
theorem fd_1 : parseFieldDescriptor "LGingerRents$Told;" = some (.object "GingerRents$Told") := by decide +kernel
theorem fd_2 : parseFieldDescriptor "LGingerRents$Season;" = some (.object "GingerRents$Season") := by decide +kernel
theorem fd_3 : parseFieldDescriptor "LGingerRents$Past;" = some (.object "GingerRents$Past") := by decide +kernel
theorem fd_4 : parseFieldDescriptor "LGingerRents$Tape;" = some (.object "GingerRents$Tape") := by decide +kernel
theorem fd_5 : parseFieldDescriptor "LGingerRents$Reader;" = some (.object "GingerRents$Reader") := by decide +kernel
theorem fd_6 : parseFieldDescriptor "LGingerRents$Street;" = some (.object "GingerRents$Street") := by decide +kernel
theorem fd_7 : parseFieldDescriptor "LGingerRents$Kitchen;" = some (.object "GingerRents$Kitchen") := by decide +kernel
theorem fd_8 : parseFieldDescriptor "LGingerRents$Slab;" = some (.object "GingerRents$Slab") := by decide +kernel
theorem fd_9 : parseFieldDescriptor "Z" = some (.boolean) := by decide +kernel
theorem fd_10 : parseFieldDescriptor "[I" = some (.array .int) := by decide +kernel
theorem fd_11 : parseFieldDescriptor "I" = some (.int) := by decide +kernel
theorem fd_12 : parseFieldDescriptor "LGingerRents$Rows;" = some (.object "GingerRents$Rows") := by decide +kernel
theorem fd_13 : parseFieldDescriptor "[LGingerRents$Borough;" = some (.array (.object "GingerRents$Borough")) := by decide +kernel
theorem fd_14 : parseFieldDescriptor "LGingerRents$Law;" = some (.object "GingerRents$Law") := by decide +kernel
theorem fd_15 : parseFieldDescriptor "[B" = some (.array .byte) := by decide +kernel
def wo_c (j : Nat) : List Cond := if j = 1 then tables_1_1 else if j = 2 then tables_1_2 else if j = 3 then tables_1_3 else if j = 4 then tables_1_4 else if j = 5 then tables_1_5 else if j = 6 then tables_1_6 else if j = 7 then tables_1_7 else if j = 8 then tables_1_8 else if j = 9 then tables_1_9 else []
theorem wo_in (j : Nat) (w : Cond) (h : w ∈ wo_c j) : w ∈ lw_tbl := by
  unfold wo_c at h
  by_cases z : j = 1
  · rw [if_pos z] at h
    exact List.mem_append_right _ (List.mem_append_left _ h)
  rw [if_neg z] at h
  by_cases z : j = 2
  · rw [if_pos z] at h
    exact List.mem_append_right _ (List.mem_append_right _ (List.mem_append_left _ h))
  rw [if_neg z] at h
  by_cases z : j = 3
  · rw [if_pos z] at h
    exact List.mem_append_right _ (List.mem_append_right _ (List.mem_append_right _ (List.mem_append_left _ h)))
  rw [if_neg z] at h
  by_cases z : j = 4
  · rw [if_pos z] at h
    exact List.mem_append_right _ (List.mem_append_right _ (List.mem_append_right _ (List.mem_append_right _ (List.mem_append_left _ h))))
  rw [if_neg z] at h
  by_cases z : j = 5
  · rw [if_pos z] at h
    exact List.mem_append_right _ (List.mem_append_right _ (List.mem_append_right _ (List.mem_append_right _ (List.mem_append_right _ (List.mem_append_left _ h)))))
  rw [if_neg z] at h
  by_cases z : j = 6
  · rw [if_pos z] at h
    exact List.mem_append_right _ (List.mem_append_right _ (List.mem_append_right _ (List.mem_append_right _ (List.mem_append_right _ (List.mem_append_right _ (List.mem_append_left _ h))))))
  rw [if_neg z] at h
  by_cases z : j = 7
  · rw [if_pos z] at h
    exact List.mem_append_right _ (List.mem_append_right _ (List.mem_append_right _ (List.mem_append_right _ (List.mem_append_right _ (List.mem_append_right _ (List.mem_append_right _ (List.mem_append_left _ h)))))))
  rw [if_neg z] at h
  by_cases z : j = 8
  · rw [if_pos z] at h
    exact List.mem_append_right _ (List.mem_append_right _ (List.mem_append_right _ (List.mem_append_right _ (List.mem_append_right _ (List.mem_append_right _ (List.mem_append_right _ (List.mem_append_right _ (List.mem_append_left _ h))))))))
  rw [if_neg z] at h
  by_cases z : j = 9
  · rw [if_pos z] at h
    exact List.mem_append_right _ (List.mem_append_right _ (List.mem_append_right _ (List.mem_append_right _ (List.mem_append_right _ (List.mem_append_right _ (List.mem_append_right _ (List.mem_append_right _ (List.mem_append_right _ (h)))))))))
  rw [if_neg z] at h
  exact absurd h List.not_mem_nil
theorem wo_ix {l : List Cond} (ix : List (Nat × Nat)) (e : l.map some = ix.map fun p => (wo_c p.1)[p.2]?) : ∀ w ∈ l, w ∈ lw_tbl := fun w hw => by
  have q : some w ∈ l.map some := List.mem_map.mpr ⟨w, hw, rfl⟩
  rw [e] at q
  obtain ⟨p, _, e2⟩ := List.mem_map.mp q
  exact wo_in p.1 w (List.mem_of_getElem? e2)
def tT_0 : u_T := fun k => match k with
  | 0 => ("GingerRents", "town", "LGingerRents$Borough;", true)
  | 1 => ("GingerRents", "pictured", "LGingerRents$Borough;", true)
  | 2 => ("GingerRents", "thought", "LGingerRents$Borough;", true)
  | 3 => ("GingerRents", "told", "LGingerRents$Told;", true)
  | 4 => ("GingerRents", "toldThen", "LGingerRents$Told;", true)
  | 5 => ("GingerRents", "season", "LGingerRents$Season;", true)
  | 6 => ("GingerRents", "dream", "LGingerRents$Season;", true)
  | 7 => ("GingerRents", "past", "LGingerRents$Past;", true)
  | 8 => ("GingerRents", "tape", "LGingerRents$Tape;", true)
  | 9 => ("GingerRents", "reader", "LGingerRents$Reader;", true)
  | 10 => ("GingerRents", "street", "LGingerRents$Street;", true)
  | 11 => ("GingerRents", "kitchen", "LGingerRents$Kitchen;", true)
  | 12 => ("GingerRents", "slab", "LGingerRents$Slab;", true)
  | _ => ("GingerRents", "isPictured", "Z", false)
def ty_0 : Nat → FieldType := fun k => match k with
  | 0 => .object "GingerRents$Borough"
  | 1 => .object "GingerRents$Borough"
  | 2 => .object "GingerRents$Borough"
  | 3 => .object "GingerRents$Told"
  | 4 => .object "GingerRents$Told"
  | 5 => .object "GingerRents$Season"
  | 6 => .object "GingerRents$Season"
  | 7 => .object "GingerRents$Past"
  | 8 => .object "GingerRents$Tape"
  | 9 => .object "GingerRents$Reader"
  | 10 => .object "GingerRents$Street"
  | 11 => .object "GingerRents$Kitchen"
  | 12 => .object "GingerRents$Slab"
  | _ => .boolean
theorem ty_ok_0 : ∀ k, k < 14 → parseFieldDescriptor (tT_0 k).2.2.1 = some (ty_0 k) := fun k hk => match k, hk with
  | 0, _ => fd_0
  | 1, _ => fd_0
  | 2, _ => fd_0
  | 3, _ => fd_1
  | 4, _ => fd_1
  | 5, _ => fd_2
  | 6, _ => fd_2
  | 7, _ => fd_3
  | 8, _ => fd_4
  | 9, _ => fd_5
  | 10, _ => fd_6
  | 11, _ => fd_7
  | 12, _ => fd_8
  | 13, _ => fd_9
  | k + 14, h => absurd h (by omega)
theorem nm_lo_0 : ∀ a, a < 14 → ∀ b, b < a → (tT_0 a).2.1 ≠ (tT_0 b).2.1 := by decide +kernel
theorem nm_ok_0 : ∀ a, a < 14 → ∀ b, b < 14 → a ≠ b → (tT_0 a).2.1 ≠ (tT_0 b).2.1 := fun a ha b hb n => (Nat.lt_or_gt_of_ne n).elim (fun l e => nm_lo_0 b hb a l e.symm) (fun l => nm_lo_0 a ha b l)
set_option maxRecDepth 20000 in
theorem ws_ok_0 : ∀ w ∈ u_ws "GingerRents" tT_0 14, w ∈ lw_tbl := wo_ix [(2, 130), (2, 132), (2, 134), (2, 136), (2, 138), (2, 140), (2, 142), (2, 144), (2, 146), (2, 148), (2, 150), (2, 152), (2, 154), (2, 156)] (by decide +kernel)
def tT_1 : u_T := fun k => match k with
  | 0 => ("GingerRents$Borough", "cells", "[I", true)
  | 1 => ("GingerRents$Borough", "houses", "I", false)
  | 2 => ("GingerRents$Borough", "rain", "I", false)
  | 3 => ("GingerRents$Borough", "frost", "I", false)
  | 4 => ("GingerRents$Borough", "eaten", "I", false)
  | 5 => ("GingerRents$Borough", "gnawed", "I", false)
  | 6 => ("GingerRents$Borough", "quarter", "I", false)
  | _ => ("GingerRents$Borough", "draws", "I", false)
def ty_1 : Nat → FieldType := fun k => match k with
  | 0 => .array .int
  | 1 => .int
  | 2 => .int
  | 3 => .int
  | 4 => .int
  | 5 => .int
  | 6 => .int
  | _ => .int
theorem ty_ok_1 : ∀ k, k < 8 → parseFieldDescriptor (tT_1 k).2.2.1 = some (ty_1 k) := fun k hk => match k, hk with
  | 0, _ => fd_10
  | 1, _ => fd_11
  | 2, _ => fd_11
  | 3, _ => fd_11
  | 4, _ => fd_11
  | 5, _ => fd_11
  | 6, _ => fd_11
  | 7, _ => fd_11
  | k + 8, h => absurd h (by omega)
theorem nm_lo_1 : ∀ a, a < 8 → ∀ b, b < a → (tT_1 a).2.1 ≠ (tT_1 b).2.1 := by decide +kernel
theorem nm_ok_1 : ∀ a, a < 8 → ∀ b, b < 8 → a ≠ b → (tT_1 a).2.1 ≠ (tT_1 b).2.1 := fun a ha b hb n => (Nat.lt_or_gt_of_ne n).elim (fun l e => nm_lo_1 b hb a l e.symm) (fun l => nm_lo_1 a ha b l)
set_option maxRecDepth 20000 in
theorem ws_ok_1 : ∀ w ∈ u_ws "GingerRents$Borough" tT_1 8, w ∈ lw_tbl := wo_ix [(1, 61), (1, 63), (1, 65), (1, 67), (1, 69), (1, 71), (1, 73), (1, 75)] (by decide +kernel)
def tT_2 : u_T := fun k => match k with
  | 0 => ("GingerRents$Kitchen", "loads", "[I", true)
  | 1 => ("GingerRents$Kitchen", "norths", "[I", true)
  | _ => ("GingerRents$Kitchen", "easts", "[I", true)
def ty_2 : Nat → FieldType := fun k => match k with
  | 0 => .array .int
  | 1 => .array .int
  | _ => .array .int
theorem ty_ok_2 : ∀ k, k < 3 → parseFieldDescriptor (tT_2 k).2.2.1 = some (ty_2 k) := fun k hk => match k, hk with
  | 0, _ => fd_10
  | 1, _ => fd_10
  | 2, _ => fd_10
  | k + 3, h => absurd h (by omega)
theorem nm_lo_2 : ∀ a, a < 3 → ∀ b, b < a → (tT_2 a).2.1 ≠ (tT_2 b).2.1 := by decide +kernel
theorem nm_ok_2 : ∀ a, a < 3 → ∀ b, b < 3 → a ≠ b → (tT_2 a).2.1 ≠ (tT_2 b).2.1 := fun a ha b hb n => (Nat.lt_or_gt_of_ne n).elim (fun l e => nm_lo_2 b hb a l e.symm) (fun l => nm_lo_2 a ha b l)
set_option maxRecDepth 20000 in
theorem ws_ok_2 : ∀ w ∈ u_ws "GingerRents$Kitchen" tT_2 3, w ∈ lw_tbl := wo_ix [(2, 96), (2, 98), (2, 100)] (by decide +kernel)
def tT_3 : u_T := fun k => match k with
  | 0 => ("GingerRents$Law", "lines", "LGingerRents$Rows;", true)
  | 1 => ("GingerRents$Law", "code", "LGingerRents$Rows;", true)
  | 2 => ("GingerRents$Law", "known", "[I", true)
  | 3 => ("GingerRents$Law", "stack", "[I", true)
  | _ => ("GingerRents$Law", "depth", "I", false)
def ty_3 : Nat → FieldType := fun k => match k with
  | 0 => .object "GingerRents$Rows"
  | 1 => .object "GingerRents$Rows"
  | 2 => .array .int
  | 3 => .array .int
  | _ => .int
theorem ty_ok_3 : ∀ k, k < 5 → parseFieldDescriptor (tT_3 k).2.2.1 = some (ty_3 k) := fun k hk => match k, hk with
  | 0, _ => fd_12
  | 1, _ => fd_12
  | 2, _ => fd_10
  | 3, _ => fd_10
  | 4, _ => fd_11
  | k + 5, h => absurd h (by omega)
theorem nm_lo_3 : ∀ a, a < 5 → ∀ b, b < a → (tT_3 a).2.1 ≠ (tT_3 b).2.1 := by decide +kernel
theorem nm_ok_3 : ∀ a, a < 5 → ∀ b, b < 5 → a ≠ b → (tT_3 a).2.1 ≠ (tT_3 b).2.1 := fun a ha b hb n => (Nat.lt_or_gt_of_ne n).elim (fun l e => nm_lo_3 b hb a l e.symm) (fun l => nm_lo_3 a ha b l)
set_option maxRecDepth 20000 in
theorem ws_ok_3 : ∀ w ∈ u_ws "GingerRents$Law" tT_3 5, w ∈ lw_tbl := wo_ix [(1, 185), (1, 187), (1, 189), (1, 191), (1, 193)] (by decide +kernel)
def tT_4 : u_T := fun k => match k with
  | 0 => ("GingerRents$Past", "kept", "[LGingerRents$Borough;", true)
  | 1 => ("GingerRents$Past", "bookLines", "[I", true)
  | 2 => ("GingerRents$Past", "first", "I", false)
  | _ => ("GingerRents$Past", "many", "I", false)
def ty_4 : Nat → FieldType := fun k => match k with
  | 0 => .array (.object "GingerRents$Borough")
  | 1 => .array .int
  | 2 => .int
  | _ => .int
theorem ty_ok_4 : ∀ k, k < 4 → parseFieldDescriptor (tT_4 k).2.2.1 = some (ty_4 k) := fun k hk => match k, hk with
  | 0, _ => fd_13
  | 1, _ => fd_10
  | 2, _ => fd_11
  | 3, _ => fd_11
  | k + 4, h => absurd h (by omega)
theorem nm_lo_4 : ∀ a, a < 4 → ∀ b, b < a → (tT_4 a).2.1 ≠ (tT_4 b).2.1 := by decide +kernel
theorem nm_ok_4 : ∀ a, a < 4 → ∀ b, b < 4 → a ≠ b → (tT_4 a).2.1 ≠ (tT_4 b).2.1 := fun a ha b hb n => (Nat.lt_or_gt_of_ne n).elim (fun l e => nm_lo_4 b hb a l e.symm) (fun l => nm_lo_4 a ha b l)
set_option maxRecDepth 20000 in
theorem ws_ok_4 : ∀ w ∈ u_ws "GingerRents$Past" tT_4 4, w ∈ lw_tbl := wo_ix [(1, 230), (1, 232), (1, 234), (1, 236)] (by decide +kernel)
def tT_5 : u_T := fun k => match k with
  | 0 => ("GingerRents$Reader", "lines", "LGingerRents$Rows;", true)
  | 1 => ("GingerRents$Reader", "code", "LGingerRents$Rows;", true)
  | 2 => ("GingerRents$Reader", "wrong", "I", false)
  | 3 => ("GingerRents$Reader", "wrongPlace", "I", false)
  | 4 => ("GingerRents$Reader", "tape", "LGingerRents$Tape;", true)
  | 5 => ("GingerRents$Reader", "at", "I", false)
  | 6 => ("GingerRents$Reader", "kind", "I", false)
  | 7 => ("GingerRents$Reader", "value", "I", false)
  | 8 => ("GingerRents$Reader", "houses", "I", false)
  | _ => ("GingerRents$Reader", "taken", "I", false)
def ty_5 : Nat → FieldType := fun k => match k with
  | 0 => .object "GingerRents$Rows"
  | 1 => .object "GingerRents$Rows"
  | 2 => .int
  | 3 => .int
  | 4 => .object "GingerRents$Tape"
  | 5 => .int
  | 6 => .int
  | 7 => .int
  | 8 => .int
  | _ => .int
theorem ty_ok_5 : ∀ k, k < 10 → parseFieldDescriptor (tT_5 k).2.2.1 = some (ty_5 k) := fun k hk => match k, hk with
  | 0, _ => fd_12
  | 1, _ => fd_12
  | 2, _ => fd_11
  | 3, _ => fd_11
  | 4, _ => fd_4
  | 5, _ => fd_11
  | 6, _ => fd_11
  | 7, _ => fd_11
  | 8, _ => fd_11
  | 9, _ => fd_11
  | k + 10, h => absurd h (by omega)
theorem nm_lo_5 : ∀ a, a < 10 → ∀ b, b < a → (tT_5 a).2.1 ≠ (tT_5 b).2.1 := by decide +kernel
theorem nm_ok_5 : ∀ a, a < 10 → ∀ b, b < 10 → a ≠ b → (tT_5 a).2.1 ≠ (tT_5 b).2.1 := fun a ha b hb n => (Nat.lt_or_gt_of_ne n).elim (fun l e => nm_lo_5 b hb a l e.symm) (fun l => nm_lo_5 a ha b l)
set_option maxRecDepth 20000 in
theorem ws_ok_5 : ∀ w ∈ u_ws "GingerRents$Reader" tT_5 10, w ∈ lw_tbl := wo_ix [(2, 53), (2, 55), (2, 57), (2, 59), (2, 61), (2, 63), (2, 65), (2, 67), (2, 69), (2, 71)] (by decide +kernel)
def tT_6 : u_T := fun k => match k with
  | 0 => ("GingerRents$Rows", "most", "I", true)
  | 1 => ("GingerRents$Rows", "width", "I", true)
  | 2 => ("GingerRents$Rows", "cells", "[I", true)
  | _ => ("GingerRents$Rows", "lines", "I", false)
def ty_6 : Nat → FieldType := fun k => match k with
  | 0 => .int
  | 1 => .int
  | 2 => .array .int
  | _ => .int
theorem ty_ok_6 : ∀ k, k < 4 → parseFieldDescriptor (tT_6 k).2.2.1 = some (ty_6 k) := fun k hk => match k, hk with
  | 0, _ => fd_11
  | 1, _ => fd_11
  | 2, _ => fd_10
  | 3, _ => fd_11
  | k + 4, h => absurd h (by omega)
theorem nm_lo_6 : ∀ a, a < 4 → ∀ b, b < a → (tT_6 a).2.1 ≠ (tT_6 b).2.1 := by decide +kernel
theorem nm_ok_6 : ∀ a, a < 4 → ∀ b, b < 4 → a ≠ b → (tT_6 a).2.1 ≠ (tT_6 b).2.1 := fun a ha b hb n => (Nat.lt_or_gt_of_ne n).elim (fun l e => nm_lo_6 b hb a l e.symm) (fun l => nm_lo_6 a ha b l)
set_option maxRecDepth 20000 in
theorem ws_ok_6 : ∀ w ∈ u_ws "GingerRents$Rows" tT_6 4, w ∈ lw_tbl := wo_ix [(1, 105), (1, 107), (1, 109), (1, 111)] (by decide +kernel)
def tT_7 : u_T := fun k => match k with
  | 0 => ("GingerRents$Season", "town", "LGingerRents$Borough;", true)
  | 1 => ("GingerRents$Season", "told", "LGingerRents$Told;", true)
  | 2 => ("GingerRents$Season", "law", "LGingerRents$Law;", true)
  | _ => ("GingerRents$Season", "isReal", "Z", true)
def ty_7 : Nat → FieldType := fun k => match k with
  | 0 => .object "GingerRents$Borough"
  | 1 => .object "GingerRents$Told"
  | 2 => .object "GingerRents$Law"
  | _ => .boolean
theorem ty_ok_7 : ∀ k, k < 4 → parseFieldDescriptor (tT_7 k).2.2.1 = some (ty_7 k) := fun k hk => match k, hk with
  | 0, _ => fd_0
  | 1, _ => fd_1
  | 2, _ => fd_14
  | 3, _ => fd_9
  | k + 4, h => absurd h (by omega)
theorem nm_lo_7 : ∀ a, a < 4 → ∀ b, b < a → (tT_7 a).2.1 ≠ (tT_7 b).2.1 := by decide +kernel
theorem nm_ok_7 : ∀ a, a < 4 → ∀ b, b < 4 → a ≠ b → (tT_7 a).2.1 ≠ (tT_7 b).2.1 := fun a ha b hb n => (Nat.lt_or_gt_of_ne n).elim (fun l e => nm_lo_7 b hb a l e.symm) (fun l => nm_lo_7 a ha b l)
set_option maxRecDepth 20000 in
theorem ws_ok_7 : ∀ w ∈ u_ws "GingerRents$Season" tT_7 4, w ∈ lw_tbl := wo_ix [(1, 207), (1, 209), (1, 211), (1, 213)] (by decide +kernel)
def tT_8 : u_T := fun k => match k with
  | 0 => ("GingerRents$Slab", "lost", "[I", true)
  | _ => ("GingerRents$Slab", "isKnown", "Z", false)
def ty_8 : Nat → FieldType := fun k => match k with
  | 0 => .array .int
  | _ => .boolean
theorem ty_ok_8 : ∀ k, k < 2 → parseFieldDescriptor (tT_8 k).2.2.1 = some (ty_8 k) := fun k hk => match k, hk with
  | 0, _ => fd_10
  | 1, _ => fd_9
  | k + 2, h => absurd h (by omega)
theorem nm_lo_8 : ∀ a, a < 2 → ∀ b, b < a → (tT_8 a).2.1 ≠ (tT_8 b).2.1 := by decide +kernel
theorem nm_ok_8 : ∀ a, a < 2 → ∀ b, b < 2 → a ≠ b → (tT_8 a).2.1 ≠ (tT_8 b).2.1 := fun a ha b hb n => (Nat.lt_or_gt_of_ne n).elim (fun l e => nm_lo_8 b hb a l e.symm) (fun l => nm_lo_8 a ha b l)
set_option maxRecDepth 20000 in
theorem ws_ok_8 : ∀ w ∈ u_ws "GingerRents$Slab" tT_8 2, w ∈ lw_tbl := wo_ix [(2, 111), (2, 113)] (by decide +kernel)
def tT_9 : u_T := fun k => match k with
  | 0 => ("GingerRents$Street", "costs", "[I", true)
  | _ => ("GingerRents$Street", "near", "[I", true)
def ty_9 : Nat → FieldType := fun k => match k with
  | 0 => .array .int
  | _ => .array .int
theorem ty_ok_9 : ∀ k, k < 2 → parseFieldDescriptor (tT_9 k).2.2.1 = some (ty_9 k) := fun k hk => match k, hk with
  | 0, _ => fd_10
  | 1, _ => fd_10
  | k + 2, h => absurd h (by omega)
theorem nm_lo_9 : ∀ a, a < 2 → ∀ b, b < a → (tT_9 a).2.1 ≠ (tT_9 b).2.1 := by decide +kernel
theorem nm_ok_9 : ∀ a, a < 2 → ∀ b, b < 2 → a ≠ b → (tT_9 a).2.1 ≠ (tT_9 b).2.1 := fun a ha b hb n => (Nat.lt_or_gt_of_ne n).elim (fun l e => nm_lo_9 b hb a l e.symm) (fun l => nm_lo_9 a ha b l)
set_option maxRecDepth 20000 in
theorem ws_ok_9 : ∀ w ∈ u_ws "GingerRents$Street" tT_9 2, w ∈ lw_tbl := wo_ix [(2, 82), (2, 84)] (by decide +kernel)
def tT_10 : u_T := fun k => match k with
  | 0 => ("GingerRents$Tape", "bytes", "[B", true)
  | 1 => ("GingerRents$Tape", "kinds", "[I", true)
  | 2 => ("GingerRents$Tape", "values", "[I", true)
  | 3 => ("GingerRents$Tape", "places", "[I", true)
  | 4 => ("GingerRents$Tape", "length", "I", false)
  | _ => ("GingerRents$Tape", "tokens", "I", false)
def ty_10 : Nat → FieldType := fun k => match k with
  | 0 => .array .byte
  | 1 => .array .int
  | 2 => .array .int
  | 3 => .array .int
  | 4 => .int
  | _ => .int
theorem ty_ok_10 : ∀ k, k < 6 → parseFieldDescriptor (tT_10 k).2.2.1 = some (ty_10 k) := fun k hk => match k, hk with
  | 0, _ => fd_15
  | 1, _ => fd_10
  | 2, _ => fd_10
  | 3, _ => fd_10
  | 4, _ => fd_11
  | 5, _ => fd_11
  | k + 6, h => absurd h (by omega)
theorem nm_lo_10 : ∀ a, a < 6 → ∀ b, b < a → (tT_10 a).2.1 ≠ (tT_10 b).2.1 := by decide +kernel
theorem nm_ok_10 : ∀ a, a < 6 → ∀ b, b < 6 → a ≠ b → (tT_10 a).2.1 ≠ (tT_10 b).2.1 := fun a ha b hb n => (Nat.lt_or_gt_of_ne n).elim (fun l e => nm_lo_10 b hb a l e.symm) (fun l => nm_lo_10 a ha b l)
set_option maxRecDepth 20000 in
theorem ws_ok_10 : ∀ w ∈ u_ws "GingerRents$Tape" tT_10 6, w ∈ lw_tbl := wo_ix [(2, 17), (2, 19), (2, 21), (2, 23), (2, 25), (2, 27)] (by decide +kernel)
def tT_11 : u_T := fun k => match k with
  | 0 => ("GingerRents$Told", "law", "LGingerRents$Rows;", true)
  | 1 => ("GingerRents$Told", "code", "LGingerRents$Rows;", true)
  | 2 => ("GingerRents$Told", "sky", "LGingerRents$Rows;", true)
  | 3 => ("GingerRents$Told", "office", "LGingerRents$Rows;", true)
  | 4 => ("GingerRents$Told", "next", "LGingerRents$Rows;", true)
  | 5 => ("GingerRents$Told", "book", "LGingerRents$Rows;", true)
  | 6 => ("GingerRents$Told", "plate", "LGingerRents$Rows;", true)
  | 7 => ("GingerRents$Told", "pans", "LGingerRents$Rows;", true)
  | 8 => ("GingerRents$Told", "marks", "LGingerRents$Rows;", true)
  | 9 => ("GingerRents$Told", "bites", "LGingerRents$Rows;", true)
  | 10 => ("GingerRents$Told", "crumbs", "LGingerRents$Rows;", true)
  | 11 => ("GingerRents$Told", "loaves", "LGingerRents$Rows;", true)
  | 12 => ("GingerRents$Told", "heirs", "LGingerRents$Rows;", true)
  | _ => ("GingerRents$Told", "members", "LGingerRents$Rows;", true)
def ty_11 : Nat → FieldType := fun k => match k with
  | 0 => .object "GingerRents$Rows"
  | 1 => .object "GingerRents$Rows"
  | 2 => .object "GingerRents$Rows"
  | 3 => .object "GingerRents$Rows"
  | 4 => .object "GingerRents$Rows"
  | 5 => .object "GingerRents$Rows"
  | 6 => .object "GingerRents$Rows"
  | 7 => .object "GingerRents$Rows"
  | 8 => .object "GingerRents$Rows"
  | 9 => .object "GingerRents$Rows"
  | 10 => .object "GingerRents$Rows"
  | 11 => .object "GingerRents$Rows"
  | 12 => .object "GingerRents$Rows"
  | _ => .object "GingerRents$Rows"
theorem ty_ok_11 : ∀ k, k < 14 → parseFieldDescriptor (tT_11 k).2.2.1 = some (ty_11 k) := fun k hk => match k, hk with
  | 0, _ => fd_12
  | 1, _ => fd_12
  | 2, _ => fd_12
  | 3, _ => fd_12
  | 4, _ => fd_12
  | 5, _ => fd_12
  | 6, _ => fd_12
  | 7, _ => fd_12
  | 8, _ => fd_12
  | 9, _ => fd_12
  | 10, _ => fd_12
  | 11, _ => fd_12
  | 12, _ => fd_12
  | 13, _ => fd_12
  | k + 14, h => absurd h (by omega)
theorem nm_lo_11 : ∀ a, a < 14 → ∀ b, b < a → (tT_11 a).2.1 ≠ (tT_11 b).2.1 := by decide +kernel
theorem nm_ok_11 : ∀ a, a < 14 → ∀ b, b < 14 → a ≠ b → (tT_11 a).2.1 ≠ (tT_11 b).2.1 := fun a ha b hb n => (Nat.lt_or_gt_of_ne n).elim (fun l e => nm_lo_11 b hb a l e.symm) (fun l => nm_lo_11 a ha b l)
set_option maxRecDepth 20000 in
theorem ws_ok_11 : ∀ w ∈ u_ws "GingerRents$Told" tT_11 14, w ∈ lw_tbl := wo_ix [(1, 145), (1, 147), (1, 149), (1, 151), (1, 153), (1, 155), (1, 157), (1, 159), (1, 161), (1, 163), (1, 165), (1, 167), (1, 169), (1, 171)] (by decide +kernel)
def tT_12 : u_T := fun k => match k with
  | 0 => ("GingerRentsModel", "told", "I", false)
  | 1 => ("GingerRentsModel", "now", "[I", true)
  | 2 => ("GingerRentsModel", "rows", "[I", true)
  | 3 => ("GingerRentsModel", "undoable", "I", false)
  | 4 => ("GingerRentsModel", "waiting", "[I", true)
  | 5 => ("GingerRentsModel", "isThought", "Z", false)
  | 6 => ("GingerRentsModel", "houses", "I", false)
  | 7 => ("GingerRentsModel", "almonds", "[I", true)
  | 8 => ("GingerRentsModel", "teeth", "[I", true)
  | 9 => ("GingerRentsModel", "book", "[I", true)
  | 10 => ("GingerRentsModel", "tape", "[I", true)
  | 11 => ("GingerRentsModel", "taped", "I", false)
  | 12 => ("GingerRentsModel", "spot", "I", false)
  | 13 => ("GingerRentsModel", "from", "I", false)
  | 14 => ("GingerRentsModel", "token", "I", false)
  | 15 => ("GingerRentsModel", "value", "I", false)
  | 16 => ("GingerRentsModel", "words", "[I", true)
  | 17 => ("GingerRentsModel", "lineMany", "[I", true)
  | 18 => ("GingerRentsModel", "lineWord", "[I", true)
  | 19 => ("GingerRentsModel", "lineFrom", "[I", true)
  | 20 => ("GingerRentsModel", "lineWhen", "[I", true)
  | 21 => ("GingerRentsModel", "lineTo", "[I", true)
  | 22 => ("GingerRentsModel", "op", "[I", true)
  | 23 => ("GingerRentsModel", "arg", "[I", true)
  | 24 => ("GingerRentsModel", "which", "I", false)
  | 25 => ("GingerRentsModel", "codes", "I", false)
  | 26 => ("GingerRentsModel", "open", "I", false)
  | 27 => ("GingerRentsModel", "pending", "[I", true)
  | 28 => ("GingerRentsModel", "pendings", "I", false)
  | 29 => ("GingerRentsModel", "readFault", "I", false)
  | 30 => ("GingerRentsModel", "readPlace", "I", false)
  | 31 => ("GingerRentsModel", "faultKind", "I", false)
  | 32 => ("GingerRentsModel", "faultPlace", "I", false)
  | 33 => ("GingerRentsModel", "skyMany", "I", false)
  | 34 => ("GingerRentsModel", "skies", "[I", true)
  | 35 => ("GingerRentsModel", "deedMany", "I", false)
  | 36 => ("GingerRentsModel", "deeds", "[I", true)
  | 37 => ("GingerRentsModel", "nextMany", "I", false)
  | 38 => ("GingerRentsModel", "nextTo", "[I", true)
  | 39 => ("GingerRentsModel", "asked", "[I", true)
  | 40 => ("GingerRentsModel", "stack", "[I", true)
  | 41 => ("GingerRentsModel", "costTo", "[I", true)
  | 42 => ("GingerRentsModel", "pieceMany", "I", false)
  | 43 => ("GingerRentsModel", "pieces", "[I", true)
  | 44 => ("GingerRentsModel", "shareFrom", "[I", true)
  | 45 => ("GingerRentsModel", "doughMany", "I", false)
  | 46 => ("GingerRentsModel", "doughs", "[I", true)
  | 47 => ("GingerRentsModel", "panned", "[I", true)
  | 48 => ("GingerRentsModel", "panRoom", "[I", true)
  | 49 => ("GingerRentsModel", "markMany", "I", false)
  | 50 => ("GingerRentsModel", "marks", "[I", true)
  | 51 => ("GingerRentsModel", "biteMany", "I", false)
  | 52 => ("GingerRentsModel", "biteTeeth", "[I", true)
  | 53 => ("GingerRentsModel", "biteWide", "[I", true)
  | 54 => ("GingerRentsModel", "crumbMany", "I", false)
  | 55 => ("GingerRentsModel", "ways", "[I", true)
  | 56 => ("GingerRentsModel", "stood", "[I", true)
  | 57 => ("GingerRentsModel", "loafMany", "I", false)
  | 58 => ("GingerRentsModel", "loafBakes", "[I", true)
  | 59 => ("GingerRentsModel", "loafCools", "[I", true)
  | 60 => ("GingerRentsModel", "order", "[I", true)
  | 61 => ("GingerRentsModel", "bestOrder", "[I", true)
  | 62 => ("GingerRentsModel", "heirMany", "I", false)
  | 63 => ("GingerRentsModel", "hasOfUp", "[I", true)
  | 64 => ("GingerRentsModel", "paned", "[I", true)
  | 65 => ("GingerRentsModel", "panedThree", "[I", true)
  | 66 => ("GingerRentsModel", "memberMany", "I", false)
  | 67 => ("GingerRentsModel", "memberWants", "[I", true)
  | 68 => ("GingerRentsModel", "memberWeight", "[I", true)
  | 69 => ("GingerRentsModel", "doesWin", "[I", true)
  | 70 => ("GingerRentsModel", "slab", "[I", true)
  | 71 => ("GingerRentsModel", "isTaking", "Z", false)
  | 72 => ("GingerRentsModel", "hasImage", "Z", false)
  | 73 => ("GingerRentsModel", "keptAt", "I", false)
  | _ => ("GingerRentsModel", "images", "[I", true)
def ty_12 : Nat → FieldType := fun k => match k with
  | 0 => .int
  | 1 => .array .int
  | 2 => .array .int
  | 3 => .int
  | 4 => .array .int
  | 5 => .boolean
  | 6 => .int
  | 7 => .array .int
  | 8 => .array .int
  | 9 => .array .int
  | 10 => .array .int
  | 11 => .int
  | 12 => .int
  | 13 => .int
  | 14 => .int
  | 15 => .int
  | 16 => .array .int
  | 17 => .array .int
  | 18 => .array .int
  | 19 => .array .int
  | 20 => .array .int
  | 21 => .array .int
  | 22 => .array .int
  | 23 => .array .int
  | 24 => .int
  | 25 => .int
  | 26 => .int
  | 27 => .array .int
  | 28 => .int
  | 29 => .int
  | 30 => .int
  | 31 => .int
  | 32 => .int
  | 33 => .int
  | 34 => .array .int
  | 35 => .int
  | 36 => .array .int
  | 37 => .int
  | 38 => .array .int
  | 39 => .array .int
  | 40 => .array .int
  | 41 => .array .int
  | 42 => .int
  | 43 => .array .int
  | 44 => .array .int
  | 45 => .int
  | 46 => .array .int
  | 47 => .array .int
  | 48 => .array .int
  | 49 => .int
  | 50 => .array .int
  | 51 => .int
  | 52 => .array .int
  | 53 => .array .int
  | 54 => .int
  | 55 => .array .int
  | 56 => .array .int
  | 57 => .int
  | 58 => .array .int
  | 59 => .array .int
  | 60 => .array .int
  | 61 => .array .int
  | 62 => .int
  | 63 => .array .int
  | 64 => .array .int
  | 65 => .array .int
  | 66 => .int
  | 67 => .array .int
  | 68 => .array .int
  | 69 => .array .int
  | 70 => .array .int
  | 71 => .boolean
  | 72 => .boolean
  | 73 => .int
  | _ => .array .int
theorem ty_ok_12 : ∀ k, k < 75 → parseFieldDescriptor (tT_12 k).2.2.1 = some (ty_12 k) := fun k hk => match k, hk with
  | 0, _ => fd_11
  | 1, _ => fd_10
  | 2, _ => fd_10
  | 3, _ => fd_11
  | 4, _ => fd_10
  | 5, _ => fd_9
  | 6, _ => fd_11
  | 7, _ => fd_10
  | 8, _ => fd_10
  | 9, _ => fd_10
  | 10, _ => fd_10
  | 11, _ => fd_11
  | 12, _ => fd_11
  | 13, _ => fd_11
  | 14, _ => fd_11
  | 15, _ => fd_11
  | 16, _ => fd_10
  | 17, _ => fd_10
  | 18, _ => fd_10
  | 19, _ => fd_10
  | 20, _ => fd_10
  | 21, _ => fd_10
  | 22, _ => fd_10
  | 23, _ => fd_10
  | 24, _ => fd_11
  | 25, _ => fd_11
  | 26, _ => fd_11
  | 27, _ => fd_10
  | 28, _ => fd_11
  | 29, _ => fd_11
  | 30, _ => fd_11
  | 31, _ => fd_11
  | 32, _ => fd_11
  | 33, _ => fd_11
  | 34, _ => fd_10
  | 35, _ => fd_11
  | 36, _ => fd_10
  | 37, _ => fd_11
  | 38, _ => fd_10
  | 39, _ => fd_10
  | 40, _ => fd_10
  | 41, _ => fd_10
  | 42, _ => fd_11
  | 43, _ => fd_10
  | 44, _ => fd_10
  | 45, _ => fd_11
  | 46, _ => fd_10
  | 47, _ => fd_10
  | 48, _ => fd_10
  | 49, _ => fd_11
  | 50, _ => fd_10
  | 51, _ => fd_11
  | 52, _ => fd_10
  | 53, _ => fd_10
  | 54, _ => fd_11
  | 55, _ => fd_10
  | 56, _ => fd_10
  | 57, _ => fd_11
  | 58, _ => fd_10
  | 59, _ => fd_10
  | 60, _ => fd_10
  | 61, _ => fd_10
  | 62, _ => fd_11
  | 63, _ => fd_10
  | 64, _ => fd_10
  | 65, _ => fd_10
  | 66, _ => fd_11
  | 67, _ => fd_10
  | 68, _ => fd_10
  | 69, _ => fd_10
  | 70, _ => fd_10
  | 71, _ => fd_9
  | 72, _ => fd_9
  | 73, _ => fd_11
  | 74, _ => fd_10
  | k + 75, h => absurd h (by omega)
theorem nm_lo_12 : ∀ a, a < 75 → ∀ b, b < a → (tT_12 a).2.1 ≠ (tT_12 b).2.1 := by decide +kernel
theorem nm_ok_12 : ∀ a, a < 75 → ∀ b, b < 75 → a ≠ b → (tT_12 a).2.1 ≠ (tT_12 b).2.1 := fun a ha b hb n => (Nat.lt_or_gt_of_ne n).elim (fun l e => nm_lo_12 b hb a l e.symm) (fun l => nm_lo_12 a ha b l)
set_option maxRecDepth 20000 in
theorem ws_ok_12 : ∀ w ∈ u_ws "GingerRentsModel" tT_12 75, w ∈ lw_tbl := wo_ix [(6, 72), (6, 74), (6, 76), (6, 78), (6, 80), (6, 82), (6, 84), (6, 86), (6, 88), (6, 90), (6, 92), (6, 94), (6, 96), (6, 98), (6, 100), (6, 102), (6, 104), (6, 106), (6, 108), (6, 110), (6, 112), (6, 114), (6, 116), (6, 118), (6, 120), (6, 122), (6, 124), (6, 126), (6, 128), (6, 130), (6, 132), (6, 134), (6, 136), (6, 138), (6, 140), (6, 142), (6, 144), (6, 146), (6, 148), (6, 150), (6, 152), (6, 154), (6, 156), (6, 158), (6, 160), (6, 162), (6, 164), (6, 166), (6, 168), (6, 170), (6, 172), (6, 174), (6, 176), (6, 178), (6, 180), (6, 182), (6, 184), (6, 186), (6, 188), (6, 190), (6, 192), (6, 194), (6, 196), (6, 198), (6, 200), (6, 202), (6, 204), (6, 206), (6, 208), (6, 210), (6, 212), (6, 214), (6, 216), (6, 218), (6, 220)] (by decide +kernel)
def clsL : List vw_C := [("GingerRents", tT_0, 14), ("GingerRents$Borough", tT_1, 8), ("GingerRents$Kitchen", tT_2, 3), ("GingerRents$Law", tT_3, 5), ("GingerRents$Past", tT_4, 4), ("GingerRents$Reader", tT_5, 10), ("GingerRents$Rows", tT_6, 4), ("GingerRents$Season", tT_7, 4), ("GingerRents$Slab", tT_8, 2), ("GingerRents$Street", tT_9, 2), ("GingerRents$Tape", tT_10, 6), ("GingerRents$Told", tT_11, 14), ("GingerRentsModel", tT_12, 75)]
/-- a cell: number of its class and of its fields; 20: ints, 21: bytes, 22: boroughs, and how many -/
def shL : List (Nat × Nat) := [(0, 14), (1, 8), (20, 132), (1, 8), (20, 132), (11, 14), (6, 4), (20, 80), (6, 4), (20, 800), (6, 4), (20, 80), (6, 4), (20, 80), (6, 4), (20, 80), (6, 4), (20, 600), (6, 4), (20, 9), (6, 4), (20, 8), (6, 4), (20, 5), (6, 4), (20, 16), (6, 4), (20, 16), (6, 4), (20, 12), (6, 4), (20, 24), (6, 4), (20, 16), (3, 5), (20, 12), (20, 64), (1, 8), (20, 132), (11, 14), (6, 4), (20, 80), (6, 4), (20, 800), (6, 4), (20, 80), (6, 4), (20, 80), (6, 4), (20, 80), (6, 4), (20, 600), (6, 4), (20, 9), (6, 4), (20, 8), (6, 4), (20, 5), (6, 4), (20, 16), (6, 4), (20, 16), (6, 4), (20, 12), (6, 4), (20, 24), (6, 4), (20, 16), (7, 4), (7, 4), (4, 4), (22, 6), (20, 6), (1, 8), (20, 132), (1, 8), (20, 132), (1, 8), (20, 132), (1, 8), (20, 132), (1, 8), (20, 132), (1, 8), (20, 132), (10, 6), (21, 400), (20, 401), (20, 401), (20, 401), (5, 10), (6, 4), (20, 80), (6, 4), (20, 800), (9, 2), (20, 12), (20, 12), (2, 3), (20, 8), (20, 17), (20, 17), (8, 2), (20, 1024), (12, 75), (20, 115), (20, 690), (20, 115), (20, 12), (20, 12), (20, 600), (20, 400), (20, 141), (20, 2), (20, 48), (20, 48), (20, 48), (20, 48), (20, 1200), (20, 1200), (20, 40), (20, 96), (20, 160), (20, 24), (20, 12), (20, 420), (20, 12), (20, 9), (20, 100), (20, 8), (20, 256), (20, 8), (20, 5), (20, 8), (20, 8), (20, 16), (20, 1681), (20, 6), (20, 6), (20, 6), (20, 6), (20, 12), (20, 21), (20, 21), (20, 8), (20, 8), (20, 16807), (20, 5), (20, 2400)]
/-- the references, slot by slot -/
def rfT : List (List (Option Nat)) := [[some 1, some 37, some 3, some 5, some 39, some 68, some 69, some 70, some 85, some 90, some 95, some 98, some 102, none], [some 2, none, none, none, none, none, none, none], [], [some 4, none, none, none, none, none, none, none], [], [some 6, some 8, some 10, some 12, some 14, some 16, some 18, some 20, some 22, some 24, some 26, some 28, some 30, some 32], [none, none, some 7, none], [], [none, none, some 9, none], [], [none, none, some 11, none], [], [none, none, some 13, none], [], [none, none, some 15, none], [], [none, none, some 17, none], [], [none, none, some 19, none], [], [none, none, some 21, none], [], [none, none, some 23, none], [], [none, none, some 25, none], [], [none, none, some 27, none], [], [none, none, some 29, none], [], [none, none, some 31, none], [], [none, none, some 33, none], [], [some 6, some 8, some 35, some 36, none], [], [], [some 38, none, none, none, none, none, none, none], [], [some 40, some 42, some 44, some 46, some 48, some 50, some 52, some 54, some 56, some 58, some 60, some 62, some 64, some 66], [none, none, some 41, none], [], [none, none, some 43, none], [], [none, none, some 45, none], [], [none, none, some 47, none], [], [none, none, some 49, none], [], [none, none, some 51, none], [], [none, none, some 53, none], [], [none, none, some 55, none], [], [none, none, some 57, none], [], [none, none, some 59, none], [], [none, none, some 61, none], [], [none, none, some 63, none], [], [none, none, some 65, none], [], [none, none, some 67, none], [], [some 1, some 5, some 34, none], [some 3, some 5, some 34, none], [some 71, some 72, none, none], [some 73, some 75, some 77, some 79, some 81, some 83], [], [some 74, none, none, none, none, none, none, none], [], [some 76, none, none, none, none, none, none, none], [], [some 78, none, none, none, none, none, none, none], [], [some 80, none, none, none, none, none, none, none], [], [some 82, none, none, none, none, none, none, none], [], [some 84, none, none, none, none, none, none, none], [], [some 86, some 87, some 88, some 89, none, none], [], [], [], [], [some 91, some 93, none, none, some 85, none, none, none, none, none], [none, none, some 92, none], [], [none, none, some 94, none], [], [some 96, some 97], [], [], [some 99, some 100, some 101], [], [], [], [some 103, none], [], [none, some 105, some 106, none, some 107, none, none, some 108, some 109, some 110, some 111, none, none, none, none, none, some 112, some 113, some 114, some 115, some 116, some 117, some 118, some 119, none, none, none, some 120, none, none, none, none, none, none, some 121, none, some 122, none, some 123, some 124, some 125, some 126, none, some 127, some 128, none, some 129, some 130, some 131, none, some 132, none, some 133, some 134, none, some 135, some 136, none, some 137, some 138, some 139, some 140, none, some 141, some 142, some 143, none, some 144, some 145, some 146, some 147, none, none, none, some 148], [], [], [], [], [], [], [], [], [], [], [], [], [], [], [], [], [], [], [], [], [], [], [], [], [], [], [], [], [], [], [], [], [], [], [], [], [], [], [], [], [], [], [], []]
def rf (a j : Nat) : Option Nat := (rfT.getD a []).getD j none
