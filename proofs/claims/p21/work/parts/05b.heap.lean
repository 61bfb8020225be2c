theorem clK_all : ∀ (ci : Nat) (r : vw_C), clsL[ci]? = some r → ci < 20 ∧ clK r := by
  have h0 := clK_of ws_ok_0 ty_ok_0 nm_ok_0
  have h1 := clK_of ws_ok_1 ty_ok_1 nm_ok_1
  have h2 := clK_of ws_ok_2 ty_ok_2 nm_ok_2
  have h3 := clK_of ws_ok_3 ty_ok_3 nm_ok_3
  have h4 := clK_of ws_ok_4 ty_ok_4 nm_ok_4
  have h5 := clK_of ws_ok_5 ty_ok_5 nm_ok_5
  have h6 := clK_of ws_ok_6 ty_ok_6 nm_ok_6
  have h7 := clK_of ws_ok_7 ty_ok_7 nm_ok_7
  have h8 := clK_of ws_ok_8 ty_ok_8 nm_ok_8
  have h9 := clK_of ws_ok_9 ty_ok_9 nm_ok_9
  have h10 := clK_of ws_ok_10 ty_ok_10 nm_ok_10
  have h11 := clK_of ws_ok_11 ty_ok_11 nm_ok_11
  have h12 := clK_of ws_ok_12 ty_ok_12 nm_ok_12
  intro ci r h
  match ci, h with
  | 0, h => cases h; exact ⟨by decide, h0⟩
  | 1, h => cases h; exact ⟨by decide, h1⟩
  | 2, h => cases h; exact ⟨by decide, h2⟩
  | 3, h => cases h; exact ⟨by decide, h3⟩
  | 4, h => cases h; exact ⟨by decide, h4⟩
  | 5, h => cases h; exact ⟨by decide, h5⟩
  | 6, h => cases h; exact ⟨by decide, h6⟩
  | 7, h => cases h; exact ⟨by decide, h7⟩
  | 8, h => cases h; exact ⟨by decide, h8⟩
  | 9, h => cases h; exact ⟨by decide, h9⟩
  | 10, h => cases h; exact ⟨by decide, h10⟩
  | 11, h => cases h; exact ⟨by decide, h11⟩
  | 12, h => cases h; exact ⟨by decide, h12⟩
  | k + 13, h => simp [clsL] at h
/-- a field's use: from a class's pool, field k of class number ci -/
def fu (own : String) (idx ci k : Nat) : Prop := ∃ (C : String) (T : u_T) (N : Nat), clsL[ci]? = some (C, T, N) ∧ k < N ∧ (T k).1 = C ∧ Cond.fieldLink own idx C (T k).2.1 (T k).2.2.1 ∈ tb
def fty (ci k : Nat) (ty : FieldType) : Prop := ∃ (C : String) (T : u_T) (N : Nat), clsL[ci]? = some (C, T, N) ∧ (T k).2.2.2 = false ∧ parseFieldDescriptor (T k).2.2.1 = some ty
def nb (x : Int32) : Int32 := x &&& 1
