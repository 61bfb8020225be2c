/-! THE FIRST HEAP keeps all ranges. Printed by wip/gen/pfirst.py -/
def Zr (f : Nat → Int × Int) : Prop := ∀ j, (f j).1 ≤ 0 ∧ 0 ≤ (f j).2
theorem rf0 : rF.1 ≤ 0 ∧ 0 ≤ rF.2 := ⟨by decide, by decide⟩
theorem zr_F : Zr spF := fun _ => rf0
theorem zr_B : Zr spB := fun j => by unfold spB; split <;> exact ⟨by decide, by decide⟩
theorem zr_A {a b : Int} (h : a ≤ 0 ∧ 0 ≤ b) : Zr (spA a b) := fun _ => h
theorem zr_C : Zr spC := fun j => by unfold spC; split <;> exact ⟨by decide, by decide⟩
theorem zr_D : Zr spD := fun j => by
  unfold spD
  split
  · exact ⟨by decide, by decide⟩
  · split <;> exact ⟨by decide, by decide⟩
theorem zr_W : Zr spW := fun j => by unfold spW; split <;> exact ⟨by decide, by decide⟩
theorem zr_L : ∀ (l : List (Nat × Int × Int)), (∀ q ∈ l, q.2.1 ≤ 0 ∧ 0 ≤ q.2.2) → Zr (spL l)
  | [], _ => fun _ => rf0
  | (k, a, b) :: l, h => fun j => by
    unfold spL
    split
    · exact h (k, a, b) List.mem_cons_self
    · exact zr_L l (fun q hq => h q (List.mem_cons_of_mem _ hq)) j
theorem zr_I : Zr spI := fun p => by
  unfold spI
  split
  · exact ⟨by decide, by decide⟩
  · split
    · rename_i q
      have key : ∀ k, k < 12 → (([((0 : Int), (12 : Int)), (0, 16), (0, 16), (0, 16), (0, 9), (0, 8), (0, 5), (0, 8), (0, 16), (0, 6), (0, 12), (0, 8)].getD k rF).1 ≤ 0 ∧ 0 ≤ ([((0 : Int), (12 : Int)), (0, 16), (0, 16), (0, 16), (0, 9), (0, 8), (0, 5), (0, 8), (0, 16), (0, 6), (0, 12), (0, 8)].getD k rF).2) := by decide
      exact key (p - 115) (by omega)
    · split
      · exact ⟨by decide, by decide⟩
      · split
        · exact zr_D _
        · split <;> exact ⟨by decide, by decide⟩
theorem zr_z0 {f : Nat → Int × Int} (h : Zr f) (j : Nat) : R (f j).1 (f j).2 (z0 j) := h j
theorem lz_big (l : List Int32) (j : Nat) (h : l.length ≤ j) : lz l j = 0 := by
  unfold lz
  rw [List.getD_eq_getElem?_getD, List.getElem?_eq_none h]
  rfl
theorem zr_lz {f : Nat → Int × Int} (l : List Int32) (n : Nat) (hn : l.length = n) (hz : ∀ j, n ≤ j → (f j).1 ≤ 0 ∧ 0 ≤ (f j).2) (hd : ∀ j, j < n → (f j).1 ≤ (lz l j).toInt ∧ (lz l j).toInt ≤ (f j).2) (j : Nat) : R (f j).1 (f j).2 (lz l j) := by
  by_cases h : j < n
  · exact hd j h
  · rw [lz_big l j (by omega)]
    exact hz j (by omega)
theorem iv_0 (j : Nat) : R (sp 0 j).1 (sp 0 j).2 (hI 0 j) := zr_lz (f := spL [(13, 0, 1)]) [0, 0, 0, 0, 0, 0, 0, 0, 0, 0, 0, 0, 0, 0] 14 rfl (fun j _ => (zr_L _ (by decide)) j) (by decide) j
theorem iv_1 (j : Nat) : R (sp 1 j).1 (sp 1 j).2 (hI 1 j) := zr_lz (f := spB) [0, 0, 0, 0, 0, 0, 0, 0] 8 rfl (fun j _ => zr_B j) (by decide) j
theorem iv_2 (j : Nat) : R (sp 2 j).1 (sp 2 j).2 (hI 2 j) := r_full _
theorem iv_3 (j : Nat) : R (sp 3 j).1 (sp 3 j).2 (hI 3 j) := zr_lz (f := spB) [0, 0, 0, 0, 0, 0, 0, 0] 8 rfl (fun j _ => zr_B j) (by decide) j
theorem iv_4 (j : Nat) : R (sp 4 j).1 (sp 4 j).2 (hI 4 j) := r_full _
theorem iv_5 (j : Nat) : R (sp 5 j).1 (sp 5 j).2 (hI 5 j) := r_full _
theorem rzz_6 : ∀ j, 4 ≤ j → (spR 16 5 j).1 ≤ 0 ∧ 0 ≤ (spR 16 5 j).2 := fun j hj => by
  unfold spR
  rw [if_neg (by omega), if_neg (by omega), if_neg (by omega)]
  exact ⟨by decide, by decide⟩
theorem iv_6 (j : Nat) : R (sp 6 j).1 (sp 6 j).2 (hI 6 j) := zr_lz (f := spR 16 5) [16, 5, 0, 0] 4 rfl rzz_6 (by decide) j
theorem iv_7 (j : Nat) : R (sp 7 j).1 (sp 7 j).2 (hI 7 j) := zr_z0 (f := spC) (zr_C) j
theorem rzz_8 : ∀ j, 4 ≤ j → (spR 400 2 j).1 ≤ 0 ∧ 0 ≤ (spR 400 2 j).2 := fun j hj => by
  unfold spR
  rw [if_neg (by omega), if_neg (by omega), if_neg (by omega)]
  exact ⟨by decide, by decide⟩
theorem iv_8 (j : Nat) : R (sp 8 j).1 (sp 8 j).2 (hI 8 j) := zr_lz (f := spR 400 2) [400, 2, 0, 0] 4 rfl rzz_8 (by decide) j
theorem iv_9 (j : Nat) : R (sp 9 j).1 (sp 9 j).2 (hI 9 j) := r_full _
theorem rzz_10 : ∀ j, 4 ≤ j → (spR 16 5 j).1 ≤ 0 ∧ 0 ≤ (spR 16 5 j).2 := fun j hj => by
  unfold spR
  rw [if_neg (by omega), if_neg (by omega), if_neg (by omega)]
  exact ⟨by decide, by decide⟩
theorem iv_10 (j : Nat) : R (sp 10 j).1 (sp 10 j).2 (hI 10 j) := zr_lz (f := spR 16 5) [16, 5, 0, 0] 4 rfl rzz_10 (by decide) j
theorem iv_11 (j : Nat) : R (sp 11 j).1 (sp 11 j).2 (hI 11 j) := zr_z0 (f := spC) (zr_C) j
theorem rzz_12 : ∀ j, 4 ≤ j → (spR 16 5 j).1 ≤ 0 ∧ 0 ≤ (spR 16 5 j).2 := fun j hj => by
  unfold spR
  rw [if_neg (by omega), if_neg (by omega), if_neg (by omega)]
  exact ⟨by decide, by decide⟩
theorem iv_12 (j : Nat) : R (sp 12 j).1 (sp 12 j).2 (hI 12 j) := zr_lz (f := spR 16 5) [16, 5, 0, 0] 4 rfl rzz_12 (by decide) j
theorem iv_13 (j : Nat) : R (sp 13 j).1 (sp 13 j).2 (hI 13 j) := zr_z0 (f := spC) (zr_C) j
theorem rzz_14 : ∀ j, 4 ≤ j → (spR 16 5 j).1 ≤ 0 ∧ 0 ≤ (spR 16 5 j).2 := fun j hj => by
  unfold spR
  rw [if_neg (by omega), if_neg (by omega), if_neg (by omega)]
  exact ⟨by decide, by decide⟩
theorem iv_14 (j : Nat) : R (sp 14 j).1 (sp 14 j).2 (hI 14 j) := zr_lz (f := spR 16 5) [16, 5, 0, 0] 4 rfl rzz_14 (by decide) j
theorem iv_15 (j : Nat) : R (sp 15 j).1 (sp 15 j).2 (hI 15 j) := zr_z0 (f := spC) (zr_C) j
theorem rzz_16 : ∀ j, 4 ≤ j → (spR 150 4 j).1 ≤ 0 ∧ 0 ≤ (spR 150 4 j).2 := fun j hj => by
  unfold spR
  rw [if_neg (by omega), if_neg (by omega), if_neg (by omega)]
  exact ⟨by decide, by decide⟩
theorem iv_16 (j : Nat) : R (sp 16 j).1 (sp 16 j).2 (hI 16 j) := zr_lz (f := spR 150 4) [150, 4, 0, 0] 4 rfl rzz_16 (by decide) j
theorem iv_17 (j : Nat) : R (sp 17 j).1 (sp 17 j).2 (hI 17 j) := r_full _
theorem rzz_18 : ∀ j, 4 ≤ j → (spR 9 1 j).1 ≤ 0 ∧ 0 ≤ (spR 9 1 j).2 := fun j hj => by
  unfold spR
  rw [if_neg (by omega), if_neg (by omega), if_neg (by omega)]
  exact ⟨by decide, by decide⟩
theorem iv_18 (j : Nat) : R (sp 18 j).1 (sp 18 j).2 (hI 18 j) := zr_lz (f := spR 9 1) [9, 1, 0, 0] 4 rfl rzz_18 (by decide) j
theorem iv_19 (j : Nat) : R (sp 19 j).1 (sp 19 j).2 (hI 19 j) := r_full _
theorem rzz_20 : ∀ j, 4 ≤ j → (spR 8 1 j).1 ≤ 0 ∧ 0 ≤ (spR 8 1 j).2 := fun j hj => by
  unfold spR
  rw [if_neg (by omega), if_neg (by omega), if_neg (by omega)]
  exact ⟨by decide, by decide⟩
theorem iv_20 (j : Nat) : R (sp 20 j).1 (sp 20 j).2 (hI 20 j) := zr_lz (f := spR 8 1) [8, 1, 0, 0] 4 rfl rzz_20 (by decide) j
theorem iv_21 (j : Nat) : R (sp 21 j).1 (sp 21 j).2 (hI 21 j) := r_full _
theorem rzz_22 : ∀ j, 4 ≤ j → (spR 5 1 j).1 ≤ 0 ∧ 0 ≤ (spR 5 1 j).2 := fun j hj => by
  unfold spR
  rw [if_neg (by omega), if_neg (by omega), if_neg (by omega)]
  exact ⟨by decide, by decide⟩
theorem iv_22 (j : Nat) : R (sp 22 j).1 (sp 22 j).2 (hI 22 j) := zr_lz (f := spR 5 1) [5, 1, 0, 0] 4 rfl rzz_22 (by decide) j
theorem iv_23 (j : Nat) : R (sp 23 j).1 (sp 23 j).2 (hI 23 j) := r_full _
theorem rzz_24 : ∀ j, 4 ≤ j → (spR 8 2 j).1 ≤ 0 ∧ 0 ≤ (spR 8 2 j).2 := fun j hj => by
  unfold spR
  rw [if_neg (by omega), if_neg (by omega), if_neg (by omega)]
  exact ⟨by decide, by decide⟩
theorem iv_24 (j : Nat) : R (sp 24 j).1 (sp 24 j).2 (hI 24 j) := zr_lz (f := spR 8 2) [8, 2, 0, 0] 4 rfl rzz_24 (by decide) j
theorem iv_25 (j : Nat) : R (sp 25 j).1 (sp 25 j).2 (hI 25 j) := r_full _
theorem rzz_26 : ∀ j, 4 ≤ j → (spR 16 1 j).1 ≤ 0 ∧ 0 ≤ (spR 16 1 j).2 := fun j hj => by
  unfold spR
  rw [if_neg (by omega), if_neg (by omega), if_neg (by omega)]
  exact ⟨by decide, by decide⟩
theorem iv_26 (j : Nat) : R (sp 26 j).1 (sp 26 j).2 (hI 26 j) := zr_lz (f := spR 16 1) [16, 1, 0, 0] 4 rfl rzz_26 (by decide) j
theorem iv_27 (j : Nat) : R (sp 27 j).1 (sp 27 j).2 (hI 27 j) := r_full _
theorem rzz_28 : ∀ j, 4 ≤ j → (spR 6 2 j).1 ≤ 0 ∧ 0 ≤ (spR 6 2 j).2 := fun j hj => by
  unfold spR
  rw [if_neg (by omega), if_neg (by omega), if_neg (by omega)]
  exact ⟨by decide, by decide⟩
theorem iv_28 (j : Nat) : R (sp 28 j).1 (sp 28 j).2 (hI 28 j) := zr_lz (f := spR 6 2) [6, 2, 0, 0] 4 rfl rzz_28 (by decide) j
theorem iv_29 (j : Nat) : R (sp 29 j).1 (sp 29 j).2 (hI 29 j) := r_full _
theorem rzz_30 : ∀ j, 4 ≤ j → (spR 12 2 j).1 ≤ 0 ∧ 0 ≤ (spR 12 2 j).2 := fun j hj => by
  unfold spR
  rw [if_neg (by omega), if_neg (by omega), if_neg (by omega)]
  exact ⟨by decide, by decide⟩
theorem iv_30 (j : Nat) : R (sp 30 j).1 (sp 30 j).2 (hI 30 j) := zr_lz (f := spR 12 2) [12, 2, 0, 0] 4 rfl rzz_30 (by decide) j
theorem iv_31 (j : Nat) : R (sp 31 j).1 (sp 31 j).2 (hI 31 j) := r_full _
theorem rzz_32 : ∀ j, 4 ≤ j → (spR 8 2 j).1 ≤ 0 ∧ 0 ≤ (spR 8 2 j).2 := fun j hj => by
  unfold spR
  rw [if_neg (by omega), if_neg (by omega), if_neg (by omega)]
  exact ⟨by decide, by decide⟩
theorem iv_32 (j : Nat) : R (sp 32 j).1 (sp 32 j).2 (hI 32 j) := zr_lz (f := spR 8 2) [8, 2, 0, 0] 4 rfl rzz_32 (by decide) j
theorem iv_33 (j : Nat) : R (sp 33 j).1 (sp 33 j).2 (hI 33 j) := r_full _
theorem iv_34 (j : Nat) : R (sp 34 j).1 (sp 34 j).2 (hI 34 j) := zr_lz (f := spL [(4, 0, 64)]) [0, 0, 0, 0, 0] 5 rfl (fun j _ => (zr_L _ (by decide)) j) (by decide) j
theorem iv_35 (j : Nat) : R (sp 35 j).1 (sp 35 j).2 (hI 35 j) := r_full _
theorem iv_36 (j : Nat) : R (sp 36 j).1 (sp 36 j).2 (hI 36 j) := r_full _
theorem iv_37 (j : Nat) : R (sp 37 j).1 (sp 37 j).2 (hI 37 j) := zr_lz (f := spB) [0, 0, 0, 0, 0, 0, 0, 0] 8 rfl (fun j _ => zr_B j) (by decide) j
theorem iv_38 (j : Nat) : R (sp 38 j).1 (sp 38 j).2 (hI 38 j) := r_full _
theorem iv_39 (j : Nat) : R (sp 39 j).1 (sp 39 j).2 (hI 39 j) := r_full _
theorem rzz_40 : ∀ j, 4 ≤ j → (spR 16 5 j).1 ≤ 0 ∧ 0 ≤ (spR 16 5 j).2 := fun j hj => by
  unfold spR
  rw [if_neg (by omega), if_neg (by omega), if_neg (by omega)]
  exact ⟨by decide, by decide⟩
theorem iv_40 (j : Nat) : R (sp 40 j).1 (sp 40 j).2 (hI 40 j) := zr_lz (f := spR 16 5) [16, 5, 0, 0] 4 rfl rzz_40 (by decide) j
theorem iv_41 (j : Nat) : R (sp 41 j).1 (sp 41 j).2 (hI 41 j) := zr_z0 (f := spC) (zr_C) j
theorem rzz_42 : ∀ j, 4 ≤ j → (spR 400 2 j).1 ≤ 0 ∧ 0 ≤ (spR 400 2 j).2 := fun j hj => by
  unfold spR
  rw [if_neg (by omega), if_neg (by omega), if_neg (by omega)]
  exact ⟨by decide, by decide⟩
theorem iv_42 (j : Nat) : R (sp 42 j).1 (sp 42 j).2 (hI 42 j) := zr_lz (f := spR 400 2) [400, 2, 0, 0] 4 rfl rzz_42 (by decide) j
theorem iv_43 (j : Nat) : R (sp 43 j).1 (sp 43 j).2 (hI 43 j) := r_full _
theorem rzz_44 : ∀ j, 4 ≤ j → (spR 16 5 j).1 ≤ 0 ∧ 0 ≤ (spR 16 5 j).2 := fun j hj => by
  unfold spR
  rw [if_neg (by omega), if_neg (by omega), if_neg (by omega)]
  exact ⟨by decide, by decide⟩
theorem iv_44 (j : Nat) : R (sp 44 j).1 (sp 44 j).2 (hI 44 j) := zr_lz (f := spR 16 5) [16, 5, 0, 0] 4 rfl rzz_44 (by decide) j
theorem iv_45 (j : Nat) : R (sp 45 j).1 (sp 45 j).2 (hI 45 j) := zr_z0 (f := spC) (zr_C) j
theorem rzz_46 : ∀ j, 4 ≤ j → (spR 16 5 j).1 ≤ 0 ∧ 0 ≤ (spR 16 5 j).2 := fun j hj => by
  unfold spR
  rw [if_neg (by omega), if_neg (by omega), if_neg (by omega)]
  exact ⟨by decide, by decide⟩
theorem iv_46 (j : Nat) : R (sp 46 j).1 (sp 46 j).2 (hI 46 j) := zr_lz (f := spR 16 5) [16, 5, 0, 0] 4 rfl rzz_46 (by decide) j
theorem iv_47 (j : Nat) : R (sp 47 j).1 (sp 47 j).2 (hI 47 j) := zr_z0 (f := spC) (zr_C) j
theorem rzz_48 : ∀ j, 4 ≤ j → (spR 16 5 j).1 ≤ 0 ∧ 0 ≤ (spR 16 5 j).2 := fun j hj => by
  unfold spR
  rw [if_neg (by omega), if_neg (by omega), if_neg (by omega)]
  exact ⟨by decide, by decide⟩
theorem iv_48 (j : Nat) : R (sp 48 j).1 (sp 48 j).2 (hI 48 j) := zr_lz (f := spR 16 5) [16, 5, 0, 0] 4 rfl rzz_48 (by decide) j
theorem iv_49 (j : Nat) : R (sp 49 j).1 (sp 49 j).2 (hI 49 j) := zr_z0 (f := spC) (zr_C) j
theorem rzz_50 : ∀ j, 4 ≤ j → (spR 150 4 j).1 ≤ 0 ∧ 0 ≤ (spR 150 4 j).2 := fun j hj => by
  unfold spR
  rw [if_neg (by omega), if_neg (by omega), if_neg (by omega)]
  exact ⟨by decide, by decide⟩
theorem iv_50 (j : Nat) : R (sp 50 j).1 (sp 50 j).2 (hI 50 j) := zr_lz (f := spR 150 4) [150, 4, 0, 0] 4 rfl rzz_50 (by decide) j
theorem iv_51 (j : Nat) : R (sp 51 j).1 (sp 51 j).2 (hI 51 j) := r_full _
theorem rzz_52 : ∀ j, 4 ≤ j → (spR 9 1 j).1 ≤ 0 ∧ 0 ≤ (spR 9 1 j).2 := fun j hj => by
  unfold spR
  rw [if_neg (by omega), if_neg (by omega), if_neg (by omega)]
  exact ⟨by decide, by decide⟩
theorem iv_52 (j : Nat) : R (sp 52 j).1 (sp 52 j).2 (hI 52 j) := zr_lz (f := spR 9 1) [9, 1, 0, 0] 4 rfl rzz_52 (by decide) j
theorem iv_53 (j : Nat) : R (sp 53 j).1 (sp 53 j).2 (hI 53 j) := r_full _
theorem rzz_54 : ∀ j, 4 ≤ j → (spR 8 1 j).1 ≤ 0 ∧ 0 ≤ (spR 8 1 j).2 := fun j hj => by
  unfold spR
  rw [if_neg (by omega), if_neg (by omega), if_neg (by omega)]
  exact ⟨by decide, by decide⟩
theorem iv_54 (j : Nat) : R (sp 54 j).1 (sp 54 j).2 (hI 54 j) := zr_lz (f := spR 8 1) [8, 1, 0, 0] 4 rfl rzz_54 (by decide) j
theorem iv_55 (j : Nat) : R (sp 55 j).1 (sp 55 j).2 (hI 55 j) := r_full _
theorem rzz_56 : ∀ j, 4 ≤ j → (spR 5 1 j).1 ≤ 0 ∧ 0 ≤ (spR 5 1 j).2 := fun j hj => by
  unfold spR
  rw [if_neg (by omega), if_neg (by omega), if_neg (by omega)]
  exact ⟨by decide, by decide⟩
theorem iv_56 (j : Nat) : R (sp 56 j).1 (sp 56 j).2 (hI 56 j) := zr_lz (f := spR 5 1) [5, 1, 0, 0] 4 rfl rzz_56 (by decide) j
theorem iv_57 (j : Nat) : R (sp 57 j).1 (sp 57 j).2 (hI 57 j) := r_full _
theorem rzz_58 : ∀ j, 4 ≤ j → (spR 8 2 j).1 ≤ 0 ∧ 0 ≤ (spR 8 2 j).2 := fun j hj => by
  unfold spR
  rw [if_neg (by omega), if_neg (by omega), if_neg (by omega)]
  exact ⟨by decide, by decide⟩
theorem iv_58 (j : Nat) : R (sp 58 j).1 (sp 58 j).2 (hI 58 j) := zr_lz (f := spR 8 2) [8, 2, 0, 0] 4 rfl rzz_58 (by decide) j
theorem iv_59 (j : Nat) : R (sp 59 j).1 (sp 59 j).2 (hI 59 j) := r_full _
theorem rzz_60 : ∀ j, 4 ≤ j → (spR 16 1 j).1 ≤ 0 ∧ 0 ≤ (spR 16 1 j).2 := fun j hj => by
  unfold spR
  rw [if_neg (by omega), if_neg (by omega), if_neg (by omega)]
  exact ⟨by decide, by decide⟩
theorem iv_60 (j : Nat) : R (sp 60 j).1 (sp 60 j).2 (hI 60 j) := zr_lz (f := spR 16 1) [16, 1, 0, 0] 4 rfl rzz_60 (by decide) j
theorem iv_61 (j : Nat) : R (sp 61 j).1 (sp 61 j).2 (hI 61 j) := r_full _
theorem rzz_62 : ∀ j, 4 ≤ j → (spR 6 2 j).1 ≤ 0 ∧ 0 ≤ (spR 6 2 j).2 := fun j hj => by
  unfold spR
  rw [if_neg (by omega), if_neg (by omega), if_neg (by omega)]
  exact ⟨by decide, by decide⟩
theorem iv_62 (j : Nat) : R (sp 62 j).1 (sp 62 j).2 (hI 62 j) := zr_lz (f := spR 6 2) [6, 2, 0, 0] 4 rfl rzz_62 (by decide) j
theorem iv_63 (j : Nat) : R (sp 63 j).1 (sp 63 j).2 (hI 63 j) := r_full _
theorem rzz_64 : ∀ j, 4 ≤ j → (spR 12 2 j).1 ≤ 0 ∧ 0 ≤ (spR 12 2 j).2 := fun j hj => by
  unfold spR
  rw [if_neg (by omega), if_neg (by omega), if_neg (by omega)]
  exact ⟨by decide, by decide⟩
theorem iv_64 (j : Nat) : R (sp 64 j).1 (sp 64 j).2 (hI 64 j) := zr_lz (f := spR 12 2) [12, 2, 0, 0] 4 rfl rzz_64 (by decide) j
theorem iv_65 (j : Nat) : R (sp 65 j).1 (sp 65 j).2 (hI 65 j) := r_full _
theorem rzz_66 : ∀ j, 4 ≤ j → (spR 8 2 j).1 ≤ 0 ∧ 0 ≤ (spR 8 2 j).2 := fun j hj => by
  unfold spR
  rw [if_neg (by omega), if_neg (by omega), if_neg (by omega)]
  exact ⟨by decide, by decide⟩
theorem iv_66 (j : Nat) : R (sp 66 j).1 (sp 66 j).2 (hI 66 j) := zr_lz (f := spR 8 2) [8, 2, 0, 0] 4 rfl rzz_66 (by decide) j
theorem iv_67 (j : Nat) : R (sp 67 j).1 (sp 67 j).2 (hI 67 j) := r_full _
theorem iv_68 (j : Nat) : R (sp 68 j).1 (sp 68 j).2 (hI 68 j) := zr_lz (f := spL [(3, 0, 1)]) [0, 0, 0, 1] 4 rfl (fun j _ => (zr_L _ (by decide)) j) (by decide) j
theorem iv_69 (j : Nat) : R (sp 69 j).1 (sp 69 j).2 (hI 69 j) := zr_lz (f := spL [(3, 0, 1)]) [0, 0, 0, 0] 4 rfl (fun j _ => (zr_L _ (by decide)) j) (by decide) j
theorem iv_70 (j : Nat) : R (sp 70 j).1 (sp 70 j).2 (hI 70 j) := zr_lz (f := spL [(2, 0, 5), (3, 0, 6)]) [0, 0, 0, 0] 4 rfl (fun j _ => (zr_L _ (by decide)) j) (by decide) j
theorem iv_71 (j : Nat) : R (sp 71 j).1 (sp 71 j).2 (hI 71 j) := r_full _
theorem iv_72 (j : Nat) : R (sp 72 j).1 (sp 72 j).2 (hI 72 j) := zr_z0 (f := spA 0 150) (zr_A (by decide)) j
theorem iv_73 (j : Nat) : R (sp 73 j).1 (sp 73 j).2 (hI 73 j) := zr_lz (f := spB) [0, 0, 0, 0, 0, 0, 0, 0] 8 rfl (fun j _ => zr_B j) (by decide) j
theorem iv_74 (j : Nat) : R (sp 74 j).1 (sp 74 j).2 (hI 74 j) := r_full _
theorem iv_75 (j : Nat) : R (sp 75 j).1 (sp 75 j).2 (hI 75 j) := zr_lz (f := spB) [0, 0, 0, 0, 0, 0, 0, 0] 8 rfl (fun j _ => zr_B j) (by decide) j
theorem iv_76 (j : Nat) : R (sp 76 j).1 (sp 76 j).2 (hI 76 j) := r_full _
theorem iv_77 (j : Nat) : R (sp 77 j).1 (sp 77 j).2 (hI 77 j) := zr_lz (f := spB) [0, 0, 0, 0, 0, 0, 0, 0] 8 rfl (fun j _ => zr_B j) (by decide) j
theorem iv_78 (j : Nat) : R (sp 78 j).1 (sp 78 j).2 (hI 78 j) := r_full _
theorem iv_79 (j : Nat) : R (sp 79 j).1 (sp 79 j).2 (hI 79 j) := zr_lz (f := spB) [0, 0, 0, 0, 0, 0, 0, 0] 8 rfl (fun j _ => zr_B j) (by decide) j
theorem iv_80 (j : Nat) : R (sp 80 j).1 (sp 80 j).2 (hI 80 j) := r_full _
theorem iv_81 (j : Nat) : R (sp 81 j).1 (sp 81 j).2 (hI 81 j) := zr_lz (f := spB) [0, 0, 0, 0, 0, 0, 0, 0] 8 rfl (fun j _ => zr_B j) (by decide) j
theorem iv_82 (j : Nat) : R (sp 82 j).1 (sp 82 j).2 (hI 82 j) := r_full _
theorem iv_83 (j : Nat) : R (sp 83 j).1 (sp 83 j).2 (hI 83 j) := zr_lz (f := spB) [0, 0, 0, 0, 0, 0, 0, 0] 8 rfl (fun j _ => zr_B j) (by decide) j
theorem iv_84 (j : Nat) : R (sp 84 j).1 (sp 84 j).2 (hI 84 j) := r_full _
theorem iv_85 (j : Nat) : R (sp 85 j).1 (sp 85 j).2 (hI 85 j) := zr_lz (f := spL [(4, 0, 400), (5, 0, 401)]) [0, 0, 0, 0, 0, 0] 6 rfl (fun j _ => (zr_L _ (by decide)) j) (by decide) j
theorem iv_86 (j : Nat) : R (sp 86 j).1 (sp 86 j).2 (hI 86 j) := r_full _
theorem iv_87 (j : Nat) : R (sp 87 j).1 (sp 87 j).2 (hI 87 j) := r_full _
theorem iv_88 (j : Nat) : R (sp 88 j).1 (sp 88 j).2 (hI 88 j) := r_full _
theorem iv_89 (j : Nat) : R (sp 89 j).1 (sp 89 j).2 (hI 89 j) := r_full _
theorem iv_90 (j : Nat) : R (sp 90 j).1 (sp 90 j).2 (hI 90 j) := zr_lz (f := spL [(8, 0, 12), (9, 0, 9999)]) [0, 0, 0, (-1), 0, 0, 0, 0, 0, 0] 10 rfl (fun j _ => (zr_L _ (by decide)) j) (by decide) j
theorem rzz_91 : ∀ j, 4 ≤ j → (spR 16 5 j).1 ≤ 0 ∧ 0 ≤ (spR 16 5 j).2 := fun j hj => by
  unfold spR
  rw [if_neg (by omega), if_neg (by omega), if_neg (by omega)]
  exact ⟨by decide, by decide⟩
theorem iv_91 (j : Nat) : R (sp 91 j).1 (sp 91 j).2 (hI 91 j) := zr_lz (f := spR 16 5) [16, 5, 0, 0] 4 rfl rzz_91 (by decide) j
theorem iv_92 (j : Nat) : R (sp 92 j).1 (sp 92 j).2 (hI 92 j) := zr_z0 (f := spC) (zr_C) j
theorem rzz_93 : ∀ j, 4 ≤ j → (spR 400 2 j).1 ≤ 0 ∧ 0 ≤ (spR 400 2 j).2 := fun j hj => by
  unfold spR
  rw [if_neg (by omega), if_neg (by omega), if_neg (by omega)]
  exact ⟨by decide, by decide⟩
theorem iv_93 (j : Nat) : R (sp 93 j).1 (sp 93 j).2 (hI 93 j) := zr_lz (f := spR 400 2) [400, 2, 0, 0] 4 rfl rzz_93 (by decide) j
theorem iv_94 (j : Nat) : R (sp 94 j).1 (sp 94 j).2 (hI 94 j) := r_full _
theorem iv_95 (j : Nat) : R (sp 95 j).1 (sp 95 j).2 (hI 95 j) := r_full _
theorem iv_96 (j : Nat) : R (sp 96 j).1 (sp 96 j).2 (hI 96 j) := r_full _
theorem iv_97 (j : Nat) : R (sp 97 j).1 (sp 97 j).2 (hI 97 j) := r_full _
theorem iv_98 (j : Nat) : R (sp 98 j).1 (sp 98 j).2 (hI 98 j) := r_full _
theorem iv_99 (j : Nat) : R (sp 99 j).1 (sp 99 j).2 (hI 99 j) := r_full _
theorem iv_100 (j : Nat) : R (sp 100 j).1 (sp 100 j).2 (hI 100 j) := r_full _
theorem iv_101 (j : Nat) : R (sp 101 j).1 (sp 101 j).2 (hI 101 j) := r_full _
theorem iv_102 (j : Nat) : R (sp 102 j).1 (sp 102 j).2 (hI 102 j) := r_full _
theorem iv_103 (j : Nat) : R (sp 103 j).1 (sp 103 j).2 (hI 103 j) := r_full _
theorem iv_104 (j : Nat) : R (sp 104 j).1 (sp 104 j).2 (hI 104 j) := zr_lz (f := spL [(3, 0, 6), (5, 0, 1), (6, 0, 12), (11, 0, 400), (12, 0, 400), (13, 0, 400), (33, 0, 16), (35, 0, 16), (37, 0, 16), (42, 0, 9), (45, 0, 8), (49, 0, 5), (51, 0, 8), (54, 0, 16), (57, 0, 6), (62, 0, 12), (66, 0, 8), (71, 0, 1), (72, 0, 1)]) [0, 0, 0, 0, 0, 0, 0, 0, 0, 0, 0, 0, 0, 0, 0, 0, 0, 0, 0, 0, 0, 0, 0, 0, 0, 0, 0, 0, 0, 0, 0, 0, (-1), 0, 0, 0, 0, 0, 0, 0, 0, 0, 0, 0, 0, 0, 0, 0, 0, 0, 0, 0, 0, 0, 0, 0, 0, 0, 0, 0, 0, 0, 0, 0, 0, 0, 0, 0, 0, 0, 0, 0, 0, 0, 0] 75 rfl (fun j _ => (zr_L _ (by decide)) j) (by decide) j
theorem iv_105 (j : Nat) : R (sp 105 j).1 (sp 105 j).2 (hI 105 j) := zr_z0 (f := spL [(2, 0, 150)]) (zr_L _ (by decide)) j
theorem iv_106 (j : Nat) : R (sp 106 j).1 (sp 106 j).2 (hI 106 j) := zr_z0 (f := spW) (zr_W) j
theorem iv_107 (j : Nat) : R (sp 107 j).1 (sp 107 j).2 (hI 107 j) := zr_z0 (f := spL [(2, 0, 150)]) (zr_L _ (by decide)) j
theorem iv_108 (j : Nat) : R (sp 108 j).1 (sp 108 j).2 (hI 108 j) := r_full _
theorem iv_109 (j : Nat) : R (sp 109 j).1 (sp 109 j).2 (hI 109 j) := r_full _
theorem iv_110 (j : Nat) : R (sp 110 j).1 (sp 110 j).2 (hI 110 j) := r_full _
theorem iv_111 (j : Nat) : R (sp 111 j).1 (sp 111 j).2 (hI 111 j) := r_full _
theorem wx_112 : ∀ j, j < 141 → (spX j).1 ≤ (wz_147 j).toInt ∧ (wz_147 j).toInt ≤ (spX j).2 := by decide +kernel
theorem iv_112 (j : Nat) : R (sp 112 j).1 (sp 112 j).2 (hI 112 j) := by
  by_cases h : j < 141
  · exact wx_112 j h
  · show R (spX j).1 (spX j).2 _
    unfold spX
    rw [if_neg h]
    exact r_full _
theorem iv_113 (j : Nat) : R (sp 113 j).1 (sp 113 j).2 (hI 113 j) := zr_z0 (f := spL [(0, 0, 16)]) (zr_L _ (by decide)) j
theorem iv_114 (j : Nat) : R (sp 114 j).1 (sp 114 j).2 (hI 114 j) := r_full _
theorem iv_115 (j : Nat) : R (sp 115 j).1 (sp 115 j).2 (hI 115 j) := r_full _
theorem iv_116 (j : Nat) : R (sp 116 j).1 (sp 116 j).2 (hI 116 j) := r_full _
theorem iv_117 (j : Nat) : R (sp 117 j).1 (sp 117 j).2 (hI 117 j) := r_full _
theorem iv_118 (j : Nat) : R (sp 118 j).1 (sp 118 j).2 (hI 118 j) := r_full _
theorem iv_119 (j : Nat) : R (sp 119 j).1 (sp 119 j).2 (hI 119 j) := r_full _
theorem iv_120 (j : Nat) : R (sp 120 j).1 (sp 120 j).2 (hI 120 j) := r_full _
theorem iv_121 (j : Nat) : R (sp 121 j).1 (sp 121 j).2 (hI 121 j) := r_full _
theorem iv_122 (j : Nat) : R (sp 122 j).1 (sp 122 j).2 (hI 122 j) := zr_z0 (f := spD) (zr_D) j
theorem iv_123 (j : Nat) : R (sp 123 j).1 (sp 123 j).2 (hI 123 j) := r_full _
theorem iv_124 (j : Nat) : R (sp 124 j).1 (sp 124 j).2 (hI 124 j) := r_full _
theorem iv_125 (j : Nat) : R (sp 125 j).1 (sp 125 j).2 (hI 125 j) := r_full _
theorem iv_126 (j : Nat) : R (sp 126 j).1 (sp 126 j).2 (hI 126 j) := r_full _
theorem iv_127 (j : Nat) : R (sp 127 j).1 (sp 127 j).2 (hI 127 j) := r_full _
theorem iv_128 (j : Nat) : R (sp 128 j).1 (sp 128 j).2 (hI 128 j) := r_full _
theorem iv_129 (j : Nat) : R (sp 129 j).1 (sp 129 j).2 (hI 129 j) := r_full _
theorem iv_130 (j : Nat) : R (sp 130 j).1 (sp 130 j).2 (hI 130 j) := r_full _
theorem iv_131 (j : Nat) : R (sp 131 j).1 (sp 131 j).2 (hI 131 j) := r_full _
theorem iv_132 (j : Nat) : R (sp 132 j).1 (sp 132 j).2 (hI 132 j) := r_full _
theorem iv_133 (j : Nat) : R (sp 133 j).1 (sp 133 j).2 (hI 133 j) := r_full _
theorem iv_134 (j : Nat) : R (sp 134 j).1 (sp 134 j).2 (hI 134 j) := r_full _
theorem iv_135 (j : Nat) : R (sp 135 j).1 (sp 135 j).2 (hI 135 j) := r_full _
theorem iv_136 (j : Nat) : R (sp 136 j).1 (sp 136 j).2 (hI 136 j) := r_full _
theorem iv_137 (j : Nat) : R (sp 137 j).1 (sp 137 j).2 (hI 137 j) := r_full _
theorem iv_138 (j : Nat) : R (sp 138 j).1 (sp 138 j).2 (hI 138 j) := r_full _
theorem iv_139 (j : Nat) : R (sp 139 j).1 (sp 139 j).2 (hI 139 j) := zr_z0 (f := spA 0 5) (zr_A (by decide)) j
theorem iv_140 (j : Nat) : R (sp 140 j).1 (sp 140 j).2 (hI 140 j) := zr_z0 (f := spA 0 5) (zr_A (by decide)) j
theorem iv_141 (j : Nat) : R (sp 141 j).1 (sp 141 j).2 (hI 141 j) := zr_z0 (f := spA 0 12) (zr_A (by decide)) j
theorem iv_142 (j : Nat) : R (sp 142 j).1 (sp 142 j).2 (hI 142 j) := r_full _
theorem iv_143 (j : Nat) : R (sp 143 j).1 (sp 143 j).2 (hI 143 j) := r_full _
theorem iv_144 (j : Nat) : R (sp 144 j).1 (sp 144 j).2 (hI 144 j) := r_full _
theorem iv_145 (j : Nat) : R (sp 145 j).1 (sp 145 j).2 (hI 145 j) := r_full _
theorem iv_146 (j : Nat) : R (sp 146 j).1 (sp 146 j).2 (hI 146 j) := r_full _
theorem iv_147 (j : Nat) : R (sp 147 j).1 (sp 147 j).2 (hI 147 j) := r_full _
theorem iv_148 (j : Nat) : R (sp 148 j).1 (sp 148 j).2 (hI 148 j) := zr_z0 (f := spI) (zr_I) j
set_option maxRecDepth 4000 in
theorem inv_first : Inv hI := fun c => match c with
  | 0 => iv_0
  | 1 => iv_1
  | 2 => iv_2
  | 3 => iv_3
  | 4 => iv_4
  | 5 => iv_5
  | 6 => iv_6
  | 7 => iv_7
  | 8 => iv_8
  | 9 => iv_9
  | 10 => iv_10
  | 11 => iv_11
  | 12 => iv_12
  | 13 => iv_13
  | 14 => iv_14
  | 15 => iv_15
  | 16 => iv_16
  | 17 => iv_17
  | 18 => iv_18
  | 19 => iv_19
  | 20 => iv_20
  | 21 => iv_21
  | 22 => iv_22
  | 23 => iv_23
  | 24 => iv_24
  | 25 => iv_25
  | 26 => iv_26
  | 27 => iv_27
  | 28 => iv_28
  | 29 => iv_29
  | 30 => iv_30
  | 31 => iv_31
  | 32 => iv_32
  | 33 => iv_33
  | 34 => iv_34
  | 35 => iv_35
  | 36 => iv_36
  | 37 => iv_37
  | 38 => iv_38
  | 39 => iv_39
  | 40 => iv_40
  | 41 => iv_41
  | 42 => iv_42
  | 43 => iv_43
  | 44 => iv_44
  | 45 => iv_45
  | 46 => iv_46
  | 47 => iv_47
  | 48 => iv_48
  | 49 => iv_49
  | 50 => iv_50
  | 51 => iv_51
  | 52 => iv_52
  | 53 => iv_53
  | 54 => iv_54
  | 55 => iv_55
  | 56 => iv_56
  | 57 => iv_57
  | 58 => iv_58
  | 59 => iv_59
  | 60 => iv_60
  | 61 => iv_61
  | 62 => iv_62
  | 63 => iv_63
  | 64 => iv_64
  | 65 => iv_65
  | 66 => iv_66
  | 67 => iv_67
  | 68 => iv_68
  | 69 => iv_69
  | 70 => iv_70
  | 71 => iv_71
  | 72 => iv_72
  | 73 => iv_73
  | 74 => iv_74
  | 75 => iv_75
  | 76 => iv_76
  | 77 => iv_77
  | 78 => iv_78
  | 79 => iv_79
  | 80 => iv_80
  | 81 => iv_81
  | 82 => iv_82
  | 83 => iv_83
  | 84 => iv_84
  | 85 => iv_85
  | 86 => iv_86
  | 87 => iv_87
  | 88 => iv_88
  | 89 => iv_89
  | 90 => iv_90
  | 91 => iv_91
  | 92 => iv_92
  | 93 => iv_93
  | 94 => iv_94
  | 95 => iv_95
  | 96 => iv_96
  | 97 => iv_97
  | 98 => iv_98
  | 99 => iv_99
  | 100 => iv_100
  | 101 => iv_101
  | 102 => iv_102
  | 103 => iv_103
  | 104 => iv_104
  | 105 => iv_105
  | 106 => iv_106
  | 107 => iv_107
  | 108 => iv_108
  | 109 => iv_109
  | 110 => iv_110
  | 111 => iv_111
  | 112 => iv_112
  | 113 => iv_113
  | 114 => iv_114
  | 115 => iv_115
  | 116 => iv_116
  | 117 => iv_117
  | 118 => iv_118
  | 119 => iv_119
  | 120 => iv_120
  | 121 => iv_121
  | 122 => iv_122
  | 123 => iv_123
  | 124 => iv_124
  | 125 => iv_125
  | 126 => iv_126
  | 127 => iv_127
  | 128 => iv_128
  | 129 => iv_129
  | 130 => iv_130
  | 131 => iv_131
  | 132 => iv_132
  | 133 => iv_133
  | 134 => iv_134
  | 135 => iv_135
  | 136 => iv_136
  | 137 => iv_137
  | 138 => iv_138
  | 139 => iv_139
  | 140 => iv_140
  | 141 => iv_141
  | 142 => iv_142
  | 143 => iv_143
  | 144 => iv_144
  | 145 => iv_145
  | 146 => iv_146
  | 147 => iv_147
  | 148 => iv_148
  | c + 149 => fun j => by
    show R (sp (c + 149) j).1 (sp (c + 149) j).2 (hI (c + 149) j)
    have e : sp (c + 149) j = rF := by
      unfold sp
      rw [List.getD_eq_getElem?_getD, List.getElem?_eq_none (by show spT.length ≤ c + 149; have : spT.length = 149 := rfl; omega)]
      rfl
    rw [e]
    exact r_full _
theorem im_first : IM hI := ⟨inv_first, fun l q => by
    have e : (hI 113 0).toInt = 0 := rfl
    omega, fun l q => by
    have e : (hI 148 985).toInt = 0 := rfl
    omega⟩
theorem gi_first : GI hI := Or.inl ⟨rfl, rfl⟩
/-- pans -/
theorem pa30 (p1 p2 : Int32) (h : PH) (i : IM h) (k0 : Option (Int32 × PH)) (hk : Sf k0 (fun r => R (-2147483648) 2147483647 r.1 ∧ IM r.2)) : ∀ (n : Nat) (v3 : Int32), 8 - v3.toInt < (n : Int) → R 0 8 v3 → Sf (mm_pans_L30 p1 p2 h k0 n v3) (fun r => R (-2147483648) 2147483647 r.1 ∧ IM r.2) := by
  intro n
  induction n with
  | zero => intro v3 hf f; have := f.2; omega
  | succ n ih =>
    intro v3 hf f
    rw [mm_pans_L30]
    have fm : R 0 8 (h 104 45) := inv_rng i.1 rfl
    refine s_if (fun _ => hk) (fun c => ?_)
    have f5 : R 0 7 v3 := lt_hi f fm (nle_lt c) (by decide)
    refine s_ck f5 (by decide) ?_
    refine s_if (fun _ => ?_) (fun _ => s_some ⟨r_full _, i⟩)
    exact ih (v3 + 1) (fu_su hf (i_inc f5 (k := 1) rfl (by decide)) (by decide)) (r_w (r_add f5 (show R 1 1 (1 : Int32) from ⟨by decide, by decide⟩) (e := 1) (f := 8) (by decide)) (by decide))
theorem sf_m_pans (p1 p2 : Int32) {h0 : PH} (i : IM h0) : Sf (mm_pans p1 p2 h0) (fun r => R (-2147483648) 2147483647 r.1 ∧ IM r.2) := by
  unfold mm_pans
  rw [lt_e]
  have i1 : IM (up h0 104 0 0) := im_put i (show sp 104 0 = (-2147483648, 2147483647) from rfl) (r_full _) (by decide)
  refine s_isin (fun r2 _ _ => ?_)
  refine s_if (fun _ => s_some ⟨r_full _, i1⟩) (fun _ => ?_)
  refine s_isin (fun r3 _ _ => ?_)
  refine s_if (fun _ => s_some ⟨r_full _, i1⟩) (fun _ => ?_)
  refine pa30 p1 p2 _ i1 _ ?_ FU 0 (fu_up (show R 0 0 (0 : Int32) from ⟨by decide, by decide⟩) (by decide)) ⟨by decide, by decide⟩
  refine s_if (fun _ => ?_) (fun _ => ?_)
  · exact s_bd2 (sf_m_fewestPans p1 i1) (fun r4 h5 q => s_some ⟨r_full _, q.2⟩)
  · exact s_bd2 (sf_m_firstPans p1 i1) (fun r4 h5 q => s_some ⟨r_full _, q.2⟩)
