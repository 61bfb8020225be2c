theorem fe_0 (B : Nat) (cA : Nat → ClassId) (F : CF) : ce B cA hI 0 (0, 14) = ceE B cA (pf_52 (pf_51 F) 0) := by rw [fc_0]; rfl
theorem fe_1 (B : Nat) (cA : Nat → ClassId) (F : CF) : ce B cA hI 1 (1, 8) = ceE B cA (pf_52 (pf_51 F) 1) := by rw [fc_1]; rfl
theorem fe_2 (B : Nat) (cA : Nat → ClassId) (F : CF) : ce B cA hI 2 (20, 132) = ceE B cA (pf_52 (pf_51 F) 2) := by rw [fc_2, ce_int, ceE_int]; exact congrArg (fun f => Sum.inl (cA 0, 132, Sum.inl f)) (rfl : hI 2 = z0)
theorem fe_3 (B : Nat) (cA : Nat → ClassId) (F : CF) : ce B cA hI 3 (1, 8) = ceE B cA (pf_52 (pf_51 F) 3) := by rw [fc_3]; rfl
theorem fe_4 (B : Nat) (cA : Nat → ClassId) (F : CF) : ce B cA hI 4 (20, 132) = ceE B cA (pf_52 (pf_51 F) 4) := by rw [fc_4, ce_int, ceE_int]; exact congrArg (fun f => Sum.inl (cA 0, 132, Sum.inl f)) (rfl : hI 4 = z0)
theorem fe_5 (B : Nat) (cA : Nat → ClassId) (F : CF) : ce B cA hI 5 (11, 14) = ceE B cA (pf_52 (pf_51 F) 5) := by rw [fc_5]; rfl
theorem fe_6 (B : Nat) (cA : Nat → ClassId) (F : CF) : ce B cA hI 6 (6, 4) = ceE B cA (pf_52 (pf_51 F) 6) := by rw [fc_6]; rfl
theorem fe_7 (B : Nat) (cA : Nat → ClassId) (F : CF) : ce B cA hI 7 (20, 80) = ceE B cA (pf_52 (pf_51 F) 7) := by rw [fc_7, ce_int, ceE_int]; exact congrArg (fun f => Sum.inl (cA 0, 80, Sum.inl f)) (rfl : hI 7 = z0)
theorem fe_8 (B : Nat) (cA : Nat → ClassId) (F : CF) : ce B cA hI 8 (6, 4) = ceE B cA (pf_52 (pf_51 F) 8) := by rw [fc_8]; rfl
theorem fe_9 (B : Nat) (cA : Nat → ClassId) (F : CF) : ce B cA hI 9 (20, 800) = ceE B cA (pf_52 (pf_51 F) 9) := by rw [fc_9, ce_int, ceE_int]; exact congrArg (fun f => Sum.inl (cA 0, 800, Sum.inl f)) (rfl : hI 9 = z0)
theorem fe_10 (B : Nat) (cA : Nat → ClassId) (F : CF) : ce B cA hI 10 (6, 4) = ceE B cA (pf_52 (pf_51 F) 10) := by rw [fc_10]; rfl
theorem fe_11 (B : Nat) (cA : Nat → ClassId) (F : CF) : ce B cA hI 11 (20, 80) = ceE B cA (pf_52 (pf_51 F) 11) := by rw [fc_11, ce_int, ceE_int]; exact congrArg (fun f => Sum.inl (cA 0, 80, Sum.inl f)) (rfl : hI 11 = z0)
theorem fe_12 (B : Nat) (cA : Nat → ClassId) (F : CF) : ce B cA hI 12 (6, 4) = ceE B cA (pf_52 (pf_51 F) 12) := by rw [fc_12]; rfl
theorem fe_13 (B : Nat) (cA : Nat → ClassId) (F : CF) : ce B cA hI 13 (20, 80) = ceE B cA (pf_52 (pf_51 F) 13) := by rw [fc_13, ce_int, ceE_int]; exact congrArg (fun f => Sum.inl (cA 0, 80, Sum.inl f)) (rfl : hI 13 = z0)
theorem fe_14 (B : Nat) (cA : Nat → ClassId) (F : CF) : ce B cA hI 14 (6, 4) = ceE B cA (pf_52 (pf_51 F) 14) := by rw [fc_14]; rfl
theorem fe_15 (B : Nat) (cA : Nat → ClassId) (F : CF) : ce B cA hI 15 (20, 80) = ceE B cA (pf_52 (pf_51 F) 15) := by rw [fc_15, ce_int, ceE_int]; exact congrArg (fun f => Sum.inl (cA 0, 80, Sum.inl f)) (rfl : hI 15 = z0)
theorem fe_16 (B : Nat) (cA : Nat → ClassId) (F : CF) : ce B cA hI 16 (6, 4) = ceE B cA (pf_52 (pf_51 F) 16) := by rw [fc_16]; rfl
theorem fe_17 (B : Nat) (cA : Nat → ClassId) (F : CF) : ce B cA hI 17 (20, 600) = ceE B cA (pf_52 (pf_51 F) 17) := by rw [fc_17, ce_int, ceE_int]; exact congrArg (fun f => Sum.inl (cA 0, 600, Sum.inl f)) (rfl : hI 17 = z0)
theorem fe_18 (B : Nat) (cA : Nat → ClassId) (F : CF) : ce B cA hI 18 (6, 4) = ceE B cA (pf_52 (pf_51 F) 18) := by rw [fc_18]; rfl
theorem fe_19 (B : Nat) (cA : Nat → ClassId) (F : CF) : ce B cA hI 19 (20, 9) = ceE B cA (pf_52 (pf_51 F) 19) := by rw [fc_19, ce_int, ceE_int]; exact congrArg (fun f => Sum.inl (cA 0, 9, Sum.inl f)) (rfl : hI 19 = z0)
theorem fe_20 (B : Nat) (cA : Nat → ClassId) (F : CF) : ce B cA hI 20 (6, 4) = ceE B cA (pf_52 (pf_51 F) 20) := by rw [fc_20]; rfl
theorem fe_21 (B : Nat) (cA : Nat → ClassId) (F : CF) : ce B cA hI 21 (20, 8) = ceE B cA (pf_52 (pf_51 F) 21) := by rw [fc_21, ce_int, ceE_int]; exact congrArg (fun f => Sum.inl (cA 0, 8, Sum.inl f)) (rfl : hI 21 = z0)
theorem fe_22 (B : Nat) (cA : Nat → ClassId) (F : CF) : ce B cA hI 22 (6, 4) = ceE B cA (pf_52 (pf_51 F) 22) := by rw [fc_22]; rfl
theorem fe_23 (B : Nat) (cA : Nat → ClassId) (F : CF) : ce B cA hI 23 (20, 5) = ceE B cA (pf_52 (pf_51 F) 23) := by rw [fc_23, ce_int, ceE_int]; exact congrArg (fun f => Sum.inl (cA 0, 5, Sum.inl f)) (rfl : hI 23 = z0)
theorem fe_24 (B : Nat) (cA : Nat → ClassId) (F : CF) : ce B cA hI 24 (6, 4) = ceE B cA (pf_52 (pf_51 F) 24) := by rw [fc_24]; rfl
theorem fe_25 (B : Nat) (cA : Nat → ClassId) (F : CF) : ce B cA hI 25 (20, 16) = ceE B cA (pf_52 (pf_51 F) 25) := by rw [fc_25, ce_int, ceE_int]; exact congrArg (fun f => Sum.inl (cA 0, 16, Sum.inl f)) (rfl : hI 25 = z0)
theorem fe_26 (B : Nat) (cA : Nat → ClassId) (F : CF) : ce B cA hI 26 (6, 4) = ceE B cA (pf_52 (pf_51 F) 26) := by rw [fc_26]; rfl
theorem fe_27 (B : Nat) (cA : Nat → ClassId) (F : CF) : ce B cA hI 27 (20, 16) = ceE B cA (pf_52 (pf_51 F) 27) := by rw [fc_27, ce_int, ceE_int]; exact congrArg (fun f => Sum.inl (cA 0, 16, Sum.inl f)) (rfl : hI 27 = z0)
theorem fe_28 (B : Nat) (cA : Nat → ClassId) (F : CF) : ce B cA hI 28 (6, 4) = ceE B cA (pf_52 (pf_51 F) 28) := by rw [fc_28]; rfl
theorem fe_29 (B : Nat) (cA : Nat → ClassId) (F : CF) : ce B cA hI 29 (20, 12) = ceE B cA (pf_52 (pf_51 F) 29) := by rw [fc_29, ce_int, ceE_int]; exact congrArg (fun f => Sum.inl (cA 0, 12, Sum.inl f)) (rfl : hI 29 = z0)
theorem fe_30 (B : Nat) (cA : Nat → ClassId) (F : CF) : ce B cA hI 30 (6, 4) = ceE B cA (pf_52 (pf_51 F) 30) := by rw [fc_30]; rfl
theorem fe_31 (B : Nat) (cA : Nat → ClassId) (F : CF) : ce B cA hI 31 (20, 24) = ceE B cA (pf_52 (pf_51 F) 31) := by rw [fc_31, ce_int, ceE_int]; exact congrArg (fun f => Sum.inl (cA 0, 24, Sum.inl f)) (rfl : hI 31 = z0)
theorem fe_32 (B : Nat) (cA : Nat → ClassId) (F : CF) : ce B cA hI 32 (6, 4) = ceE B cA (pf_52 (pf_51 F) 32) := by rw [fc_32]; rfl
theorem fe_33 (B : Nat) (cA : Nat → ClassId) (F : CF) : ce B cA hI 33 (20, 16) = ceE B cA (pf_52 (pf_51 F) 33) := by rw [fc_33, ce_int, ceE_int]; exact congrArg (fun f => Sum.inl (cA 0, 16, Sum.inl f)) (rfl : hI 33 = z0)
theorem fe_34 (B : Nat) (cA : Nat → ClassId) (F : CF) : ce B cA hI 34 (3, 5) = ceE B cA (pf_52 (pf_51 F) 34) := by rw [fc_34]; rfl
theorem fe_35 (B : Nat) (cA : Nat → ClassId) (F : CF) : ce B cA hI 35 (20, 12) = ceE B cA (pf_52 (pf_51 F) 35) := by rw [fc_35, ce_int, ceE_int]; exact congrArg (fun f => Sum.inl (cA 0, 12, Sum.inl f)) (rfl : hI 35 = z0)
theorem fe_36 (B : Nat) (cA : Nat → ClassId) (F : CF) : ce B cA hI 36 (20, 64) = ceE B cA (pf_52 (pf_51 F) 36) := by rw [fc_36, ce_int, ceE_int]; exact congrArg (fun f => Sum.inl (cA 0, 64, Sum.inl f)) (rfl : hI 36 = z0)
theorem fe_37 (B : Nat) (cA : Nat → ClassId) (F : CF) : ce B cA hI 37 (1, 8) = ceE B cA (pf_52 (pf_51 F) 37) := by rw [fc_37]; rfl
theorem fe_38 (B : Nat) (cA : Nat → ClassId) (F : CF) : ce B cA hI 38 (20, 132) = ceE B cA (pf_52 (pf_51 F) 38) := by rw [fc_38, ce_int, ceE_int]; exact congrArg (fun f => Sum.inl (cA 0, 132, Sum.inl f)) (rfl : hI 38 = z0)
theorem fe_39 (B : Nat) (cA : Nat → ClassId) (F : CF) : ce B cA hI 39 (11, 14) = ceE B cA (pf_52 (pf_51 F) 39) := by rw [fc_39]; rfl
theorem fe_40 (B : Nat) (cA : Nat → ClassId) (F : CF) : ce B cA hI 40 (6, 4) = ceE B cA (pf_52 (pf_51 F) 40) := by rw [fc_40]; rfl
theorem fe_41 (B : Nat) (cA : Nat → ClassId) (F : CF) : ce B cA hI 41 (20, 80) = ceE B cA (pf_52 (pf_51 F) 41) := by rw [fc_41, ce_int, ceE_int]; exact congrArg (fun f => Sum.inl (cA 0, 80, Sum.inl f)) (rfl : hI 41 = z0)
theorem fe_42 (B : Nat) (cA : Nat → ClassId) (F : CF) : ce B cA hI 42 (6, 4) = ceE B cA (pf_52 (pf_51 F) 42) := by rw [fc_42]; rfl
theorem fe_43 (B : Nat) (cA : Nat → ClassId) (F : CF) : ce B cA hI 43 (20, 800) = ceE B cA (pf_52 (pf_51 F) 43) := by rw [fc_43, ce_int, ceE_int]; exact congrArg (fun f => Sum.inl (cA 0, 800, Sum.inl f)) (rfl : hI 43 = z0)
theorem fe_44 (B : Nat) (cA : Nat → ClassId) (F : CF) : ce B cA hI 44 (6, 4) = ceE B cA (pf_52 (pf_51 F) 44) := by rw [fc_44]; rfl
theorem fe_45 (B : Nat) (cA : Nat → ClassId) (F : CF) : ce B cA hI 45 (20, 80) = ceE B cA (pf_52 (pf_51 F) 45) := by rw [fc_45, ce_int, ceE_int]; exact congrArg (fun f => Sum.inl (cA 0, 80, Sum.inl f)) (rfl : hI 45 = z0)
theorem fe_46 (B : Nat) (cA : Nat → ClassId) (F : CF) : ce B cA hI 46 (6, 4) = ceE B cA (pf_52 (pf_51 F) 46) := by rw [fc_46]; rfl
theorem fe_47 (B : Nat) (cA : Nat → ClassId) (F : CF) : ce B cA hI 47 (20, 80) = ceE B cA (pf_52 (pf_51 F) 47) := by rw [fc_47, ce_int, ceE_int]; exact congrArg (fun f => Sum.inl (cA 0, 80, Sum.inl f)) (rfl : hI 47 = z0)
theorem fe_48 (B : Nat) (cA : Nat → ClassId) (F : CF) : ce B cA hI 48 (6, 4) = ceE B cA (pf_52 (pf_51 F) 48) := by rw [fc_48]; rfl
theorem fe_49 (B : Nat) (cA : Nat → ClassId) (F : CF) : ce B cA hI 49 (20, 80) = ceE B cA (pf_52 (pf_51 F) 49) := by rw [fc_49, ce_int, ceE_int]; exact congrArg (fun f => Sum.inl (cA 0, 80, Sum.inl f)) (rfl : hI 49 = z0)
theorem fe_50 (B : Nat) (cA : Nat → ClassId) (F : CF) : ce B cA hI 50 (6, 4) = ceE B cA (pf_52 (pf_51 F) 50) := by rw [fc_50]; rfl
theorem fe_51 (B : Nat) (cA : Nat → ClassId) (F : CF) : ce B cA hI 51 (20, 600) = ceE B cA (pf_52 (pf_51 F) 51) := by rw [fc_51, ce_int, ceE_int]; exact congrArg (fun f => Sum.inl (cA 0, 600, Sum.inl f)) (rfl : hI 51 = z0)
theorem fe_52 (B : Nat) (cA : Nat → ClassId) (F : CF) : ce B cA hI 52 (6, 4) = ceE B cA (pf_52 (pf_51 F) 52) := by rw [fc_52]; rfl
theorem fe_53 (B : Nat) (cA : Nat → ClassId) (F : CF) : ce B cA hI 53 (20, 9) = ceE B cA (pf_52 (pf_51 F) 53) := by rw [fc_53, ce_int, ceE_int]; exact congrArg (fun f => Sum.inl (cA 0, 9, Sum.inl f)) (rfl : hI 53 = z0)
theorem fe_54 (B : Nat) (cA : Nat → ClassId) (F : CF) : ce B cA hI 54 (6, 4) = ceE B cA (pf_52 (pf_51 F) 54) := by rw [fc_54]; rfl
theorem fe_55 (B : Nat) (cA : Nat → ClassId) (F : CF) : ce B cA hI 55 (20, 8) = ceE B cA (pf_52 (pf_51 F) 55) := by rw [fc_55, ce_int, ceE_int]; exact congrArg (fun f => Sum.inl (cA 0, 8, Sum.inl f)) (rfl : hI 55 = z0)
theorem fe_56 (B : Nat) (cA : Nat → ClassId) (F : CF) : ce B cA hI 56 (6, 4) = ceE B cA (pf_52 (pf_51 F) 56) := by rw [fc_56]; rfl
theorem fe_57 (B : Nat) (cA : Nat → ClassId) (F : CF) : ce B cA hI 57 (20, 5) = ceE B cA (pf_52 (pf_51 F) 57) := by rw [fc_57, ce_int, ceE_int]; exact congrArg (fun f => Sum.inl (cA 0, 5, Sum.inl f)) (rfl : hI 57 = z0)
theorem fe_58 (B : Nat) (cA : Nat → ClassId) (F : CF) : ce B cA hI 58 (6, 4) = ceE B cA (pf_52 (pf_51 F) 58) := by rw [fc_58]; rfl
theorem fe_59 (B : Nat) (cA : Nat → ClassId) (F : CF) : ce B cA hI 59 (20, 16) = ceE B cA (pf_52 (pf_51 F) 59) := by rw [fc_59, ce_int, ceE_int]; exact congrArg (fun f => Sum.inl (cA 0, 16, Sum.inl f)) (rfl : hI 59 = z0)
theorem fe_60 (B : Nat) (cA : Nat → ClassId) (F : CF) : ce B cA hI 60 (6, 4) = ceE B cA (pf_52 (pf_51 F) 60) := by rw [fc_60]; rfl
theorem fe_61 (B : Nat) (cA : Nat → ClassId) (F : CF) : ce B cA hI 61 (20, 16) = ceE B cA (pf_52 (pf_51 F) 61) := by rw [fc_61, ce_int, ceE_int]; exact congrArg (fun f => Sum.inl (cA 0, 16, Sum.inl f)) (rfl : hI 61 = z0)
theorem fe_62 (B : Nat) (cA : Nat → ClassId) (F : CF) : ce B cA hI 62 (6, 4) = ceE B cA (pf_52 (pf_51 F) 62) := by rw [fc_62]; rfl
theorem fe_63 (B : Nat) (cA : Nat → ClassId) (F : CF) : ce B cA hI 63 (20, 12) = ceE B cA (pf_52 (pf_51 F) 63) := by rw [fc_63, ce_int, ceE_int]; exact congrArg (fun f => Sum.inl (cA 0, 12, Sum.inl f)) (rfl : hI 63 = z0)
theorem fe_64 (B : Nat) (cA : Nat → ClassId) (F : CF) : ce B cA hI 64 (6, 4) = ceE B cA (pf_52 (pf_51 F) 64) := by rw [fc_64]; rfl
theorem fe_65 (B : Nat) (cA : Nat → ClassId) (F : CF) : ce B cA hI 65 (20, 24) = ceE B cA (pf_52 (pf_51 F) 65) := by rw [fc_65, ce_int, ceE_int]; exact congrArg (fun f => Sum.inl (cA 0, 24, Sum.inl f)) (rfl : hI 65 = z0)
theorem fe_66 (B : Nat) (cA : Nat → ClassId) (F : CF) : ce B cA hI 66 (6, 4) = ceE B cA (pf_52 (pf_51 F) 66) := by rw [fc_66]; rfl
theorem fe_67 (B : Nat) (cA : Nat → ClassId) (F : CF) : ce B cA hI 67 (20, 16) = ceE B cA (pf_52 (pf_51 F) 67) := by rw [fc_67, ce_int, ceE_int]; exact congrArg (fun f => Sum.inl (cA 0, 16, Sum.inl f)) (rfl : hI 67 = z0)
theorem fe_68 (B : Nat) (cA : Nat → ClassId) (F : CF) : ce B cA hI 68 (7, 4) = ceE B cA (pf_52 (pf_51 F) 68) := by rw [fc_68]; rfl
theorem fe_69 (B : Nat) (cA : Nat → ClassId) (F : CF) : ce B cA hI 69 (7, 4) = ceE B cA (pf_52 (pf_51 F) 69) := by rw [fc_69]; rfl
theorem fe_70 (B : Nat) (cA : Nat → ClassId) (F : CF) : ce B cA hI 70 (4, 4) = ceE B cA (pf_52 (pf_51 F) 70) := by rw [fc_70]; rfl
theorem fe_71 (B : Nat) (cA : Nat → ClassId) (F : CF) : ce B cA hI 71 (22, 6) = ceE B cA (pf_52 (pf_51 F) 71) := by
  rw [fc_71]
  show Sum.inl (cA 2, 6, Sum.inr (Sum.inr (Sum.inr (Sum.inr (fun j => (rf 71 j).map (B + ·)))))) = Sum.inl (cA 2, 6, Sum.inr (Sum.inr (Sum.inr (Sum.inr (fun j => (rz_6 j).map (B + ·))))))
  have e : ∀ j, rf 71 j = rz_6 j := by
    intro j
    match j with
    | 0 => rfl
    | 1 => rfl
    | 2 => rfl
    | 3 => rfl
    | 4 => rfl
    | 5 => rfl
    | j + 6 => simp [rf, rfT, rz_6, rz_5, rz_4, rz_3, rz_2, rz_1, va_up, zn]
  simp only [e]
theorem fe_72 (B : Nat) (cA : Nat → ClassId) (F : CF) : ce B cA hI 72 (20, 6) = ceE B cA (pf_52 (pf_51 F) 72) := by rw [fc_72, ce_int, ceE_int]; exact congrArg (fun f => Sum.inl (cA 0, 6, Sum.inl f)) (rfl : hI 72 = z0)
theorem fe_73 (B : Nat) (cA : Nat → ClassId) (F : CF) : ce B cA hI 73 (1, 8) = ceE B cA (pf_52 (pf_51 F) 73) := by rw [fc_73]; rfl
theorem fe_74 (B : Nat) (cA : Nat → ClassId) (F : CF) : ce B cA hI 74 (20, 132) = ceE B cA (pf_52 (pf_51 F) 74) := by rw [fc_74, ce_int, ceE_int]; exact congrArg (fun f => Sum.inl (cA 0, 132, Sum.inl f)) (rfl : hI 74 = z0)
