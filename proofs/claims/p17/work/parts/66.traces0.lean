/-! the constructors, instance by instance, as they run. Printed by wip/gen/p65.py -/
def wr (F : CF) (l : List (Nat × CE)) : CF := l.foldl (fun F q => sF F q.1 q.2) F
noncomputable def pf_1 (F : CF) : CF := wr F [(1, (1, 8, df_1, z0, zn)), (2, (20, 132, [], z0, zn)), (1, (1, 8, [.ref 2, .int 0, .int 0, .int 0, .int 0, .int 0, .int 0, .int 0], z0, zn))]
set_option maxRecDepth 40000 in
theorem kx_1 (G : GG) (d : Nat) (F : CF) : Kc G tB_init d 1 132 [.ref (gB G + 1)] 2 (sF F 1 (1, 8, df_1, z0, zn)) 3 (pf_1 F) := by
  refine K_of_Vc (by decide) rfl (by simp [cat_i, cat_r]) (by simp [tB_init]) ?_
  refine c_aload (i := 0) dB_init_0 rfl ?_
  refine c_obj dB_init_1 mlB_3 (Nat.le_of_ble_eq_true rfl) ?_
  refine c_aload (i := 0) dB_init_4 rfl ?_
  refine c_sipush (x := 132) dB_init_5 rfl ?_
  refine c_newi (N := 132) dB_init_8 ar_i (by decide) rfl (by decide) (Nat.le_of_ble_eq_true rfl) (Nat.le_of_ble_eq_true rfl) ?_
  refine c_put (w := .ref 2) (cc := (1, 8, [.ref 2, .int 0, .int 0, .int 0, .int 0, .int 0, .int 0, .int 0], z0, zn)) dB_init_10 fuB_11 ⟨_, _, _, _, rfl, rfl, rfl, rfl⟩ hc_1 (Nat.le_of_ble_eq_true rfl) rfl (Nat.le_of_ble_eq_true rfl) rfl rfl ?_
  exact c_ret dB_init_13 rfl rfl
noncomputable def pf_2 (F : CF) : CF := wr F [(3, (1, 8, df_1, z0, zn)), (4, (20, 132, [], z0, zn)), (3, (1, 8, [.ref 4, .int 0, .int 0, .int 0, .int 0, .int 0, .int 0, .int 0], z0, zn))]
set_option maxRecDepth 40000 in
theorem kx_2 (G : GG) (d : Nat) (F : CF) : Kc G tB_init d 1 132 [.ref (gB G + 3)] 4 (sF F 3 (1, 8, df_1, z0, zn)) 5 (pf_2 F) := by
  refine K_of_Vc (by decide) rfl (by simp [cat_i, cat_r]) (by simp [tB_init]) ?_
  refine c_aload (i := 0) dB_init_0 rfl ?_
  refine c_obj dB_init_1 mlB_3 (Nat.le_of_ble_eq_true rfl) ?_
  refine c_aload (i := 0) dB_init_4 rfl ?_
  refine c_sipush (x := 132) dB_init_5 rfl ?_
  refine c_newi (N := 132) dB_init_8 ar_i (by decide) rfl (by decide) (Nat.le_of_ble_eq_true rfl) (Nat.le_of_ble_eq_true rfl) ?_
  refine c_put (w := .ref 4) (cc := (1, 8, [.ref 4, .int 0, .int 0, .int 0, .int 0, .int 0, .int 0, .int 0], z0, zn)) dB_init_10 fuB_11 ⟨_, _, _, _, rfl, rfl, rfl, rfl⟩ hc_1 (Nat.le_of_ble_eq_true rfl) rfl (Nat.le_of_ble_eq_true rfl) rfl rfl ?_
  exact c_ret dB_init_13 rfl rfl
noncomputable def pf_3 (F : CF) : CF := wr F [(6, (6, 4, df_6, z0, zn)), (6, (6, 4, [.int 16, .int 0, .null, .int 0], z0, zn)), (6, (6, 4, [.int 16, .int 5, .null, .int 0], z0, zn)), (7, (20, 80, [], z0, zn)), (6, (6, 4, [.int 16, .int 5, .ref 7, .int 0], z0, zn)), (6, (6, 4, [.int 16, .int 5, .ref 7, .int 0], z0, zn))]
set_option maxRecDepth 40000 in
theorem kx_3 (G : GG) (d : Nat) (F : CF) : Kc G tR_init d 1 80 [.ref (gB G + 6), .int 16, .int 5] 7 (sF F 6 (6, 4, df_6, z0, zn)) 8 (pf_3 F) := by
  refine K_of_Vc (by decide) rfl (by simp [cat_i, cat_r]) (by simp [tR_init]) ?_
  refine c_aload (i := 0) dR_init_0 rfl ?_
  refine c_obj dR_init_1 mlR_3 (Nat.le_of_ble_eq_true rfl) ?_
  refine c_aload (i := 0) dR_init_4 rfl ?_
  refine c_iload (i := 1) dR_init_5 rfl ?_
  refine c_iconst (x := 0) dR_init_6 rfl ?_
  refine c_mmax (z := 16) dR_init_7 mlR_9 rfl (Nat.le_of_ble_eq_true rfl) (Nat.le_of_ble_eq_true rfl) (Nat.le_of_ble_eq_true rfl) ?_
  refine c_put (w := .int 16) (cc := (6, 4, [.int 16, .int 0, .null, .int 0], z0, zn)) dR_init_10 fuR_15 ⟨_, _, _, _, rfl, rfl, rfl, rfl⟩ hc_6 (Nat.le_of_ble_eq_true rfl) rfl (Nat.le_of_ble_eq_true rfl) rfl rfl ?_
  refine c_aload (i := 0) dR_init_13 rfl ?_
  refine c_iload (i := 2) dR_init_14 rfl ?_
  refine c_iconst (x := 1) dR_init_15 rfl ?_
  refine c_mmax (z := 5) dR_init_16 mlR_9 rfl (Nat.le_of_ble_eq_true rfl) (Nat.le_of_ble_eq_true rfl) (Nat.le_of_ble_eq_true rfl) ?_
  refine c_put (w := .int 5) (cc := (6, 4, [.int 16, .int 5, .null, .int 0], z0, zn)) dR_init_19 fuR_21 ⟨_, _, _, _, rfl, rfl, rfl, rfl⟩ hc_6 (Nat.le_of_ble_eq_true rfl) rfl (Nat.le_of_ble_eq_true rfl) rfl rfl ?_
  refine c_aload (i := 0) dR_init_22 rfl ?_
  refine c_aload (i := 0) dR_init_23 rfl ?_
  refine c_get (w := .int 16) (w' := .int 16) dR_init_24 fuR_15 (Nat.le_of_ble_eq_true rfl) rfl rfl rfl ?_
  refine c_aload (i := 0) dR_init_27 rfl ?_
  refine c_get (w := .int 5) (w' := .int 5) dR_init_28 fuR_21 (Nat.le_of_ble_eq_true rfl) rfl rfl rfl ?_
  refine c_imul (z := 80) dR_init_31 rfl ?_
  refine c_newi (N := 80) dR_init_32 ar_i (by decide) rfl (by decide) (Nat.le_of_ble_eq_true rfl) (Nat.le_of_ble_eq_true rfl) ?_
  refine c_put (w := .ref 7) (cc := (6, 4, [.int 16, .int 5, .ref 7, .int 0], z0, zn)) dR_init_34 fuR_24 ⟨_, _, _, _, rfl, rfl, rfl, rfl⟩ hc_6 (Nat.le_of_ble_eq_true rfl) rfl (Nat.le_of_ble_eq_true rfl) rfl rfl ?_
  refine c_aload (i := 0) dR_init_37 rfl ?_
  refine c_iconst (x := 0) dR_init_38 rfl ?_
  refine c_put (w := .int 0) (cc := (6, 4, [.int 16, .int 5, .ref 7, .int 0], z0, zn)) dR_init_39 fuR_28 ⟨_, _, _, _, rfl, rfl, rfl, rfl⟩ hc_6 (Nat.le_of_ble_eq_true rfl) rfl (Nat.le_of_ble_eq_true rfl) rfl rfl ?_
  exact c_ret dR_init_42 rfl rfl
noncomputable def pf_4 (F : CF) : CF := wr F [(8, (6, 4, df_6, z0, zn)), (8, (6, 4, [.int 400, .int 0, .null, .int 0], z0, zn)), (8, (6, 4, [.int 400, .int 2, .null, .int 0], z0, zn)), (9, (20, 800, [], z0, zn)), (8, (6, 4, [.int 400, .int 2, .ref 9, .int 0], z0, zn)), (8, (6, 4, [.int 400, .int 2, .ref 9, .int 0], z0, zn))]
set_option maxRecDepth 40000 in
theorem kx_4 (G : GG) (d : Nat) (F : CF) : Kc G tR_init d 1 800 [.ref (gB G + 8), .int 400, .int 2] 9 (sF F 8 (6, 4, df_6, z0, zn)) 10 (pf_4 F) := by
  refine K_of_Vc (by decide) rfl (by simp [cat_i, cat_r]) (by simp [tR_init]) ?_
  refine c_aload (i := 0) dR_init_0 rfl ?_
  refine c_obj dR_init_1 mlR_3 (Nat.le_of_ble_eq_true rfl) ?_
  refine c_aload (i := 0) dR_init_4 rfl ?_
  refine c_iload (i := 1) dR_init_5 rfl ?_
  refine c_iconst (x := 0) dR_init_6 rfl ?_
  refine c_mmax (z := 400) dR_init_7 mlR_9 rfl (Nat.le_of_ble_eq_true rfl) (Nat.le_of_ble_eq_true rfl) (Nat.le_of_ble_eq_true rfl) ?_
  refine c_put (w := .int 400) (cc := (6, 4, [.int 400, .int 0, .null, .int 0], z0, zn)) dR_init_10 fuR_15 ⟨_, _, _, _, rfl, rfl, rfl, rfl⟩ hc_6 (Nat.le_of_ble_eq_true rfl) rfl (Nat.le_of_ble_eq_true rfl) rfl rfl ?_
  refine c_aload (i := 0) dR_init_13 rfl ?_
  refine c_iload (i := 2) dR_init_14 rfl ?_
  refine c_iconst (x := 1) dR_init_15 rfl ?_
  refine c_mmax (z := 2) dR_init_16 mlR_9 rfl (Nat.le_of_ble_eq_true rfl) (Nat.le_of_ble_eq_true rfl) (Nat.le_of_ble_eq_true rfl) ?_
  refine c_put (w := .int 2) (cc := (6, 4, [.int 400, .int 2, .null, .int 0], z0, zn)) dR_init_19 fuR_21 ⟨_, _, _, _, rfl, rfl, rfl, rfl⟩ hc_6 (Nat.le_of_ble_eq_true rfl) rfl (Nat.le_of_ble_eq_true rfl) rfl rfl ?_
  refine c_aload (i := 0) dR_init_22 rfl ?_
  refine c_aload (i := 0) dR_init_23 rfl ?_
  refine c_get (w := .int 400) (w' := .int 400) dR_init_24 fuR_15 (Nat.le_of_ble_eq_true rfl) rfl rfl rfl ?_
  refine c_aload (i := 0) dR_init_27 rfl ?_
  refine c_get (w := .int 2) (w' := .int 2) dR_init_28 fuR_21 (Nat.le_of_ble_eq_true rfl) rfl rfl rfl ?_
  refine c_imul (z := 800) dR_init_31 rfl ?_
  refine c_newi (N := 800) dR_init_32 ar_i (by decide) rfl (by decide) (Nat.le_of_ble_eq_true rfl) (Nat.le_of_ble_eq_true rfl) ?_
  refine c_put (w := .ref 9) (cc := (6, 4, [.int 400, .int 2, .ref 9, .int 0], z0, zn)) dR_init_34 fuR_24 ⟨_, _, _, _, rfl, rfl, rfl, rfl⟩ hc_6 (Nat.le_of_ble_eq_true rfl) rfl (Nat.le_of_ble_eq_true rfl) rfl rfl ?_
  refine c_aload (i := 0) dR_init_37 rfl ?_
  refine c_iconst (x := 0) dR_init_38 rfl ?_
  refine c_put (w := .int 0) (cc := (6, 4, [.int 400, .int 2, .ref 9, .int 0], z0, zn)) dR_init_39 fuR_28 ⟨_, _, _, _, rfl, rfl, rfl, rfl⟩ hc_6 (Nat.le_of_ble_eq_true rfl) rfl (Nat.le_of_ble_eq_true rfl) rfl rfl ?_
  exact c_ret dR_init_42 rfl rfl
noncomputable def pf_5 (F : CF) : CF := wr F [(10, (6, 4, df_6, z0, zn)), (10, (6, 4, [.int 16, .int 0, .null, .int 0], z0, zn)), (10, (6, 4, [.int 16, .int 5, .null, .int 0], z0, zn)), (11, (20, 80, [], z0, zn)), (10, (6, 4, [.int 16, .int 5, .ref 11, .int 0], z0, zn)), (10, (6, 4, [.int 16, .int 5, .ref 11, .int 0], z0, zn))]
set_option maxRecDepth 40000 in
theorem kx_5 (G : GG) (d : Nat) (F : CF) : Kc G tR_init d 1 80 [.ref (gB G + 10), .int 16, .int 5] 11 (sF F 10 (6, 4, df_6, z0, zn)) 12 (pf_5 F) := by
  refine K_of_Vc (by decide) rfl (by simp [cat_i, cat_r]) (by simp [tR_init]) ?_
  refine c_aload (i := 0) dR_init_0 rfl ?_
  refine c_obj dR_init_1 mlR_3 (Nat.le_of_ble_eq_true rfl) ?_
  refine c_aload (i := 0) dR_init_4 rfl ?_
  refine c_iload (i := 1) dR_init_5 rfl ?_
  refine c_iconst (x := 0) dR_init_6 rfl ?_
  refine c_mmax (z := 16) dR_init_7 mlR_9 rfl (Nat.le_of_ble_eq_true rfl) (Nat.le_of_ble_eq_true rfl) (Nat.le_of_ble_eq_true rfl) ?_
  refine c_put (w := .int 16) (cc := (6, 4, [.int 16, .int 0, .null, .int 0], z0, zn)) dR_init_10 fuR_15 ⟨_, _, _, _, rfl, rfl, rfl, rfl⟩ hc_6 (Nat.le_of_ble_eq_true rfl) rfl (Nat.le_of_ble_eq_true rfl) rfl rfl ?_
  refine c_aload (i := 0) dR_init_13 rfl ?_
  refine c_iload (i := 2) dR_init_14 rfl ?_
  refine c_iconst (x := 1) dR_init_15 rfl ?_
  refine c_mmax (z := 5) dR_init_16 mlR_9 rfl (Nat.le_of_ble_eq_true rfl) (Nat.le_of_ble_eq_true rfl) (Nat.le_of_ble_eq_true rfl) ?_
  refine c_put (w := .int 5) (cc := (6, 4, [.int 16, .int 5, .null, .int 0], z0, zn)) dR_init_19 fuR_21 ⟨_, _, _, _, rfl, rfl, rfl, rfl⟩ hc_6 (Nat.le_of_ble_eq_true rfl) rfl (Nat.le_of_ble_eq_true rfl) rfl rfl ?_
  refine c_aload (i := 0) dR_init_22 rfl ?_
  refine c_aload (i := 0) dR_init_23 rfl ?_
  refine c_get (w := .int 16) (w' := .int 16) dR_init_24 fuR_15 (Nat.le_of_ble_eq_true rfl) rfl rfl rfl ?_
  refine c_aload (i := 0) dR_init_27 rfl ?_
  refine c_get (w := .int 5) (w' := .int 5) dR_init_28 fuR_21 (Nat.le_of_ble_eq_true rfl) rfl rfl rfl ?_
  refine c_imul (z := 80) dR_init_31 rfl ?_
  refine c_newi (N := 80) dR_init_32 ar_i (by decide) rfl (by decide) (Nat.le_of_ble_eq_true rfl) (Nat.le_of_ble_eq_true rfl) ?_
  refine c_put (w := .ref 11) (cc := (6, 4, [.int 16, .int 5, .ref 11, .int 0], z0, zn)) dR_init_34 fuR_24 ⟨_, _, _, _, rfl, rfl, rfl, rfl⟩ hc_6 (Nat.le_of_ble_eq_true rfl) rfl (Nat.le_of_ble_eq_true rfl) rfl rfl ?_
  refine c_aload (i := 0) dR_init_37 rfl ?_
  refine c_iconst (x := 0) dR_init_38 rfl ?_
  refine c_put (w := .int 0) (cc := (6, 4, [.int 16, .int 5, .ref 11, .int 0], z0, zn)) dR_init_39 fuR_28 ⟨_, _, _, _, rfl, rfl, rfl, rfl⟩ hc_6 (Nat.le_of_ble_eq_true rfl) rfl (Nat.le_of_ble_eq_true rfl) rfl rfl ?_
  exact c_ret dR_init_42 rfl rfl
noncomputable def pf_6 (F : CF) : CF := wr F [(12, (6, 4, df_6, z0, zn)), (12, (6, 4, [.int 16, .int 0, .null, .int 0], z0, zn)), (12, (6, 4, [.int 16, .int 5, .null, .int 0], z0, zn)), (13, (20, 80, [], z0, zn)), (12, (6, 4, [.int 16, .int 5, .ref 13, .int 0], z0, zn)), (12, (6, 4, [.int 16, .int 5, .ref 13, .int 0], z0, zn))]
set_option maxRecDepth 40000 in
theorem kx_6 (G : GG) (d : Nat) (F : CF) : Kc G tR_init d 1 80 [.ref (gB G + 12), .int 16, .int 5] 13 (sF F 12 (6, 4, df_6, z0, zn)) 14 (pf_6 F) := by
  refine K_of_Vc (by decide) rfl (by simp [cat_i, cat_r]) (by simp [tR_init]) ?_
  refine c_aload (i := 0) dR_init_0 rfl ?_
  refine c_obj dR_init_1 mlR_3 (Nat.le_of_ble_eq_true rfl) ?_
  refine c_aload (i := 0) dR_init_4 rfl ?_
  refine c_iload (i := 1) dR_init_5 rfl ?_
  refine c_iconst (x := 0) dR_init_6 rfl ?_
  refine c_mmax (z := 16) dR_init_7 mlR_9 rfl (Nat.le_of_ble_eq_true rfl) (Nat.le_of_ble_eq_true rfl) (Nat.le_of_ble_eq_true rfl) ?_
  refine c_put (w := .int 16) (cc := (6, 4, [.int 16, .int 0, .null, .int 0], z0, zn)) dR_init_10 fuR_15 ⟨_, _, _, _, rfl, rfl, rfl, rfl⟩ hc_6 (Nat.le_of_ble_eq_true rfl) rfl (Nat.le_of_ble_eq_true rfl) rfl rfl ?_
  refine c_aload (i := 0) dR_init_13 rfl ?_
  refine c_iload (i := 2) dR_init_14 rfl ?_
  refine c_iconst (x := 1) dR_init_15 rfl ?_
  refine c_mmax (z := 5) dR_init_16 mlR_9 rfl (Nat.le_of_ble_eq_true rfl) (Nat.le_of_ble_eq_true rfl) (Nat.le_of_ble_eq_true rfl) ?_
  refine c_put (w := .int 5) (cc := (6, 4, [.int 16, .int 5, .null, .int 0], z0, zn)) dR_init_19 fuR_21 ⟨_, _, _, _, rfl, rfl, rfl, rfl⟩ hc_6 (Nat.le_of_ble_eq_true rfl) rfl (Nat.le_of_ble_eq_true rfl) rfl rfl ?_
  refine c_aload (i := 0) dR_init_22 rfl ?_
  refine c_aload (i := 0) dR_init_23 rfl ?_
  refine c_get (w := .int 16) (w' := .int 16) dR_init_24 fuR_15 (Nat.le_of_ble_eq_true rfl) rfl rfl rfl ?_
  refine c_aload (i := 0) dR_init_27 rfl ?_
  refine c_get (w := .int 5) (w' := .int 5) dR_init_28 fuR_21 (Nat.le_of_ble_eq_true rfl) rfl rfl rfl ?_
  refine c_imul (z := 80) dR_init_31 rfl ?_
  refine c_newi (N := 80) dR_init_32 ar_i (by decide) rfl (by decide) (Nat.le_of_ble_eq_true rfl) (Nat.le_of_ble_eq_true rfl) ?_
  refine c_put (w := .ref 13) (cc := (6, 4, [.int 16, .int 5, .ref 13, .int 0], z0, zn)) dR_init_34 fuR_24 ⟨_, _, _, _, rfl, rfl, rfl, rfl⟩ hc_6 (Nat.le_of_ble_eq_true rfl) rfl (Nat.le_of_ble_eq_true rfl) rfl rfl ?_
  refine c_aload (i := 0) dR_init_37 rfl ?_
  refine c_iconst (x := 0) dR_init_38 rfl ?_
  refine c_put (w := .int 0) (cc := (6, 4, [.int 16, .int 5, .ref 13, .int 0], z0, zn)) dR_init_39 fuR_28 ⟨_, _, _, _, rfl, rfl, rfl, rfl⟩ hc_6 (Nat.le_of_ble_eq_true rfl) rfl (Nat.le_of_ble_eq_true rfl) rfl rfl ?_
  exact c_ret dR_init_42 rfl rfl
noncomputable def pf_7 (F : CF) : CF := wr F [(14, (6, 4, df_6, z0, zn)), (14, (6, 4, [.int 16, .int 0, .null, .int 0], z0, zn)), (14, (6, 4, [.int 16, .int 5, .null, .int 0], z0, zn)), (15, (20, 80, [], z0, zn)), (14, (6, 4, [.int 16, .int 5, .ref 15, .int 0], z0, zn)), (14, (6, 4, [.int 16, .int 5, .ref 15, .int 0], z0, zn))]
set_option maxRecDepth 40000 in
theorem kx_7 (G : GG) (d : Nat) (F : CF) : Kc G tR_init d 1 80 [.ref (gB G + 14), .int 16, .int 5] 15 (sF F 14 (6, 4, df_6, z0, zn)) 16 (pf_7 F) := by
  refine K_of_Vc (by decide) rfl (by simp [cat_i, cat_r]) (by simp [tR_init]) ?_
  refine c_aload (i := 0) dR_init_0 rfl ?_
  refine c_obj dR_init_1 mlR_3 (Nat.le_of_ble_eq_true rfl) ?_
  refine c_aload (i := 0) dR_init_4 rfl ?_
  refine c_iload (i := 1) dR_init_5 rfl ?_
  refine c_iconst (x := 0) dR_init_6 rfl ?_
  refine c_mmax (z := 16) dR_init_7 mlR_9 rfl (Nat.le_of_ble_eq_true rfl) (Nat.le_of_ble_eq_true rfl) (Nat.le_of_ble_eq_true rfl) ?_
  refine c_put (w := .int 16) (cc := (6, 4, [.int 16, .int 0, .null, .int 0], z0, zn)) dR_init_10 fuR_15 ⟨_, _, _, _, rfl, rfl, rfl, rfl⟩ hc_6 (Nat.le_of_ble_eq_true rfl) rfl (Nat.le_of_ble_eq_true rfl) rfl rfl ?_
  refine c_aload (i := 0) dR_init_13 rfl ?_
  refine c_iload (i := 2) dR_init_14 rfl ?_
  refine c_iconst (x := 1) dR_init_15 rfl ?_
  refine c_mmax (z := 5) dR_init_16 mlR_9 rfl (Nat.le_of_ble_eq_true rfl) (Nat.le_of_ble_eq_true rfl) (Nat.le_of_ble_eq_true rfl) ?_
  refine c_put (w := .int 5) (cc := (6, 4, [.int 16, .int 5, .null, .int 0], z0, zn)) dR_init_19 fuR_21 ⟨_, _, _, _, rfl, rfl, rfl, rfl⟩ hc_6 (Nat.le_of_ble_eq_true rfl) rfl (Nat.le_of_ble_eq_true rfl) rfl rfl ?_
  refine c_aload (i := 0) dR_init_22 rfl ?_
  refine c_aload (i := 0) dR_init_23 rfl ?_
  refine c_get (w := .int 16) (w' := .int 16) dR_init_24 fuR_15 (Nat.le_of_ble_eq_true rfl) rfl rfl rfl ?_
  refine c_aload (i := 0) dR_init_27 rfl ?_
  refine c_get (w := .int 5) (w' := .int 5) dR_init_28 fuR_21 (Nat.le_of_ble_eq_true rfl) rfl rfl rfl ?_
  refine c_imul (z := 80) dR_init_31 rfl ?_
  refine c_newi (N := 80) dR_init_32 ar_i (by decide) rfl (by decide) (Nat.le_of_ble_eq_true rfl) (Nat.le_of_ble_eq_true rfl) ?_
  refine c_put (w := .ref 15) (cc := (6, 4, [.int 16, .int 5, .ref 15, .int 0], z0, zn)) dR_init_34 fuR_24 ⟨_, _, _, _, rfl, rfl, rfl, rfl⟩ hc_6 (Nat.le_of_ble_eq_true rfl) rfl (Nat.le_of_ble_eq_true rfl) rfl rfl ?_
  refine c_aload (i := 0) dR_init_37 rfl ?_
  refine c_iconst (x := 0) dR_init_38 rfl ?_
  refine c_put (w := .int 0) (cc := (6, 4, [.int 16, .int 5, .ref 15, .int 0], z0, zn)) dR_init_39 fuR_28 ⟨_, _, _, _, rfl, rfl, rfl, rfl⟩ hc_6 (Nat.le_of_ble_eq_true rfl) rfl (Nat.le_of_ble_eq_true rfl) rfl rfl ?_
  exact c_ret dR_init_42 rfl rfl
noncomputable def pf_8 (F : CF) : CF := wr F [(16, (6, 4, df_6, z0, zn)), (16, (6, 4, [.int 150, .int 0, .null, .int 0], z0, zn)), (16, (6, 4, [.int 150, .int 4, .null, .int 0], z0, zn)), (17, (20, 600, [], z0, zn)), (16, (6, 4, [.int 150, .int 4, .ref 17, .int 0], z0, zn)), (16, (6, 4, [.int 150, .int 4, .ref 17, .int 0], z0, zn))]
set_option maxRecDepth 40000 in
theorem kx_8 (G : GG) (d : Nat) (F : CF) : Kc G tR_init d 1 600 [.ref (gB G + 16), .int 150, .int 4] 17 (sF F 16 (6, 4, df_6, z0, zn)) 18 (pf_8 F) := by
  refine K_of_Vc (by decide) rfl (by simp [cat_i, cat_r]) (by simp [tR_init]) ?_
  refine c_aload (i := 0) dR_init_0 rfl ?_
  refine c_obj dR_init_1 mlR_3 (Nat.le_of_ble_eq_true rfl) ?_
  refine c_aload (i := 0) dR_init_4 rfl ?_
  refine c_iload (i := 1) dR_init_5 rfl ?_
  refine c_iconst (x := 0) dR_init_6 rfl ?_
  refine c_mmax (z := 150) dR_init_7 mlR_9 rfl (Nat.le_of_ble_eq_true rfl) (Nat.le_of_ble_eq_true rfl) (Nat.le_of_ble_eq_true rfl) ?_
  refine c_put (w := .int 150) (cc := (6, 4, [.int 150, .int 0, .null, .int 0], z0, zn)) dR_init_10 fuR_15 ⟨_, _, _, _, rfl, rfl, rfl, rfl⟩ hc_6 (Nat.le_of_ble_eq_true rfl) rfl (Nat.le_of_ble_eq_true rfl) rfl rfl ?_
  refine c_aload (i := 0) dR_init_13 rfl ?_
  refine c_iload (i := 2) dR_init_14 rfl ?_
  refine c_iconst (x := 1) dR_init_15 rfl ?_
  refine c_mmax (z := 4) dR_init_16 mlR_9 rfl (Nat.le_of_ble_eq_true rfl) (Nat.le_of_ble_eq_true rfl) (Nat.le_of_ble_eq_true rfl) ?_
  refine c_put (w := .int 4) (cc := (6, 4, [.int 150, .int 4, .null, .int 0], z0, zn)) dR_init_19 fuR_21 ⟨_, _, _, _, rfl, rfl, rfl, rfl⟩ hc_6 (Nat.le_of_ble_eq_true rfl) rfl (Nat.le_of_ble_eq_true rfl) rfl rfl ?_
  refine c_aload (i := 0) dR_init_22 rfl ?_
  refine c_aload (i := 0) dR_init_23 rfl ?_
  refine c_get (w := .int 150) (w' := .int 150) dR_init_24 fuR_15 (Nat.le_of_ble_eq_true rfl) rfl rfl rfl ?_
  refine c_aload (i := 0) dR_init_27 rfl ?_
  refine c_get (w := .int 4) (w' := .int 4) dR_init_28 fuR_21 (Nat.le_of_ble_eq_true rfl) rfl rfl rfl ?_
  refine c_imul (z := 600) dR_init_31 rfl ?_
  refine c_newi (N := 600) dR_init_32 ar_i (by decide) rfl (by decide) (Nat.le_of_ble_eq_true rfl) (Nat.le_of_ble_eq_true rfl) ?_
  refine c_put (w := .ref 17) (cc := (6, 4, [.int 150, .int 4, .ref 17, .int 0], z0, zn)) dR_init_34 fuR_24 ⟨_, _, _, _, rfl, rfl, rfl, rfl⟩ hc_6 (Nat.le_of_ble_eq_true rfl) rfl (Nat.le_of_ble_eq_true rfl) rfl rfl ?_
  refine c_aload (i := 0) dR_init_37 rfl ?_
  refine c_iconst (x := 0) dR_init_38 rfl ?_
  refine c_put (w := .int 0) (cc := (6, 4, [.int 150, .int 4, .ref 17, .int 0], z0, zn)) dR_init_39 fuR_28 ⟨_, _, _, _, rfl, rfl, rfl, rfl⟩ hc_6 (Nat.le_of_ble_eq_true rfl) rfl (Nat.le_of_ble_eq_true rfl) rfl rfl ?_
  exact c_ret dR_init_42 rfl rfl
noncomputable def pf_9 (F : CF) : CF := wr F [(18, (6, 4, df_6, z0, zn)), (18, (6, 4, [.int 9, .int 0, .null, .int 0], z0, zn)), (18, (6, 4, [.int 9, .int 1, .null, .int 0], z0, zn)), (19, (20, 9, [], z0, zn)), (18, (6, 4, [.int 9, .int 1, .ref 19, .int 0], z0, zn)), (18, (6, 4, [.int 9, .int 1, .ref 19, .int 0], z0, zn))]
set_option maxRecDepth 40000 in
theorem kx_9 (G : GG) (d : Nat) (F : CF) : Kc G tR_init d 1 9 [.ref (gB G + 18), .int 9, .int 1] 19 (sF F 18 (6, 4, df_6, z0, zn)) 20 (pf_9 F) := by
  refine K_of_Vc (by decide) rfl (by simp [cat_i, cat_r]) (by simp [tR_init]) ?_
  refine c_aload (i := 0) dR_init_0 rfl ?_
  refine c_obj dR_init_1 mlR_3 (Nat.le_of_ble_eq_true rfl) ?_
  refine c_aload (i := 0) dR_init_4 rfl ?_
  refine c_iload (i := 1) dR_init_5 rfl ?_
  refine c_iconst (x := 0) dR_init_6 rfl ?_
  refine c_mmax (z := 9) dR_init_7 mlR_9 rfl (Nat.le_of_ble_eq_true rfl) (Nat.le_of_ble_eq_true rfl) (Nat.le_of_ble_eq_true rfl) ?_
  refine c_put (w := .int 9) (cc := (6, 4, [.int 9, .int 0, .null, .int 0], z0, zn)) dR_init_10 fuR_15 ⟨_, _, _, _, rfl, rfl, rfl, rfl⟩ hc_6 (Nat.le_of_ble_eq_true rfl) rfl (Nat.le_of_ble_eq_true rfl) rfl rfl ?_
  refine c_aload (i := 0) dR_init_13 rfl ?_
  refine c_iload (i := 2) dR_init_14 rfl ?_
  refine c_iconst (x := 1) dR_init_15 rfl ?_
  refine c_mmax (z := 1) dR_init_16 mlR_9 rfl (Nat.le_of_ble_eq_true rfl) (Nat.le_of_ble_eq_true rfl) (Nat.le_of_ble_eq_true rfl) ?_
  refine c_put (w := .int 1) (cc := (6, 4, [.int 9, .int 1, .null, .int 0], z0, zn)) dR_init_19 fuR_21 ⟨_, _, _, _, rfl, rfl, rfl, rfl⟩ hc_6 (Nat.le_of_ble_eq_true rfl) rfl (Nat.le_of_ble_eq_true rfl) rfl rfl ?_
  refine c_aload (i := 0) dR_init_22 rfl ?_
  refine c_aload (i := 0) dR_init_23 rfl ?_
  refine c_get (w := .int 9) (w' := .int 9) dR_init_24 fuR_15 (Nat.le_of_ble_eq_true rfl) rfl rfl rfl ?_
  refine c_aload (i := 0) dR_init_27 rfl ?_
  refine c_get (w := .int 1) (w' := .int 1) dR_init_28 fuR_21 (Nat.le_of_ble_eq_true rfl) rfl rfl rfl ?_
  refine c_imul (z := 9) dR_init_31 rfl ?_
  refine c_newi (N := 9) dR_init_32 ar_i (by decide) rfl (by decide) (Nat.le_of_ble_eq_true rfl) (Nat.le_of_ble_eq_true rfl) ?_
  refine c_put (w := .ref 19) (cc := (6, 4, [.int 9, .int 1, .ref 19, .int 0], z0, zn)) dR_init_34 fuR_24 ⟨_, _, _, _, rfl, rfl, rfl, rfl⟩ hc_6 (Nat.le_of_ble_eq_true rfl) rfl (Nat.le_of_ble_eq_true rfl) rfl rfl ?_
  refine c_aload (i := 0) dR_init_37 rfl ?_
  refine c_iconst (x := 0) dR_init_38 rfl ?_
  refine c_put (w := .int 0) (cc := (6, 4, [.int 9, .int 1, .ref 19, .int 0], z0, zn)) dR_init_39 fuR_28 ⟨_, _, _, _, rfl, rfl, rfl, rfl⟩ hc_6 (Nat.le_of_ble_eq_true rfl) rfl (Nat.le_of_ble_eq_true rfl) rfl rfl ?_
  exact c_ret dR_init_42 rfl rfl
noncomputable def pf_10 (F : CF) : CF := wr F [(20, (6, 4, df_6, z0, zn)), (20, (6, 4, [.int 8, .int 0, .null, .int 0], z0, zn)), (20, (6, 4, [.int 8, .int 1, .null, .int 0], z0, zn)), (21, (20, 8, [], z0, zn)), (20, (6, 4, [.int 8, .int 1, .ref 21, .int 0], z0, zn)), (20, (6, 4, [.int 8, .int 1, .ref 21, .int 0], z0, zn))]
set_option maxRecDepth 40000 in
theorem kx_10 (G : GG) (d : Nat) (F : CF) : Kc G tR_init d 1 8 [.ref (gB G + 20), .int 8, .int 1] 21 (sF F 20 (6, 4, df_6, z0, zn)) 22 (pf_10 F) := by
  refine K_of_Vc (by decide) rfl (by simp [cat_i, cat_r]) (by simp [tR_init]) ?_
  refine c_aload (i := 0) dR_init_0 rfl ?_
  refine c_obj dR_init_1 mlR_3 (Nat.le_of_ble_eq_true rfl) ?_
  refine c_aload (i := 0) dR_init_4 rfl ?_
  refine c_iload (i := 1) dR_init_5 rfl ?_
  refine c_iconst (x := 0) dR_init_6 rfl ?_
  refine c_mmax (z := 8) dR_init_7 mlR_9 rfl (Nat.le_of_ble_eq_true rfl) (Nat.le_of_ble_eq_true rfl) (Nat.le_of_ble_eq_true rfl) ?_
  refine c_put (w := .int 8) (cc := (6, 4, [.int 8, .int 0, .null, .int 0], z0, zn)) dR_init_10 fuR_15 ⟨_, _, _, _, rfl, rfl, rfl, rfl⟩ hc_6 (Nat.le_of_ble_eq_true rfl) rfl (Nat.le_of_ble_eq_true rfl) rfl rfl ?_
  refine c_aload (i := 0) dR_init_13 rfl ?_
  refine c_iload (i := 2) dR_init_14 rfl ?_
  refine c_iconst (x := 1) dR_init_15 rfl ?_
  refine c_mmax (z := 1) dR_init_16 mlR_9 rfl (Nat.le_of_ble_eq_true rfl) (Nat.le_of_ble_eq_true rfl) (Nat.le_of_ble_eq_true rfl) ?_
  refine c_put (w := .int 1) (cc := (6, 4, [.int 8, .int 1, .null, .int 0], z0, zn)) dR_init_19 fuR_21 ⟨_, _, _, _, rfl, rfl, rfl, rfl⟩ hc_6 (Nat.le_of_ble_eq_true rfl) rfl (Nat.le_of_ble_eq_true rfl) rfl rfl ?_
  refine c_aload (i := 0) dR_init_22 rfl ?_
  refine c_aload (i := 0) dR_init_23 rfl ?_
  refine c_get (w := .int 8) (w' := .int 8) dR_init_24 fuR_15 (Nat.le_of_ble_eq_true rfl) rfl rfl rfl ?_
  refine c_aload (i := 0) dR_init_27 rfl ?_
  refine c_get (w := .int 1) (w' := .int 1) dR_init_28 fuR_21 (Nat.le_of_ble_eq_true rfl) rfl rfl rfl ?_
  refine c_imul (z := 8) dR_init_31 rfl ?_
  refine c_newi (N := 8) dR_init_32 ar_i (by decide) rfl (by decide) (Nat.le_of_ble_eq_true rfl) (Nat.le_of_ble_eq_true rfl) ?_
  refine c_put (w := .ref 21) (cc := (6, 4, [.int 8, .int 1, .ref 21, .int 0], z0, zn)) dR_init_34 fuR_24 ⟨_, _, _, _, rfl, rfl, rfl, rfl⟩ hc_6 (Nat.le_of_ble_eq_true rfl) rfl (Nat.le_of_ble_eq_true rfl) rfl rfl ?_
  refine c_aload (i := 0) dR_init_37 rfl ?_
  refine c_iconst (x := 0) dR_init_38 rfl ?_
  refine c_put (w := .int 0) (cc := (6, 4, [.int 8, .int 1, .ref 21, .int 0], z0, zn)) dR_init_39 fuR_28 ⟨_, _, _, _, rfl, rfl, rfl, rfl⟩ hc_6 (Nat.le_of_ble_eq_true rfl) rfl (Nat.le_of_ble_eq_true rfl) rfl rfl ?_
  exact c_ret dR_init_42 rfl rfl
noncomputable def pf_11 (F : CF) : CF := wr F [(22, (6, 4, df_6, z0, zn)), (22, (6, 4, [.int 5, .int 0, .null, .int 0], z0, zn)), (22, (6, 4, [.int 5, .int 1, .null, .int 0], z0, zn)), (23, (20, 5, [], z0, zn)), (22, (6, 4, [.int 5, .int 1, .ref 23, .int 0], z0, zn)), (22, (6, 4, [.int 5, .int 1, .ref 23, .int 0], z0, zn))]
set_option maxRecDepth 40000 in
theorem kx_11 (G : GG) (d : Nat) (F : CF) : Kc G tR_init d 1 5 [.ref (gB G + 22), .int 5, .int 1] 23 (sF F 22 (6, 4, df_6, z0, zn)) 24 (pf_11 F) := by
  refine K_of_Vc (by decide) rfl (by simp [cat_i, cat_r]) (by simp [tR_init]) ?_
  refine c_aload (i := 0) dR_init_0 rfl ?_
  refine c_obj dR_init_1 mlR_3 (Nat.le_of_ble_eq_true rfl) ?_
  refine c_aload (i := 0) dR_init_4 rfl ?_
  refine c_iload (i := 1) dR_init_5 rfl ?_
  refine c_iconst (x := 0) dR_init_6 rfl ?_
  refine c_mmax (z := 5) dR_init_7 mlR_9 rfl (Nat.le_of_ble_eq_true rfl) (Nat.le_of_ble_eq_true rfl) (Nat.le_of_ble_eq_true rfl) ?_
  refine c_put (w := .int 5) (cc := (6, 4, [.int 5, .int 0, .null, .int 0], z0, zn)) dR_init_10 fuR_15 ⟨_, _, _, _, rfl, rfl, rfl, rfl⟩ hc_6 (Nat.le_of_ble_eq_true rfl) rfl (Nat.le_of_ble_eq_true rfl) rfl rfl ?_
  refine c_aload (i := 0) dR_init_13 rfl ?_
  refine c_iload (i := 2) dR_init_14 rfl ?_
  refine c_iconst (x := 1) dR_init_15 rfl ?_
  refine c_mmax (z := 1) dR_init_16 mlR_9 rfl (Nat.le_of_ble_eq_true rfl) (Nat.le_of_ble_eq_true rfl) (Nat.le_of_ble_eq_true rfl) ?_
  refine c_put (w := .int 1) (cc := (6, 4, [.int 5, .int 1, .null, .int 0], z0, zn)) dR_init_19 fuR_21 ⟨_, _, _, _, rfl, rfl, rfl, rfl⟩ hc_6 (Nat.le_of_ble_eq_true rfl) rfl (Nat.le_of_ble_eq_true rfl) rfl rfl ?_
  refine c_aload (i := 0) dR_init_22 rfl ?_
  refine c_aload (i := 0) dR_init_23 rfl ?_
  refine c_get (w := .int 5) (w' := .int 5) dR_init_24 fuR_15 (Nat.le_of_ble_eq_true rfl) rfl rfl rfl ?_
  refine c_aload (i := 0) dR_init_27 rfl ?_
  refine c_get (w := .int 1) (w' := .int 1) dR_init_28 fuR_21 (Nat.le_of_ble_eq_true rfl) rfl rfl rfl ?_
  refine c_imul (z := 5) dR_init_31 rfl ?_
  refine c_newi (N := 5) dR_init_32 ar_i (by decide) rfl (by decide) (Nat.le_of_ble_eq_true rfl) (Nat.le_of_ble_eq_true rfl) ?_
  refine c_put (w := .ref 23) (cc := (6, 4, [.int 5, .int 1, .ref 23, .int 0], z0, zn)) dR_init_34 fuR_24 ⟨_, _, _, _, rfl, rfl, rfl, rfl⟩ hc_6 (Nat.le_of_ble_eq_true rfl) rfl (Nat.le_of_ble_eq_true rfl) rfl rfl ?_
  refine c_aload (i := 0) dR_init_37 rfl ?_
  refine c_iconst (x := 0) dR_init_38 rfl ?_
  refine c_put (w := .int 0) (cc := (6, 4, [.int 5, .int 1, .ref 23, .int 0], z0, zn)) dR_init_39 fuR_28 ⟨_, _, _, _, rfl, rfl, rfl, rfl⟩ hc_6 (Nat.le_of_ble_eq_true rfl) rfl (Nat.le_of_ble_eq_true rfl) rfl rfl ?_
  exact c_ret dR_init_42 rfl rfl
noncomputable def pf_12 (F : CF) : CF := wr F [(24, (6, 4, df_6, z0, zn)), (24, (6, 4, [.int 8, .int 0, .null, .int 0], z0, zn)), (24, (6, 4, [.int 8, .int 2, .null, .int 0], z0, zn)), (25, (20, 16, [], z0, zn)), (24, (6, 4, [.int 8, .int 2, .ref 25, .int 0], z0, zn)), (24, (6, 4, [.int 8, .int 2, .ref 25, .int 0], z0, zn))]
set_option maxRecDepth 40000 in
theorem kx_12 (G : GG) (d : Nat) (F : CF) : Kc G tR_init d 1 16 [.ref (gB G + 24), .int 8, .int 2] 25 (sF F 24 (6, 4, df_6, z0, zn)) 26 (pf_12 F) := by
  refine K_of_Vc (by decide) rfl (by simp [cat_i, cat_r]) (by simp [tR_init]) ?_
  refine c_aload (i := 0) dR_init_0 rfl ?_
  refine c_obj dR_init_1 mlR_3 (Nat.le_of_ble_eq_true rfl) ?_
  refine c_aload (i := 0) dR_init_4 rfl ?_
  refine c_iload (i := 1) dR_init_5 rfl ?_
  refine c_iconst (x := 0) dR_init_6 rfl ?_
  refine c_mmax (z := 8) dR_init_7 mlR_9 rfl (Nat.le_of_ble_eq_true rfl) (Nat.le_of_ble_eq_true rfl) (Nat.le_of_ble_eq_true rfl) ?_
  refine c_put (w := .int 8) (cc := (6, 4, [.int 8, .int 0, .null, .int 0], z0, zn)) dR_init_10 fuR_15 ⟨_, _, _, _, rfl, rfl, rfl, rfl⟩ hc_6 (Nat.le_of_ble_eq_true rfl) rfl (Nat.le_of_ble_eq_true rfl) rfl rfl ?_
  refine c_aload (i := 0) dR_init_13 rfl ?_
  refine c_iload (i := 2) dR_init_14 rfl ?_
  refine c_iconst (x := 1) dR_init_15 rfl ?_
  refine c_mmax (z := 2) dR_init_16 mlR_9 rfl (Nat.le_of_ble_eq_true rfl) (Nat.le_of_ble_eq_true rfl) (Nat.le_of_ble_eq_true rfl) ?_
  refine c_put (w := .int 2) (cc := (6, 4, [.int 8, .int 2, .null, .int 0], z0, zn)) dR_init_19 fuR_21 ⟨_, _, _, _, rfl, rfl, rfl, rfl⟩ hc_6 (Nat.le_of_ble_eq_true rfl) rfl (Nat.le_of_ble_eq_true rfl) rfl rfl ?_
  refine c_aload (i := 0) dR_init_22 rfl ?_
  refine c_aload (i := 0) dR_init_23 rfl ?_
  refine c_get (w := .int 8) (w' := .int 8) dR_init_24 fuR_15 (Nat.le_of_ble_eq_true rfl) rfl rfl rfl ?_
  refine c_aload (i := 0) dR_init_27 rfl ?_
  refine c_get (w := .int 2) (w' := .int 2) dR_init_28 fuR_21 (Nat.le_of_ble_eq_true rfl) rfl rfl rfl ?_
  refine c_imul (z := 16) dR_init_31 rfl ?_
  refine c_newi (N := 16) dR_init_32 ar_i (by decide) rfl (by decide) (Nat.le_of_ble_eq_true rfl) (Nat.le_of_ble_eq_true rfl) ?_
  refine c_put (w := .ref 25) (cc := (6, 4, [.int 8, .int 2, .ref 25, .int 0], z0, zn)) dR_init_34 fuR_24 ⟨_, _, _, _, rfl, rfl, rfl, rfl⟩ hc_6 (Nat.le_of_ble_eq_true rfl) rfl (Nat.le_of_ble_eq_true rfl) rfl rfl ?_
  refine c_aload (i := 0) dR_init_37 rfl ?_
  refine c_iconst (x := 0) dR_init_38 rfl ?_
  refine c_put (w := .int 0) (cc := (6, 4, [.int 8, .int 2, .ref 25, .int 0], z0, zn)) dR_init_39 fuR_28 ⟨_, _, _, _, rfl, rfl, rfl, rfl⟩ hc_6 (Nat.le_of_ble_eq_true rfl) rfl (Nat.le_of_ble_eq_true rfl) rfl rfl ?_
  exact c_ret dR_init_42 rfl rfl
noncomputable def pf_13 (F : CF) : CF := wr F [(26, (6, 4, df_6, z0, zn)), (26, (6, 4, [.int 16, .int 0, .null, .int 0], z0, zn)), (26, (6, 4, [.int 16, .int 1, .null, .int 0], z0, zn)), (27, (20, 16, [], z0, zn)), (26, (6, 4, [.int 16, .int 1, .ref 27, .int 0], z0, zn)), (26, (6, 4, [.int 16, .int 1, .ref 27, .int 0], z0, zn))]
set_option maxRecDepth 40000 in
theorem kx_13 (G : GG) (d : Nat) (F : CF) : Kc G tR_init d 1 16 [.ref (gB G + 26), .int 16, .int 1] 27 (sF F 26 (6, 4, df_6, z0, zn)) 28 (pf_13 F) := by
  refine K_of_Vc (by decide) rfl (by simp [cat_i, cat_r]) (by simp [tR_init]) ?_
  refine c_aload (i := 0) dR_init_0 rfl ?_
  refine c_obj dR_init_1 mlR_3 (Nat.le_of_ble_eq_true rfl) ?_
  refine c_aload (i := 0) dR_init_4 rfl ?_
  refine c_iload (i := 1) dR_init_5 rfl ?_
  refine c_iconst (x := 0) dR_init_6 rfl ?_
  refine c_mmax (z := 16) dR_init_7 mlR_9 rfl (Nat.le_of_ble_eq_true rfl) (Nat.le_of_ble_eq_true rfl) (Nat.le_of_ble_eq_true rfl) ?_
  refine c_put (w := .int 16) (cc := (6, 4, [.int 16, .int 0, .null, .int 0], z0, zn)) dR_init_10 fuR_15 ⟨_, _, _, _, rfl, rfl, rfl, rfl⟩ hc_6 (Nat.le_of_ble_eq_true rfl) rfl (Nat.le_of_ble_eq_true rfl) rfl rfl ?_
  refine c_aload (i := 0) dR_init_13 rfl ?_
  refine c_iload (i := 2) dR_init_14 rfl ?_
  refine c_iconst (x := 1) dR_init_15 rfl ?_
  refine c_mmax (z := 1) dR_init_16 mlR_9 rfl (Nat.le_of_ble_eq_true rfl) (Nat.le_of_ble_eq_true rfl) (Nat.le_of_ble_eq_true rfl) ?_
  refine c_put (w := .int 1) (cc := (6, 4, [.int 16, .int 1, .null, .int 0], z0, zn)) dR_init_19 fuR_21 ⟨_, _, _, _, rfl, rfl, rfl, rfl⟩ hc_6 (Nat.le_of_ble_eq_true rfl) rfl (Nat.le_of_ble_eq_true rfl) rfl rfl ?_
  refine c_aload (i := 0) dR_init_22 rfl ?_
  refine c_aload (i := 0) dR_init_23 rfl ?_
  refine c_get (w := .int 16) (w' := .int 16) dR_init_24 fuR_15 (Nat.le_of_ble_eq_true rfl) rfl rfl rfl ?_
  refine c_aload (i := 0) dR_init_27 rfl ?_
  refine c_get (w := .int 1) (w' := .int 1) dR_init_28 fuR_21 (Nat.le_of_ble_eq_true rfl) rfl rfl rfl ?_
  refine c_imul (z := 16) dR_init_31 rfl ?_
  refine c_newi (N := 16) dR_init_32 ar_i (by decide) rfl (by decide) (Nat.le_of_ble_eq_true rfl) (Nat.le_of_ble_eq_true rfl) ?_
  refine c_put (w := .ref 27) (cc := (6, 4, [.int 16, .int 1, .ref 27, .int 0], z0, zn)) dR_init_34 fuR_24 ⟨_, _, _, _, rfl, rfl, rfl, rfl⟩ hc_6 (Nat.le_of_ble_eq_true rfl) rfl (Nat.le_of_ble_eq_true rfl) rfl rfl ?_
  refine c_aload (i := 0) dR_init_37 rfl ?_
  refine c_iconst (x := 0) dR_init_38 rfl ?_
  refine c_put (w := .int 0) (cc := (6, 4, [.int 16, .int 1, .ref 27, .int 0], z0, zn)) dR_init_39 fuR_28 ⟨_, _, _, _, rfl, rfl, rfl, rfl⟩ hc_6 (Nat.le_of_ble_eq_true rfl) rfl (Nat.le_of_ble_eq_true rfl) rfl rfl ?_
  exact c_ret dR_init_42 rfl rfl
noncomputable def pf_14 (F : CF) : CF := wr F [(28, (6, 4, df_6, z0, zn)), (28, (6, 4, [.int 6, .int 0, .null, .int 0], z0, zn)), (28, (6, 4, [.int 6, .int 2, .null, .int 0], z0, zn)), (29, (20, 12, [], z0, zn)), (28, (6, 4, [.int 6, .int 2, .ref 29, .int 0], z0, zn)), (28, (6, 4, [.int 6, .int 2, .ref 29, .int 0], z0, zn))]
set_option maxRecDepth 40000 in
theorem kx_14 (G : GG) (d : Nat) (F : CF) : Kc G tR_init d 1 12 [.ref (gB G + 28), .int 6, .int 2] 29 (sF F 28 (6, 4, df_6, z0, zn)) 30 (pf_14 F) := by
  refine K_of_Vc (by decide) rfl (by simp [cat_i, cat_r]) (by simp [tR_init]) ?_
  refine c_aload (i := 0) dR_init_0 rfl ?_
  refine c_obj dR_init_1 mlR_3 (Nat.le_of_ble_eq_true rfl) ?_
  refine c_aload (i := 0) dR_init_4 rfl ?_
  refine c_iload (i := 1) dR_init_5 rfl ?_
  refine c_iconst (x := 0) dR_init_6 rfl ?_
  refine c_mmax (z := 6) dR_init_7 mlR_9 rfl (Nat.le_of_ble_eq_true rfl) (Nat.le_of_ble_eq_true rfl) (Nat.le_of_ble_eq_true rfl) ?_
  refine c_put (w := .int 6) (cc := (6, 4, [.int 6, .int 0, .null, .int 0], z0, zn)) dR_init_10 fuR_15 ⟨_, _, _, _, rfl, rfl, rfl, rfl⟩ hc_6 (Nat.le_of_ble_eq_true rfl) rfl (Nat.le_of_ble_eq_true rfl) rfl rfl ?_
  refine c_aload (i := 0) dR_init_13 rfl ?_
  refine c_iload (i := 2) dR_init_14 rfl ?_
  refine c_iconst (x := 1) dR_init_15 rfl ?_
  refine c_mmax (z := 2) dR_init_16 mlR_9 rfl (Nat.le_of_ble_eq_true rfl) (Nat.le_of_ble_eq_true rfl) (Nat.le_of_ble_eq_true rfl) ?_
  refine c_put (w := .int 2) (cc := (6, 4, [.int 6, .int 2, .null, .int 0], z0, zn)) dR_init_19 fuR_21 ⟨_, _, _, _, rfl, rfl, rfl, rfl⟩ hc_6 (Nat.le_of_ble_eq_true rfl) rfl (Nat.le_of_ble_eq_true rfl) rfl rfl ?_
  refine c_aload (i := 0) dR_init_22 rfl ?_
  refine c_aload (i := 0) dR_init_23 rfl ?_
  refine c_get (w := .int 6) (w' := .int 6) dR_init_24 fuR_15 (Nat.le_of_ble_eq_true rfl) rfl rfl rfl ?_
  refine c_aload (i := 0) dR_init_27 rfl ?_
  refine c_get (w := .int 2) (w' := .int 2) dR_init_28 fuR_21 (Nat.le_of_ble_eq_true rfl) rfl rfl rfl ?_
  refine c_imul (z := 12) dR_init_31 rfl ?_
  refine c_newi (N := 12) dR_init_32 ar_i (by decide) rfl (by decide) (Nat.le_of_ble_eq_true rfl) (Nat.le_of_ble_eq_true rfl) ?_
  refine c_put (w := .ref 29) (cc := (6, 4, [.int 6, .int 2, .ref 29, .int 0], z0, zn)) dR_init_34 fuR_24 ⟨_, _, _, _, rfl, rfl, rfl, rfl⟩ hc_6 (Nat.le_of_ble_eq_true rfl) rfl (Nat.le_of_ble_eq_true rfl) rfl rfl ?_
  refine c_aload (i := 0) dR_init_37 rfl ?_
  refine c_iconst (x := 0) dR_init_38 rfl ?_
  refine c_put (w := .int 0) (cc := (6, 4, [.int 6, .int 2, .ref 29, .int 0], z0, zn)) dR_init_39 fuR_28 ⟨_, _, _, _, rfl, rfl, rfl, rfl⟩ hc_6 (Nat.le_of_ble_eq_true rfl) rfl (Nat.le_of_ble_eq_true rfl) rfl rfl ?_
  exact c_ret dR_init_42 rfl rfl
noncomputable def pf_15 (F : CF) : CF := wr F [(30, (6, 4, df_6, z0, zn)), (30, (6, 4, [.int 12, .int 0, .null, .int 0], z0, zn)), (30, (6, 4, [.int 12, .int 2, .null, .int 0], z0, zn)), (31, (20, 24, [], z0, zn)), (30, (6, 4, [.int 12, .int 2, .ref 31, .int 0], z0, zn)), (30, (6, 4, [.int 12, .int 2, .ref 31, .int 0], z0, zn))]
set_option maxRecDepth 40000 in
theorem kx_15 (G : GG) (d : Nat) (F : CF) : Kc G tR_init d 1 24 [.ref (gB G + 30), .int 12, .int 2] 31 (sF F 30 (6, 4, df_6, z0, zn)) 32 (pf_15 F) := by
  refine K_of_Vc (by decide) rfl (by simp [cat_i, cat_r]) (by simp [tR_init]) ?_
  refine c_aload (i := 0) dR_init_0 rfl ?_
  refine c_obj dR_init_1 mlR_3 (Nat.le_of_ble_eq_true rfl) ?_
  refine c_aload (i := 0) dR_init_4 rfl ?_
  refine c_iload (i := 1) dR_init_5 rfl ?_
  refine c_iconst (x := 0) dR_init_6 rfl ?_
  refine c_mmax (z := 12) dR_init_7 mlR_9 rfl (Nat.le_of_ble_eq_true rfl) (Nat.le_of_ble_eq_true rfl) (Nat.le_of_ble_eq_true rfl) ?_
  refine c_put (w := .int 12) (cc := (6, 4, [.int 12, .int 0, .null, .int 0], z0, zn)) dR_init_10 fuR_15 ⟨_, _, _, _, rfl, rfl, rfl, rfl⟩ hc_6 (Nat.le_of_ble_eq_true rfl) rfl (Nat.le_of_ble_eq_true rfl) rfl rfl ?_
  refine c_aload (i := 0) dR_init_13 rfl ?_
  refine c_iload (i := 2) dR_init_14 rfl ?_
  refine c_iconst (x := 1) dR_init_15 rfl ?_
  refine c_mmax (z := 2) dR_init_16 mlR_9 rfl (Nat.le_of_ble_eq_true rfl) (Nat.le_of_ble_eq_true rfl) (Nat.le_of_ble_eq_true rfl) ?_
  refine c_put (w := .int 2) (cc := (6, 4, [.int 12, .int 2, .null, .int 0], z0, zn)) dR_init_19 fuR_21 ⟨_, _, _, _, rfl, rfl, rfl, rfl⟩ hc_6 (Nat.le_of_ble_eq_true rfl) rfl (Nat.le_of_ble_eq_true rfl) rfl rfl ?_
  refine c_aload (i := 0) dR_init_22 rfl ?_
  refine c_aload (i := 0) dR_init_23 rfl ?_
  refine c_get (w := .int 12) (w' := .int 12) dR_init_24 fuR_15 (Nat.le_of_ble_eq_true rfl) rfl rfl rfl ?_
  refine c_aload (i := 0) dR_init_27 rfl ?_
  refine c_get (w := .int 2) (w' := .int 2) dR_init_28 fuR_21 (Nat.le_of_ble_eq_true rfl) rfl rfl rfl ?_
  refine c_imul (z := 24) dR_init_31 rfl ?_
  refine c_newi (N := 24) dR_init_32 ar_i (by decide) rfl (by decide) (Nat.le_of_ble_eq_true rfl) (Nat.le_of_ble_eq_true rfl) ?_
  refine c_put (w := .ref 31) (cc := (6, 4, [.int 12, .int 2, .ref 31, .int 0], z0, zn)) dR_init_34 fuR_24 ⟨_, _, _, _, rfl, rfl, rfl, rfl⟩ hc_6 (Nat.le_of_ble_eq_true rfl) rfl (Nat.le_of_ble_eq_true rfl) rfl rfl ?_
  refine c_aload (i := 0) dR_init_37 rfl ?_
  refine c_iconst (x := 0) dR_init_38 rfl ?_
  refine c_put (w := .int 0) (cc := (6, 4, [.int 12, .int 2, .ref 31, .int 0], z0, zn)) dR_init_39 fuR_28 ⟨_, _, _, _, rfl, rfl, rfl, rfl⟩ hc_6 (Nat.le_of_ble_eq_true rfl) rfl (Nat.le_of_ble_eq_true rfl) rfl rfl ?_
  exact c_ret dR_init_42 rfl rfl
noncomputable def pf_16 (F : CF) : CF := wr F [(32, (6, 4, df_6, z0, zn)), (32, (6, 4, [.int 8, .int 0, .null, .int 0], z0, zn)), (32, (6, 4, [.int 8, .int 2, .null, .int 0], z0, zn)), (33, (20, 16, [], z0, zn)), (32, (6, 4, [.int 8, .int 2, .ref 33, .int 0], z0, zn)), (32, (6, 4, [.int 8, .int 2, .ref 33, .int 0], z0, zn))]
set_option maxRecDepth 40000 in
theorem kx_16 (G : GG) (d : Nat) (F : CF) : Kc G tR_init d 1 16 [.ref (gB G + 32), .int 8, .int 2] 33 (sF F 32 (6, 4, df_6, z0, zn)) 34 (pf_16 F) := by
  refine K_of_Vc (by decide) rfl (by simp [cat_i, cat_r]) (by simp [tR_init]) ?_
  refine c_aload (i := 0) dR_init_0 rfl ?_
  refine c_obj dR_init_1 mlR_3 (Nat.le_of_ble_eq_true rfl) ?_
  refine c_aload (i := 0) dR_init_4 rfl ?_
  refine c_iload (i := 1) dR_init_5 rfl ?_
  refine c_iconst (x := 0) dR_init_6 rfl ?_
  refine c_mmax (z := 8) dR_init_7 mlR_9 rfl (Nat.le_of_ble_eq_true rfl) (Nat.le_of_ble_eq_true rfl) (Nat.le_of_ble_eq_true rfl) ?_
  refine c_put (w := .int 8) (cc := (6, 4, [.int 8, .int 0, .null, .int 0], z0, zn)) dR_init_10 fuR_15 ⟨_, _, _, _, rfl, rfl, rfl, rfl⟩ hc_6 (Nat.le_of_ble_eq_true rfl) rfl (Nat.le_of_ble_eq_true rfl) rfl rfl ?_
  refine c_aload (i := 0) dR_init_13 rfl ?_
  refine c_iload (i := 2) dR_init_14 rfl ?_
  refine c_iconst (x := 1) dR_init_15 rfl ?_
  refine c_mmax (z := 2) dR_init_16 mlR_9 rfl (Nat.le_of_ble_eq_true rfl) (Nat.le_of_ble_eq_true rfl) (Nat.le_of_ble_eq_true rfl) ?_
  refine c_put (w := .int 2) (cc := (6, 4, [.int 8, .int 2, .null, .int 0], z0, zn)) dR_init_19 fuR_21 ⟨_, _, _, _, rfl, rfl, rfl, rfl⟩ hc_6 (Nat.le_of_ble_eq_true rfl) rfl (Nat.le_of_ble_eq_true rfl) rfl rfl ?_
  refine c_aload (i := 0) dR_init_22 rfl ?_
  refine c_aload (i := 0) dR_init_23 rfl ?_
  refine c_get (w := .int 8) (w' := .int 8) dR_init_24 fuR_15 (Nat.le_of_ble_eq_true rfl) rfl rfl rfl ?_
  refine c_aload (i := 0) dR_init_27 rfl ?_
  refine c_get (w := .int 2) (w' := .int 2) dR_init_28 fuR_21 (Nat.le_of_ble_eq_true rfl) rfl rfl rfl ?_
  refine c_imul (z := 16) dR_init_31 rfl ?_
  refine c_newi (N := 16) dR_init_32 ar_i (by decide) rfl (by decide) (Nat.le_of_ble_eq_true rfl) (Nat.le_of_ble_eq_true rfl) ?_
  refine c_put (w := .ref 33) (cc := (6, 4, [.int 8, .int 2, .ref 33, .int 0], z0, zn)) dR_init_34 fuR_24 ⟨_, _, _, _, rfl, rfl, rfl, rfl⟩ hc_6 (Nat.le_of_ble_eq_true rfl) rfl (Nat.le_of_ble_eq_true rfl) rfl rfl ?_
  refine c_aload (i := 0) dR_init_37 rfl ?_
  refine c_iconst (x := 0) dR_init_38 rfl ?_
  refine c_put (w := .int 0) (cc := (6, 4, [.int 8, .int 2, .ref 33, .int 0], z0, zn)) dR_init_39 fuR_28 ⟨_, _, _, _, rfl, rfl, rfl, rfl⟩ hc_6 (Nat.le_of_ble_eq_true rfl) rfl (Nat.le_of_ble_eq_true rfl) rfl rfl ?_
  exact c_ret dR_init_42 rfl rfl
noncomputable def pf_17 (F : CF) : CF := wr F [(5, (11, 14, df_11, z0, zn)), (6, (6, 4, df_6, z0, zn)), (6, (6, 4, [.int 16, .int 0, .null, .int 0], z0, zn)), (6, (6, 4, [.int 16, .int 5, .null, .int 0], z0, zn)), (7, (20, 80, [], z0, zn)), (6, (6, 4, [.int 16, .int 5, .ref 7, .int 0], z0, zn)), (6, (6, 4, [.int 16, .int 5, .ref 7, .int 0], z0, zn)), (5, (11, 14, [.ref 6, .null, .null, .null, .null, .null, .null, .null, .null, .null, .null, .null, .null, .null], z0, zn)), (8, (6, 4, df_6, z0, zn)), (8, (6, 4, [.int 400, .int 0, .null, .int 0], z0, zn)), (8, (6, 4, [.int 400, .int 2, .null, .int 0], z0, zn)), (9, (20, 800, [], z0, zn)), (8, (6, 4, [.int 400, .int 2, .ref 9, .int 0], z0, zn)), (8, (6, 4, [.int 400, .int 2, .ref 9, .int 0], z0, zn)), (5, (11, 14, [.ref 6, .ref 8, .null, .null, .null, .null, .null, .null, .null, .null, .null, .null, .null, .null], z0, zn)), (10, (6, 4, df_6, z0, zn)), (10, (6, 4, [.int 16, .int 0, .null, .int 0], z0, zn)), (10, (6, 4, [.int 16, .int 5, .null, .int 0], z0, zn)), (11, (20, 80, [], z0, zn)), (10, (6, 4, [.int 16, .int 5, .ref 11, .int 0], z0, zn)), (10, (6, 4, [.int 16, .int 5, .ref 11, .int 0], z0, zn)), (5, (11, 14, [.ref 6, .ref 8, .ref 10, .null, .null, .null, .null, .null, .null, .null, .null, .null, .null, .null], z0, zn)), (12, (6, 4, df_6, z0, zn)), (12, (6, 4, [.int 16, .int 0, .null, .int 0], z0, zn)), (12, (6, 4, [.int 16, .int 5, .null, .int 0], z0, zn)), (13, (20, 80, [], z0, zn)), (12, (6, 4, [.int 16, .int 5, .ref 13, .int 0], z0, zn)), (12, (6, 4, [.int 16, .int 5, .ref 13, .int 0], z0, zn)), (5, (11, 14, [.ref 6, .ref 8, .ref 10, .ref 12, .null, .null, .null, .null, .null, .null, .null, .null, .null, .null], z0, zn)), (14, (6, 4, df_6, z0, zn)), (14, (6, 4, [.int 16, .int 0, .null, .int 0], z0, zn)), (14, (6, 4, [.int 16, .int 5, .null, .int 0], z0, zn)), (15, (20, 80, [], z0, zn)), (14, (6, 4, [.int 16, .int 5, .ref 15, .int 0], z0, zn)), (14, (6, 4, [.int 16, .int 5, .ref 15, .int 0], z0, zn)), (5, (11, 14, [.ref 6, .ref 8, .ref 10, .ref 12, .ref 14, .null, .null, .null, .null, .null, .null, .null, .null, .null], z0, zn)), (16, (6, 4, df_6, z0, zn)), (16, (6, 4, [.int 150, .int 0, .null, .int 0], z0, zn)), (16, (6, 4, [.int 150, .int 4, .null, .int 0], z0, zn)), (17, (20, 600, [], z0, zn)), (16, (6, 4, [.int 150, .int 4, .ref 17, .int 0], z0, zn)), (16, (6, 4, [.int 150, .int 4, .ref 17, .int 0], z0, zn)), (5, (11, 14, [.ref 6, .ref 8, .ref 10, .ref 12, .ref 14, .ref 16, .null, .null, .null, .null, .null, .null, .null, .null], z0, zn)), (18, (6, 4, df_6, z0, zn)), (18, (6, 4, [.int 9, .int 0, .null, .int 0], z0, zn)), (18, (6, 4, [.int 9, .int 1, .null, .int 0], z0, zn)), (19, (20, 9, [], z0, zn)), (18, (6, 4, [.int 9, .int 1, .ref 19, .int 0], z0, zn)), (18, (6, 4, [.int 9, .int 1, .ref 19, .int 0], z0, zn)), (5, (11, 14, [.ref 6, .ref 8, .ref 10, .ref 12, .ref 14, .ref 16, .ref 18, .null, .null, .null, .null, .null, .null, .null], z0, zn)), (20, (6, 4, df_6, z0, zn)), (20, (6, 4, [.int 8, .int 0, .null, .int 0], z0, zn)), (20, (6, 4, [.int 8, .int 1, .null, .int 0], z0, zn)), (21, (20, 8, [], z0, zn)), (20, (6, 4, [.int 8, .int 1, .ref 21, .int 0], z0, zn)), (20, (6, 4, [.int 8, .int 1, .ref 21, .int 0], z0, zn)), (5, (11, 14, [.ref 6, .ref 8, .ref 10, .ref 12, .ref 14, .ref 16, .ref 18, .ref 20, .null, .null, .null, .null, .null, .null], z0, zn)), (22, (6, 4, df_6, z0, zn)), (22, (6, 4, [.int 5, .int 0, .null, .int 0], z0, zn)), (22, (6, 4, [.int 5, .int 1, .null, .int 0], z0, zn)), (23, (20, 5, [], z0, zn)), (22, (6, 4, [.int 5, .int 1, .ref 23, .int 0], z0, zn)), (22, (6, 4, [.int 5, .int 1, .ref 23, .int 0], z0, zn)), (5, (11, 14, [.ref 6, .ref 8, .ref 10, .ref 12, .ref 14, .ref 16, .ref 18, .ref 20, .ref 22, .null, .null, .null, .null, .null], z0, zn)), (24, (6, 4, df_6, z0, zn)), (24, (6, 4, [.int 8, .int 0, .null, .int 0], z0, zn)), (24, (6, 4, [.int 8, .int 2, .null, .int 0], z0, zn)), (25, (20, 16, [], z0, zn)), (24, (6, 4, [.int 8, .int 2, .ref 25, .int 0], z0, zn)), (24, (6, 4, [.int 8, .int 2, .ref 25, .int 0], z0, zn)), (5, (11, 14, [.ref 6, .ref 8, .ref 10, .ref 12, .ref 14, .ref 16, .ref 18, .ref 20, .ref 22, .ref 24, .null, .null, .null, .null], z0, zn)), (26, (6, 4, df_6, z0, zn)), (26, (6, 4, [.int 16, .int 0, .null, .int 0], z0, zn)), (26, (6, 4, [.int 16, .int 1, .null, .int 0], z0, zn)), (27, (20, 16, [], z0, zn)), (26, (6, 4, [.int 16, .int 1, .ref 27, .int 0], z0, zn)), (26, (6, 4, [.int 16, .int 1, .ref 27, .int 0], z0, zn)), (5, (11, 14, [.ref 6, .ref 8, .ref 10, .ref 12, .ref 14, .ref 16, .ref 18, .ref 20, .ref 22, .ref 24, .ref 26, .null, .null, .null], z0, zn)), (28, (6, 4, df_6, z0, zn)), (28, (6, 4, [.int 6, .int 0, .null, .int 0], z0, zn)), (28, (6, 4, [.int 6, .int 2, .null, .int 0], z0, zn)), (29, (20, 12, [], z0, zn)), (28, (6, 4, [.int 6, .int 2, .ref 29, .int 0], z0, zn)), (28, (6, 4, [.int 6, .int 2, .ref 29, .int 0], z0, zn)), (5, (11, 14, [.ref 6, .ref 8, .ref 10, .ref 12, .ref 14, .ref 16, .ref 18, .ref 20, .ref 22, .ref 24, .ref 26, .ref 28, .null, .null], z0, zn)), (30, (6, 4, df_6, z0, zn)), (30, (6, 4, [.int 12, .int 0, .null, .int 0], z0, zn)), (30, (6, 4, [.int 12, .int 2, .null, .int 0], z0, zn)), (31, (20, 24, [], z0, zn)), (30, (6, 4, [.int 12, .int 2, .ref 31, .int 0], z0, zn)), (30, (6, 4, [.int 12, .int 2, .ref 31, .int 0], z0, zn)), (5, (11, 14, [.ref 6, .ref 8, .ref 10, .ref 12, .ref 14, .ref 16, .ref 18, .ref 20, .ref 22, .ref 24, .ref 26, .ref 28, .ref 30, .null], z0, zn)), (32, (6, 4, df_6, z0, zn)), (32, (6, 4, [.int 8, .int 0, .null, .int 0], z0, zn)), (32, (6, 4, [.int 8, .int 2, .null, .int 0], z0, zn)), (33, (20, 16, [], z0, zn)), (32, (6, 4, [.int 8, .int 2, .ref 33, .int 0], z0, zn)), (32, (6, 4, [.int 8, .int 2, .ref 33, .int 0], z0, zn)), (5, (11, 14, [.ref 6, .ref 8, .ref 10, .ref 12, .ref 14, .ref 16, .ref 18, .ref 20, .ref 22, .ref 24, .ref 26, .ref 28, .ref 30, .ref 32], z0, zn))]
set_option maxRecDepth 40000 in
theorem kx_17 (G : GG) (d : Nat) (F : CF) : Kc G tO_init (d + 1) 28 1882 [.ref (gB G + 5)] 6 (sF F 5 (11, 14, df_11, z0, zn)) 34 (pf_17 F) := by
  refine K_of_Vc (by decide) rfl (by simp [cat_i, cat_r]) (by simp [tO_init]) ?_
  refine c_aload (i := 0) dO_init_0 rfl ?_
  refine c_obj dO_init_1 mlO_3 (Nat.le_of_ble_eq_true rfl) ?_
  refine c_aload (i := 0) dO_init_4 rfl ?_
  refine c_new (ci := 6) (ty := ty_6) df_6 dO_init_5 clO_9 in_6 iz_6 rfl ty_ok_6 df_ok_6 rfl (Nat.le_of_ble_eq_true rfl) (Nat.le_of_ble_eq_true rfl) ?_
  refine c_dup dO_init_8 rfl ?_
  refine c_bipush (x := 16) dO_init_9 rfl ?_
  refine c_iconst (x := 5) dO_init_11 rfl ?_
  refine c_call (M' := tR_init) dO_init_12 mlO_11 okiR_init rfl rfl (Nat.le_of_ble_eq_true rfl) (Nat.le_of_ble_eq_true rfl) (Nat.le_of_ble_eq_true rfl) (kx_3 G d _) ?_
  refine c_put (w := .ref 6) (cc := (11, 14, [.ref 6, .null, .null, .null, .null, .null, .null, .null, .null, .null, .null, .null, .null, .null], z0, zn)) dO_init_15 fuO_14 ⟨_, _, _, _, rfl, rfl, rfl, rfl⟩ hc_11 (Nat.le_of_ble_eq_true rfl) rfl (Nat.le_of_ble_eq_true rfl) rfl rfl ?_
  refine c_aload (i := 0) dO_init_18 rfl ?_
  refine c_new (ci := 6) (ty := ty_6) df_6 dO_init_19 clO_9 in_6 iz_6 rfl ty_ok_6 df_ok_6 rfl (Nat.le_of_ble_eq_true rfl) (Nat.le_of_ble_eq_true rfl) ?_
  refine c_dup dO_init_22 rfl ?_
  refine c_sipush (x := 400) dO_init_23 rfl ?_
  refine c_iconst (x := 2) dO_init_26 rfl ?_
  refine c_call (M' := tR_init) dO_init_27 mlO_11 okiR_init rfl rfl (Nat.le_of_ble_eq_true rfl) (Nat.le_of_ble_eq_true rfl) (Nat.le_of_ble_eq_true rfl) (kx_4 G d _) ?_
  refine c_put (w := .ref 8) (cc := (11, 14, [.ref 6, .ref 8, .null, .null, .null, .null, .null, .null, .null, .null, .null, .null, .null, .null], z0, zn)) dO_init_30 fuO_20 ⟨_, _, _, _, rfl, rfl, rfl, rfl⟩ hc_11 (Nat.le_of_ble_eq_true rfl) rfl (Nat.le_of_ble_eq_true rfl) rfl rfl ?_
  refine c_aload (i := 0) dO_init_33 rfl ?_
  refine c_new (ci := 6) (ty := ty_6) df_6 dO_init_34 clO_9 in_6 iz_6 rfl ty_ok_6 df_ok_6 rfl (Nat.le_of_ble_eq_true rfl) (Nat.le_of_ble_eq_true rfl) ?_
  refine c_dup dO_init_37 rfl ?_
  refine c_bipush (x := 16) dO_init_38 rfl ?_
  refine c_iconst (x := 5) dO_init_40 rfl ?_
  refine c_call (M' := tR_init) dO_init_41 mlO_11 okiR_init rfl rfl (Nat.le_of_ble_eq_true rfl) (Nat.le_of_ble_eq_true rfl) (Nat.le_of_ble_eq_true rfl) (kx_5 G d _) ?_
  refine c_put (w := .ref 10) (cc := (11, 14, [.ref 6, .ref 8, .ref 10, .null, .null, .null, .null, .null, .null, .null, .null, .null, .null, .null], z0, zn)) dO_init_44 fuO_23 ⟨_, _, _, _, rfl, rfl, rfl, rfl⟩ hc_11 (Nat.le_of_ble_eq_true rfl) rfl (Nat.le_of_ble_eq_true rfl) rfl rfl ?_
  refine c_aload (i := 0) dO_init_47 rfl ?_
  refine c_new (ci := 6) (ty := ty_6) df_6 dO_init_48 clO_9 in_6 iz_6 rfl ty_ok_6 df_ok_6 rfl (Nat.le_of_ble_eq_true rfl) (Nat.le_of_ble_eq_true rfl) ?_
  refine c_dup dO_init_51 rfl ?_
  refine c_bipush (x := 16) dO_init_52 rfl ?_
  refine c_iconst (x := 5) dO_init_54 rfl ?_
  refine c_call (M' := tR_init) dO_init_55 mlO_11 okiR_init rfl rfl (Nat.le_of_ble_eq_true rfl) (Nat.le_of_ble_eq_true rfl) (Nat.le_of_ble_eq_true rfl) (kx_6 G d _) ?_
  refine c_put (w := .ref 12) (cc := (11, 14, [.ref 6, .ref 8, .ref 10, .ref 12, .null, .null, .null, .null, .null, .null, .null, .null, .null, .null], z0, zn)) dO_init_58 fuO_26 ⟨_, _, _, _, rfl, rfl, rfl, rfl⟩ hc_11 (Nat.le_of_ble_eq_true rfl) rfl (Nat.le_of_ble_eq_true rfl) rfl rfl ?_
  refine c_aload (i := 0) dO_init_61 rfl ?_
  refine c_new (ci := 6) (ty := ty_6) df_6 dO_init_62 clO_9 in_6 iz_6 rfl ty_ok_6 df_ok_6 rfl (Nat.le_of_ble_eq_true rfl) (Nat.le_of_ble_eq_true rfl) ?_
  refine c_dup dO_init_65 rfl ?_
  refine c_bipush (x := 16) dO_init_66 rfl ?_
  refine c_iconst (x := 5) dO_init_68 rfl ?_
  refine c_call (M' := tR_init) dO_init_69 mlO_11 okiR_init rfl rfl (Nat.le_of_ble_eq_true rfl) (Nat.le_of_ble_eq_true rfl) (Nat.le_of_ble_eq_true rfl) (kx_7 G d _) ?_
  refine c_put (w := .ref 14) (cc := (11, 14, [.ref 6, .ref 8, .ref 10, .ref 12, .ref 14, .null, .null, .null, .null, .null, .null, .null, .null, .null], z0, zn)) dO_init_72 fuO_29 ⟨_, _, _, _, rfl, rfl, rfl, rfl⟩ hc_11 (Nat.le_of_ble_eq_true rfl) rfl (Nat.le_of_ble_eq_true rfl) rfl rfl ?_
  refine c_aload (i := 0) dO_init_75 rfl ?_
  refine c_new (ci := 6) (ty := ty_6) df_6 dO_init_76 clO_9 in_6 iz_6 rfl ty_ok_6 df_ok_6 rfl (Nat.le_of_ble_eq_true rfl) (Nat.le_of_ble_eq_true rfl) ?_
  refine c_dup dO_init_79 rfl ?_
  refine c_sipush (x := 150) dO_init_80 rfl ?_
  refine c_iconst (x := 4) dO_init_83 rfl ?_
  refine c_call (M' := tR_init) dO_init_84 mlO_11 okiR_init rfl rfl (Nat.le_of_ble_eq_true rfl) (Nat.le_of_ble_eq_true rfl) (Nat.le_of_ble_eq_true rfl) (kx_8 G d _) ?_
  refine c_put (w := .ref 16) (cc := (11, 14, [.ref 6, .ref 8, .ref 10, .ref 12, .ref 14, .ref 16, .null, .null, .null, .null, .null, .null, .null, .null], z0, zn)) dO_init_87 fuO_32 ⟨_, _, _, _, rfl, rfl, rfl, rfl⟩ hc_11 (Nat.le_of_ble_eq_true rfl) rfl (Nat.le_of_ble_eq_true rfl) rfl rfl ?_
  refine c_aload (i := 0) dO_init_90 rfl ?_
  refine c_new (ci := 6) (ty := ty_6) df_6 dO_init_91 clO_9 in_6 iz_6 rfl ty_ok_6 df_ok_6 rfl (Nat.le_of_ble_eq_true rfl) (Nat.le_of_ble_eq_true rfl) ?_
  refine c_dup dO_init_94 rfl ?_
  refine c_bipush (x := 9) dO_init_95 rfl ?_
  refine c_iconst (x := 1) dO_init_97 rfl ?_
  refine c_call (M' := tR_init) dO_init_98 mlO_11 okiR_init rfl rfl (Nat.le_of_ble_eq_true rfl) (Nat.le_of_ble_eq_true rfl) (Nat.le_of_ble_eq_true rfl) (kx_9 G d _) ?_
  refine c_put (w := .ref 18) (cc := (11, 14, [.ref 6, .ref 8, .ref 10, .ref 12, .ref 14, .ref 16, .ref 18, .null, .null, .null, .null, .null, .null, .null], z0, zn)) dO_init_101 fuO_35 ⟨_, _, _, _, rfl, rfl, rfl, rfl⟩ hc_11 (Nat.le_of_ble_eq_true rfl) rfl (Nat.le_of_ble_eq_true rfl) rfl rfl ?_
  refine c_aload (i := 0) dO_init_104 rfl ?_
  refine c_new (ci := 6) (ty := ty_6) df_6 dO_init_105 clO_9 in_6 iz_6 rfl ty_ok_6 df_ok_6 rfl (Nat.le_of_ble_eq_true rfl) (Nat.le_of_ble_eq_true rfl) ?_
  refine c_dup dO_init_108 rfl ?_
  refine c_bipush (x := 8) dO_init_109 rfl ?_
  refine c_iconst (x := 1) dO_init_111 rfl ?_
  refine c_call (M' := tR_init) dO_init_112 mlO_11 okiR_init rfl rfl (Nat.le_of_ble_eq_true rfl) (Nat.le_of_ble_eq_true rfl) (Nat.le_of_ble_eq_true rfl) (kx_10 G d _) ?_
  refine c_put (w := .ref 20) (cc := (11, 14, [.ref 6, .ref 8, .ref 10, .ref 12, .ref 14, .ref 16, .ref 18, .ref 20, .null, .null, .null, .null, .null, .null], z0, zn)) dO_init_115 fuO_40 ⟨_, _, _, _, rfl, rfl, rfl, rfl⟩ hc_11 (Nat.le_of_ble_eq_true rfl) rfl (Nat.le_of_ble_eq_true rfl) rfl rfl ?_
  refine c_aload (i := 0) dO_init_118 rfl ?_
  refine c_new (ci := 6) (ty := ty_6) df_6 dO_init_119 clO_9 in_6 iz_6 rfl ty_ok_6 df_ok_6 rfl (Nat.le_of_ble_eq_true rfl) (Nat.le_of_ble_eq_true rfl) ?_
  refine c_dup dO_init_122 rfl ?_
  refine c_iconst (x := 5) dO_init_123 rfl ?_
  refine c_iconst (x := 1) dO_init_124 rfl ?_
  refine c_call (M' := tR_init) dO_init_125 mlO_11 okiR_init rfl rfl (Nat.le_of_ble_eq_true rfl) (Nat.le_of_ble_eq_true rfl) (Nat.le_of_ble_eq_true rfl) (kx_11 G d _) ?_
  refine c_put (w := .ref 22) (cc := (11, 14, [.ref 6, .ref 8, .ref 10, .ref 12, .ref 14, .ref 16, .ref 18, .ref 20, .ref 22, .null, .null, .null, .null, .null], z0, zn)) dO_init_128 fuO_43 ⟨_, _, _, _, rfl, rfl, rfl, rfl⟩ hc_11 (Nat.le_of_ble_eq_true rfl) rfl (Nat.le_of_ble_eq_true rfl) rfl rfl ?_
  refine c_aload (i := 0) dO_init_131 rfl ?_
  refine c_new (ci := 6) (ty := ty_6) df_6 dO_init_132 clO_9 in_6 iz_6 rfl ty_ok_6 df_ok_6 rfl (Nat.le_of_ble_eq_true rfl) (Nat.le_of_ble_eq_true rfl) ?_
  refine c_dup dO_init_135 rfl ?_
  refine c_bipush (x := 8) dO_init_136 rfl ?_
  refine c_iconst (x := 2) dO_init_138 rfl ?_
  refine c_call (M' := tR_init) dO_init_139 mlO_11 okiR_init rfl rfl (Nat.le_of_ble_eq_true rfl) (Nat.le_of_ble_eq_true rfl) (Nat.le_of_ble_eq_true rfl) (kx_12 G d _) ?_
  refine c_put (w := .ref 24) (cc := (11, 14, [.ref 6, .ref 8, .ref 10, .ref 12, .ref 14, .ref 16, .ref 18, .ref 20, .ref 22, .ref 24, .null, .null, .null, .null], z0, zn)) dO_init_142 fuO_46 ⟨_, _, _, _, rfl, rfl, rfl, rfl⟩ hc_11 (Nat.le_of_ble_eq_true rfl) rfl (Nat.le_of_ble_eq_true rfl) rfl rfl ?_
  refine c_aload (i := 0) dO_init_145 rfl ?_
  refine c_new (ci := 6) (ty := ty_6) df_6 dO_init_146 clO_9 in_6 iz_6 rfl ty_ok_6 df_ok_6 rfl (Nat.le_of_ble_eq_true rfl) (Nat.le_of_ble_eq_true rfl) ?_
  refine c_dup dO_init_149 rfl ?_
  refine c_bipush (x := 16) dO_init_150 rfl ?_
  refine c_iconst (x := 1) dO_init_152 rfl ?_
  refine c_call (M' := tR_init) dO_init_153 mlO_11 okiR_init rfl rfl (Nat.le_of_ble_eq_true rfl) (Nat.le_of_ble_eq_true rfl) (Nat.le_of_ble_eq_true rfl) (kx_13 G d _) ?_
  refine c_put (w := .ref 26) (cc := (11, 14, [.ref 6, .ref 8, .ref 10, .ref 12, .ref 14, .ref 16, .ref 18, .ref 20, .ref 22, .ref 24, .ref 26, .null, .null, .null], z0, zn)) dO_init_156 fuO_49 ⟨_, _, _, _, rfl, rfl, rfl, rfl⟩ hc_11 (Nat.le_of_ble_eq_true rfl) rfl (Nat.le_of_ble_eq_true rfl) rfl rfl ?_
  refine c_aload (i := 0) dO_init_159 rfl ?_
  refine c_new (ci := 6) (ty := ty_6) df_6 dO_init_160 clO_9 in_6 iz_6 rfl ty_ok_6 df_ok_6 rfl (Nat.le_of_ble_eq_true rfl) (Nat.le_of_ble_eq_true rfl) ?_
  refine c_dup dO_init_163 rfl ?_
  refine c_bipush (x := 6) dO_init_164 rfl ?_
  refine c_iconst (x := 2) dO_init_166 rfl ?_
  refine c_call (M' := tR_init) dO_init_167 mlO_11 okiR_init rfl rfl (Nat.le_of_ble_eq_true rfl) (Nat.le_of_ble_eq_true rfl) (Nat.le_of_ble_eq_true rfl) (kx_14 G d _) ?_
  refine c_put (w := .ref 28) (cc := (11, 14, [.ref 6, .ref 8, .ref 10, .ref 12, .ref 14, .ref 16, .ref 18, .ref 20, .ref 22, .ref 24, .ref 26, .ref 28, .null, .null], z0, zn)) dO_init_170 fuO_52 ⟨_, _, _, _, rfl, rfl, rfl, rfl⟩ hc_11 (Nat.le_of_ble_eq_true rfl) rfl (Nat.le_of_ble_eq_true rfl) rfl rfl ?_
  refine c_aload (i := 0) dO_init_173 rfl ?_
  refine c_new (ci := 6) (ty := ty_6) df_6 dO_init_174 clO_9 in_6 iz_6 rfl ty_ok_6 df_ok_6 rfl (Nat.le_of_ble_eq_true rfl) (Nat.le_of_ble_eq_true rfl) ?_
  refine c_dup dO_init_177 rfl ?_
  refine c_bipush (x := 12) dO_init_178 rfl ?_
  refine c_iconst (x := 2) dO_init_180 rfl ?_
  refine c_call (M' := tR_init) dO_init_181 mlO_11 okiR_init rfl rfl (Nat.le_of_ble_eq_true rfl) (Nat.le_of_ble_eq_true rfl) (Nat.le_of_ble_eq_true rfl) (kx_15 G d _) ?_
  refine c_put (w := .ref 30) (cc := (11, 14, [.ref 6, .ref 8, .ref 10, .ref 12, .ref 14, .ref 16, .ref 18, .ref 20, .ref 22, .ref 24, .ref 26, .ref 28, .ref 30, .null], z0, zn)) dO_init_184 fuO_55 ⟨_, _, _, _, rfl, rfl, rfl, rfl⟩ hc_11 (Nat.le_of_ble_eq_true rfl) rfl (Nat.le_of_ble_eq_true rfl) rfl rfl ?_
  refine c_aload (i := 0) dO_init_187 rfl ?_
  refine c_new (ci := 6) (ty := ty_6) df_6 dO_init_188 clO_9 in_6 iz_6 rfl ty_ok_6 df_ok_6 rfl (Nat.le_of_ble_eq_true rfl) (Nat.le_of_ble_eq_true rfl) ?_
  refine c_dup dO_init_191 rfl ?_
  refine c_bipush (x := 8) dO_init_192 rfl ?_
  refine c_iconst (x := 2) dO_init_194 rfl ?_
  refine c_call (M' := tR_init) dO_init_195 mlO_11 okiR_init rfl rfl (Nat.le_of_ble_eq_true rfl) (Nat.le_of_ble_eq_true rfl) (Nat.le_of_ble_eq_true rfl) (kx_16 G d _) ?_
  refine c_put (w := .ref 32) (cc := (11, 14, [.ref 6, .ref 8, .ref 10, .ref 12, .ref 14, .ref 16, .ref 18, .ref 20, .ref 22, .ref 24, .ref 26, .ref 28, .ref 30, .ref 32], z0, zn)) dO_init_198 fuO_58 ⟨_, _, _, _, rfl, rfl, rfl, rfl⟩ hc_11 (Nat.le_of_ble_eq_true rfl) rfl (Nat.le_of_ble_eq_true rfl) rfl rfl ?_
  exact c_ret dO_init_201 rfl rfl
noncomputable def pf_18 (F : CF) : CF := wr F [(34, (3, 5, df_3, z0, zn)), (35, (20, 12, [], z0, zn)), (34, (3, 5, [.null, .null, .ref 35, .null, .int 0], z0, zn)), (36, (20, 64, [], z0, zn)), (34, (3, 5, [.null, .null, .ref 35, .ref 36, .int 0], z0, zn)), (34, (3, 5, [.ref 6, .null, .ref 35, .ref 36, .int 0], z0, zn)), (34, (3, 5, [.ref 6, .ref 8, .ref 35, .ref 36, .int 0], z0, zn))]
set_option maxRecDepth 40000 in
theorem kx_18 (G : GG) (d : Nat) (F : CF) : Kc G tW_init d 2 76 [.ref (gB G + 34), .ref (gB G + 6), .ref (gB G + 8)] 35 (sF F 34 (3, 5, df_3, z0, zn)) 37 (pf_18 F) := by
  refine K_of_Vc (by decide) rfl (by simp [cat_i, cat_r]) (by simp [tW_init]) ?_
  refine c_aload (i := 0) dW_init_0 rfl ?_
  refine c_obj dW_init_1 mlW_3 (Nat.le_of_ble_eq_true rfl) ?_
  refine c_aload (i := 0) dW_init_4 rfl ?_
  refine c_bipush (x := 12) dW_init_5 rfl ?_
  refine c_newi (N := 12) dW_init_7 ar_i (by decide) rfl (by decide) (Nat.le_of_ble_eq_true rfl) (Nat.le_of_ble_eq_true rfl) ?_
  refine c_put (w := .ref 35) (cc := (3, 5, [.null, .null, .ref 35, .null, .int 0], z0, zn)) dW_init_9 fuW_11 ⟨_, _, _, _, rfl, rfl, rfl, rfl⟩ hc_3 (Nat.le_of_ble_eq_true rfl) rfl (Nat.le_of_ble_eq_true rfl) rfl rfl ?_
  refine c_aload (i := 0) dW_init_12 rfl ?_
  refine c_bipush (x := 64) dW_init_13 rfl ?_
  refine c_newi (N := 64) dW_init_15 ar_i (by decide) rfl (by decide) (Nat.le_of_ble_eq_true rfl) (Nat.le_of_ble_eq_true rfl) ?_
  refine c_put (w := .ref 36) (cc := (3, 5, [.null, .null, .ref 35, .ref 36, .int 0], z0, zn)) dW_init_17 fuW_15 ⟨_, _, _, _, rfl, rfl, rfl, rfl⟩ hc_3 (Nat.le_of_ble_eq_true rfl) rfl (Nat.le_of_ble_eq_true rfl) rfl rfl ?_
  refine c_aload (i := 0) dW_init_20 rfl ?_
  refine c_aload (i := 1) dW_init_21 rfl ?_
  refine c_put (w := .ref 6) (cc := (3, 5, [.ref 6, .null, .ref 35, .ref 36, .int 0], z0, zn)) dW_init_22 fuW_18 ⟨_, _, _, _, rfl, rfl, rfl, rfl⟩ hc_3 (Nat.le_of_ble_eq_true rfl) rfl (Nat.le_of_ble_eq_true rfl) rfl rfl ?_
  refine c_aload (i := 0) dW_init_25 rfl ?_
  refine c_aload (i := 2) dW_init_26 rfl ?_
  refine c_put (w := .ref 8) (cc := (3, 5, [.ref 6, .ref 8, .ref 35, .ref 36, .int 0], z0, zn)) dW_init_27 fuW_22 ⟨_, _, _, _, rfl, rfl, rfl, rfl⟩ hc_3 (Nat.le_of_ble_eq_true rfl) rfl (Nat.le_of_ble_eq_true rfl) rfl rfl ?_
  exact c_ret dW_init_30 rfl rfl
noncomputable def pf_19 (F : CF) : CF := wr F [(37, (1, 8, df_1, z0, zn)), (38, (20, 132, [], z0, zn)), (37, (1, 8, [.ref 38, .int 0, .int 0, .int 0, .int 0, .int 0, .int 0, .int 0], z0, zn))]
set_option maxRecDepth 40000 in
theorem kx_19 (G : GG) (d : Nat) (F : CF) : Kc G tB_init d 1 132 [.ref (gB G + 37)] 38 (sF F 37 (1, 8, df_1, z0, zn)) 39 (pf_19 F) := by
  refine K_of_Vc (by decide) rfl (by simp [cat_i, cat_r]) (by simp [tB_init]) ?_
  refine c_aload (i := 0) dB_init_0 rfl ?_
  refine c_obj dB_init_1 mlB_3 (Nat.le_of_ble_eq_true rfl) ?_
  refine c_aload (i := 0) dB_init_4 rfl ?_
  refine c_sipush (x := 132) dB_init_5 rfl ?_
  refine c_newi (N := 132) dB_init_8 ar_i (by decide) rfl (by decide) (Nat.le_of_ble_eq_true rfl) (Nat.le_of_ble_eq_true rfl) ?_
  refine c_put (w := .ref 38) (cc := (1, 8, [.ref 38, .int 0, .int 0, .int 0, .int 0, .int 0, .int 0, .int 0], z0, zn)) dB_init_10 fuB_11 ⟨_, _, _, _, rfl, rfl, rfl, rfl⟩ hc_1 (Nat.le_of_ble_eq_true rfl) rfl (Nat.le_of_ble_eq_true rfl) rfl rfl ?_
  exact c_ret dB_init_13 rfl rfl
noncomputable def pf_20 (F : CF) : CF := wr F [(40, (6, 4, df_6, z0, zn)), (40, (6, 4, [.int 16, .int 0, .null, .int 0], z0, zn)), (40, (6, 4, [.int 16, .int 5, .null, .int 0], z0, zn)), (41, (20, 80, [], z0, zn)), (40, (6, 4, [.int 16, .int 5, .ref 41, .int 0], z0, zn)), (40, (6, 4, [.int 16, .int 5, .ref 41, .int 0], z0, zn))]
set_option maxRecDepth 40000 in
theorem kx_20 (G : GG) (d : Nat) (F : CF) : Kc G tR_init d 1 80 [.ref (gB G + 40), .int 16, .int 5] 41 (sF F 40 (6, 4, df_6, z0, zn)) 42 (pf_20 F) := by
  refine K_of_Vc (by decide) rfl (by simp [cat_i, cat_r]) (by simp [tR_init]) ?_
  refine c_aload (i := 0) dR_init_0 rfl ?_
  refine c_obj dR_init_1 mlR_3 (Nat.le_of_ble_eq_true rfl) ?_
  refine c_aload (i := 0) dR_init_4 rfl ?_
  refine c_iload (i := 1) dR_init_5 rfl ?_
  refine c_iconst (x := 0) dR_init_6 rfl ?_
  refine c_mmax (z := 16) dR_init_7 mlR_9 rfl (Nat.le_of_ble_eq_true rfl) (Nat.le_of_ble_eq_true rfl) (Nat.le_of_ble_eq_true rfl) ?_
  refine c_put (w := .int 16) (cc := (6, 4, [.int 16, .int 0, .null, .int 0], z0, zn)) dR_init_10 fuR_15 ⟨_, _, _, _, rfl, rfl, rfl, rfl⟩ hc_6 (Nat.le_of_ble_eq_true rfl) rfl (Nat.le_of_ble_eq_true rfl) rfl rfl ?_
  refine c_aload (i := 0) dR_init_13 rfl ?_
  refine c_iload (i := 2) dR_init_14 rfl ?_
  refine c_iconst (x := 1) dR_init_15 rfl ?_
  refine c_mmax (z := 5) dR_init_16 mlR_9 rfl (Nat.le_of_ble_eq_true rfl) (Nat.le_of_ble_eq_true rfl) (Nat.le_of_ble_eq_true rfl) ?_
  refine c_put (w := .int 5) (cc := (6, 4, [.int 16, .int 5, .null, .int 0], z0, zn)) dR_init_19 fuR_21 ⟨_, _, _, _, rfl, rfl, rfl, rfl⟩ hc_6 (Nat.le_of_ble_eq_true rfl) rfl (Nat.le_of_ble_eq_true rfl) rfl rfl ?_
  refine c_aload (i := 0) dR_init_22 rfl ?_
  refine c_aload (i := 0) dR_init_23 rfl ?_
  refine c_get (w := .int 16) (w' := .int 16) dR_init_24 fuR_15 (Nat.le_of_ble_eq_true rfl) rfl rfl rfl ?_
  refine c_aload (i := 0) dR_init_27 rfl ?_
  refine c_get (w := .int 5) (w' := .int 5) dR_init_28 fuR_21 (Nat.le_of_ble_eq_true rfl) rfl rfl rfl ?_
  refine c_imul (z := 80) dR_init_31 rfl ?_
  refine c_newi (N := 80) dR_init_32 ar_i (by decide) rfl (by decide) (Nat.le_of_ble_eq_true rfl) (Nat.le_of_ble_eq_true rfl) ?_
  refine c_put (w := .ref 41) (cc := (6, 4, [.int 16, .int 5, .ref 41, .int 0], z0, zn)) dR_init_34 fuR_24 ⟨_, _, _, _, rfl, rfl, rfl, rfl⟩ hc_6 (Nat.le_of_ble_eq_true rfl) rfl (Nat.le_of_ble_eq_true rfl) rfl rfl ?_
  refine c_aload (i := 0) dR_init_37 rfl ?_
  refine c_iconst (x := 0) dR_init_38 rfl ?_
  refine c_put (w := .int 0) (cc := (6, 4, [.int 16, .int 5, .ref 41, .int 0], z0, zn)) dR_init_39 fuR_28 ⟨_, _, _, _, rfl, rfl, rfl, rfl⟩ hc_6 (Nat.le_of_ble_eq_true rfl) rfl (Nat.le_of_ble_eq_true rfl) rfl rfl ?_
  exact c_ret dR_init_42 rfl rfl
noncomputable def pf_21 (F : CF) : CF := wr F [(42, (6, 4, df_6, z0, zn)), (42, (6, 4, [.int 400, .int 0, .null, .int 0], z0, zn)), (42, (6, 4, [.int 400, .int 2, .null, .int 0], z0, zn)), (43, (20, 800, [], z0, zn)), (42, (6, 4, [.int 400, .int 2, .ref 43, .int 0], z0, zn)), (42, (6, 4, [.int 400, .int 2, .ref 43, .int 0], z0, zn))]
set_option maxRecDepth 40000 in
theorem kx_21 (G : GG) (d : Nat) (F : CF) : Kc G tR_init d 1 800 [.ref (gB G + 42), .int 400, .int 2] 43 (sF F 42 (6, 4, df_6, z0, zn)) 44 (pf_21 F) := by
  refine K_of_Vc (by decide) rfl (by simp [cat_i, cat_r]) (by simp [tR_init]) ?_
  refine c_aload (i := 0) dR_init_0 rfl ?_
  refine c_obj dR_init_1 mlR_3 (Nat.le_of_ble_eq_true rfl) ?_
  refine c_aload (i := 0) dR_init_4 rfl ?_
  refine c_iload (i := 1) dR_init_5 rfl ?_
  refine c_iconst (x := 0) dR_init_6 rfl ?_
  refine c_mmax (z := 400) dR_init_7 mlR_9 rfl (Nat.le_of_ble_eq_true rfl) (Nat.le_of_ble_eq_true rfl) (Nat.le_of_ble_eq_true rfl) ?_
  refine c_put (w := .int 400) (cc := (6, 4, [.int 400, .int 0, .null, .int 0], z0, zn)) dR_init_10 fuR_15 ⟨_, _, _, _, rfl, rfl, rfl, rfl⟩ hc_6 (Nat.le_of_ble_eq_true rfl) rfl (Nat.le_of_ble_eq_true rfl) rfl rfl ?_
  refine c_aload (i := 0) dR_init_13 rfl ?_
  refine c_iload (i := 2) dR_init_14 rfl ?_
  refine c_iconst (x := 1) dR_init_15 rfl ?_
  refine c_mmax (z := 2) dR_init_16 mlR_9 rfl (Nat.le_of_ble_eq_true rfl) (Nat.le_of_ble_eq_true rfl) (Nat.le_of_ble_eq_true rfl) ?_
  refine c_put (w := .int 2) (cc := (6, 4, [.int 400, .int 2, .null, .int 0], z0, zn)) dR_init_19 fuR_21 ⟨_, _, _, _, rfl, rfl, rfl, rfl⟩ hc_6 (Nat.le_of_ble_eq_true rfl) rfl (Nat.le_of_ble_eq_true rfl) rfl rfl ?_
  refine c_aload (i := 0) dR_init_22 rfl ?_
  refine c_aload (i := 0) dR_init_23 rfl ?_
  refine c_get (w := .int 400) (w' := .int 400) dR_init_24 fuR_15 (Nat.le_of_ble_eq_true rfl) rfl rfl rfl ?_
  refine c_aload (i := 0) dR_init_27 rfl ?_
  refine c_get (w := .int 2) (w' := .int 2) dR_init_28 fuR_21 (Nat.le_of_ble_eq_true rfl) rfl rfl rfl ?_
  refine c_imul (z := 800) dR_init_31 rfl ?_
  refine c_newi (N := 800) dR_init_32 ar_i (by decide) rfl (by decide) (Nat.le_of_ble_eq_true rfl) (Nat.le_of_ble_eq_true rfl) ?_
  refine c_put (w := .ref 43) (cc := (6, 4, [.int 400, .int 2, .ref 43, .int 0], z0, zn)) dR_init_34 fuR_24 ⟨_, _, _, _, rfl, rfl, rfl, rfl⟩ hc_6 (Nat.le_of_ble_eq_true rfl) rfl (Nat.le_of_ble_eq_true rfl) rfl rfl ?_
  refine c_aload (i := 0) dR_init_37 rfl ?_
  refine c_iconst (x := 0) dR_init_38 rfl ?_
  refine c_put (w := .int 0) (cc := (6, 4, [.int 400, .int 2, .ref 43, .int 0], z0, zn)) dR_init_39 fuR_28 ⟨_, _, _, _, rfl, rfl, rfl, rfl⟩ hc_6 (Nat.le_of_ble_eq_true rfl) rfl (Nat.le_of_ble_eq_true rfl) rfl rfl ?_
  exact c_ret dR_init_42 rfl rfl
noncomputable def pf_22 (F : CF) : CF := wr F [(44, (6, 4, df_6, z0, zn)), (44, (6, 4, [.int 16, .int 0, .null, .int 0], z0, zn)), (44, (6, 4, [.int 16, .int 5, .null, .int 0], z0, zn)), (45, (20, 80, [], z0, zn)), (44, (6, 4, [.int 16, .int 5, .ref 45, .int 0], z0, zn)), (44, (6, 4, [.int 16, .int 5, .ref 45, .int 0], z0, zn))]
set_option maxRecDepth 40000 in
theorem kx_22 (G : GG) (d : Nat) (F : CF) : Kc G tR_init d 1 80 [.ref (gB G + 44), .int 16, .int 5] 45 (sF F 44 (6, 4, df_6, z0, zn)) 46 (pf_22 F) := by
  refine K_of_Vc (by decide) rfl (by simp [cat_i, cat_r]) (by simp [tR_init]) ?_
  refine c_aload (i := 0) dR_init_0 rfl ?_
  refine c_obj dR_init_1 mlR_3 (Nat.le_of_ble_eq_true rfl) ?_
  refine c_aload (i := 0) dR_init_4 rfl ?_
  refine c_iload (i := 1) dR_init_5 rfl ?_
  refine c_iconst (x := 0) dR_init_6 rfl ?_
  refine c_mmax (z := 16) dR_init_7 mlR_9 rfl (Nat.le_of_ble_eq_true rfl) (Nat.le_of_ble_eq_true rfl) (Nat.le_of_ble_eq_true rfl) ?_
  refine c_put (w := .int 16) (cc := (6, 4, [.int 16, .int 0, .null, .int 0], z0, zn)) dR_init_10 fuR_15 ⟨_, _, _, _, rfl, rfl, rfl, rfl⟩ hc_6 (Nat.le_of_ble_eq_true rfl) rfl (Nat.le_of_ble_eq_true rfl) rfl rfl ?_
  refine c_aload (i := 0) dR_init_13 rfl ?_
  refine c_iload (i := 2) dR_init_14 rfl ?_
  refine c_iconst (x := 1) dR_init_15 rfl ?_
  refine c_mmax (z := 5) dR_init_16 mlR_9 rfl (Nat.le_of_ble_eq_true rfl) (Nat.le_of_ble_eq_true rfl) (Nat.le_of_ble_eq_true rfl) ?_
  refine c_put (w := .int 5) (cc := (6, 4, [.int 16, .int 5, .null, .int 0], z0, zn)) dR_init_19 fuR_21 ⟨_, _, _, _, rfl, rfl, rfl, rfl⟩ hc_6 (Nat.le_of_ble_eq_true rfl) rfl (Nat.le_of_ble_eq_true rfl) rfl rfl ?_
  refine c_aload (i := 0) dR_init_22 rfl ?_
  refine c_aload (i := 0) dR_init_23 rfl ?_
  refine c_get (w := .int 16) (w' := .int 16) dR_init_24 fuR_15 (Nat.le_of_ble_eq_true rfl) rfl rfl rfl ?_
  refine c_aload (i := 0) dR_init_27 rfl ?_
  refine c_get (w := .int 5) (w' := .int 5) dR_init_28 fuR_21 (Nat.le_of_ble_eq_true rfl) rfl rfl rfl ?_
  refine c_imul (z := 80) dR_init_31 rfl ?_
  refine c_newi (N := 80) dR_init_32 ar_i (by decide) rfl (by decide) (Nat.le_of_ble_eq_true rfl) (Nat.le_of_ble_eq_true rfl) ?_
  refine c_put (w := .ref 45) (cc := (6, 4, [.int 16, .int 5, .ref 45, .int 0], z0, zn)) dR_init_34 fuR_24 ⟨_, _, _, _, rfl, rfl, rfl, rfl⟩ hc_6 (Nat.le_of_ble_eq_true rfl) rfl (Nat.le_of_ble_eq_true rfl) rfl rfl ?_
  refine c_aload (i := 0) dR_init_37 rfl ?_
  refine c_iconst (x := 0) dR_init_38 rfl ?_
  refine c_put (w := .int 0) (cc := (6, 4, [.int 16, .int 5, .ref 45, .int 0], z0, zn)) dR_init_39 fuR_28 ⟨_, _, _, _, rfl, rfl, rfl, rfl⟩ hc_6 (Nat.le_of_ble_eq_true rfl) rfl (Nat.le_of_ble_eq_true rfl) rfl rfl ?_
  exact c_ret dR_init_42 rfl rfl
noncomputable def pf_23 (F : CF) : CF := wr F [(46, (6, 4, df_6, z0, zn)), (46, (6, 4, [.int 16, .int 0, .null, .int 0], z0, zn)), (46, (6, 4, [.int 16, .int 5, .null, .int 0], z0, zn)), (47, (20, 80, [], z0, zn)), (46, (6, 4, [.int 16, .int 5, .ref 47, .int 0], z0, zn)), (46, (6, 4, [.int 16, .int 5, .ref 47, .int 0], z0, zn))]
set_option maxRecDepth 40000 in
theorem kx_23 (G : GG) (d : Nat) (F : CF) : Kc G tR_init d 1 80 [.ref (gB G + 46), .int 16, .int 5] 47 (sF F 46 (6, 4, df_6, z0, zn)) 48 (pf_23 F) := by
  refine K_of_Vc (by decide) rfl (by simp [cat_i, cat_r]) (by simp [tR_init]) ?_
  refine c_aload (i := 0) dR_init_0 rfl ?_
  refine c_obj dR_init_1 mlR_3 (Nat.le_of_ble_eq_true rfl) ?_
  refine c_aload (i := 0) dR_init_4 rfl ?_
  refine c_iload (i := 1) dR_init_5 rfl ?_
  refine c_iconst (x := 0) dR_init_6 rfl ?_
  refine c_mmax (z := 16) dR_init_7 mlR_9 rfl (Nat.le_of_ble_eq_true rfl) (Nat.le_of_ble_eq_true rfl) (Nat.le_of_ble_eq_true rfl) ?_
  refine c_put (w := .int 16) (cc := (6, 4, [.int 16, .int 0, .null, .int 0], z0, zn)) dR_init_10 fuR_15 ⟨_, _, _, _, rfl, rfl, rfl, rfl⟩ hc_6 (Nat.le_of_ble_eq_true rfl) rfl (Nat.le_of_ble_eq_true rfl) rfl rfl ?_
  refine c_aload (i := 0) dR_init_13 rfl ?_
  refine c_iload (i := 2) dR_init_14 rfl ?_
  refine c_iconst (x := 1) dR_init_15 rfl ?_
  refine c_mmax (z := 5) dR_init_16 mlR_9 rfl (Nat.le_of_ble_eq_true rfl) (Nat.le_of_ble_eq_true rfl) (Nat.le_of_ble_eq_true rfl) ?_
  refine c_put (w := .int 5) (cc := (6, 4, [.int 16, .int 5, .null, .int 0], z0, zn)) dR_init_19 fuR_21 ⟨_, _, _, _, rfl, rfl, rfl, rfl⟩ hc_6 (Nat.le_of_ble_eq_true rfl) rfl (Nat.le_of_ble_eq_true rfl) rfl rfl ?_
  refine c_aload (i := 0) dR_init_22 rfl ?_
  refine c_aload (i := 0) dR_init_23 rfl ?_
  refine c_get (w := .int 16) (w' := .int 16) dR_init_24 fuR_15 (Nat.le_of_ble_eq_true rfl) rfl rfl rfl ?_
  refine c_aload (i := 0) dR_init_27 rfl ?_
  refine c_get (w := .int 5) (w' := .int 5) dR_init_28 fuR_21 (Nat.le_of_ble_eq_true rfl) rfl rfl rfl ?_
  refine c_imul (z := 80) dR_init_31 rfl ?_
  refine c_newi (N := 80) dR_init_32 ar_i (by decide) rfl (by decide) (Nat.le_of_ble_eq_true rfl) (Nat.le_of_ble_eq_true rfl) ?_
  refine c_put (w := .ref 47) (cc := (6, 4, [.int 16, .int 5, .ref 47, .int 0], z0, zn)) dR_init_34 fuR_24 ⟨_, _, _, _, rfl, rfl, rfl, rfl⟩ hc_6 (Nat.le_of_ble_eq_true rfl) rfl (Nat.le_of_ble_eq_true rfl) rfl rfl ?_
  refine c_aload (i := 0) dR_init_37 rfl ?_
  refine c_iconst (x := 0) dR_init_38 rfl ?_
  refine c_put (w := .int 0) (cc := (6, 4, [.int 16, .int 5, .ref 47, .int 0], z0, zn)) dR_init_39 fuR_28 ⟨_, _, _, _, rfl, rfl, rfl, rfl⟩ hc_6 (Nat.le_of_ble_eq_true rfl) rfl (Nat.le_of_ble_eq_true rfl) rfl rfl ?_
  exact c_ret dR_init_42 rfl rfl
noncomputable def pf_24 (F : CF) : CF := wr F [(48, (6, 4, df_6, z0, zn)), (48, (6, 4, [.int 16, .int 0, .null, .int 0], z0, zn)), (48, (6, 4, [.int 16, .int 5, .null, .int 0], z0, zn)), (49, (20, 80, [], z0, zn)), (48, (6, 4, [.int 16, .int 5, .ref 49, .int 0], z0, zn)), (48, (6, 4, [.int 16, .int 5, .ref 49, .int 0], z0, zn))]
set_option maxRecDepth 40000 in
theorem kx_24 (G : GG) (d : Nat) (F : CF) : Kc G tR_init d 1 80 [.ref (gB G + 48), .int 16, .int 5] 49 (sF F 48 (6, 4, df_6, z0, zn)) 50 (pf_24 F) := by
  refine K_of_Vc (by decide) rfl (by simp [cat_i, cat_r]) (by simp [tR_init]) ?_
  refine c_aload (i := 0) dR_init_0 rfl ?_
  refine c_obj dR_init_1 mlR_3 (Nat.le_of_ble_eq_true rfl) ?_
  refine c_aload (i := 0) dR_init_4 rfl ?_
  refine c_iload (i := 1) dR_init_5 rfl ?_
  refine c_iconst (x := 0) dR_init_6 rfl ?_
  refine c_mmax (z := 16) dR_init_7 mlR_9 rfl (Nat.le_of_ble_eq_true rfl) (Nat.le_of_ble_eq_true rfl) (Nat.le_of_ble_eq_true rfl) ?_
  refine c_put (w := .int 16) (cc := (6, 4, [.int 16, .int 0, .null, .int 0], z0, zn)) dR_init_10 fuR_15 ⟨_, _, _, _, rfl, rfl, rfl, rfl⟩ hc_6 (Nat.le_of_ble_eq_true rfl) rfl (Nat.le_of_ble_eq_true rfl) rfl rfl ?_
  refine c_aload (i := 0) dR_init_13 rfl ?_
  refine c_iload (i := 2) dR_init_14 rfl ?_
  refine c_iconst (x := 1) dR_init_15 rfl ?_
  refine c_mmax (z := 5) dR_init_16 mlR_9 rfl (Nat.le_of_ble_eq_true rfl) (Nat.le_of_ble_eq_true rfl) (Nat.le_of_ble_eq_true rfl) ?_
  refine c_put (w := .int 5) (cc := (6, 4, [.int 16, .int 5, .null, .int 0], z0, zn)) dR_init_19 fuR_21 ⟨_, _, _, _, rfl, rfl, rfl, rfl⟩ hc_6 (Nat.le_of_ble_eq_true rfl) rfl (Nat.le_of_ble_eq_true rfl) rfl rfl ?_
  refine c_aload (i := 0) dR_init_22 rfl ?_
  refine c_aload (i := 0) dR_init_23 rfl ?_
  refine c_get (w := .int 16) (w' := .int 16) dR_init_24 fuR_15 (Nat.le_of_ble_eq_true rfl) rfl rfl rfl ?_
  refine c_aload (i := 0) dR_init_27 rfl ?_
  refine c_get (w := .int 5) (w' := .int 5) dR_init_28 fuR_21 (Nat.le_of_ble_eq_true rfl) rfl rfl rfl ?_
  refine c_imul (z := 80) dR_init_31 rfl ?_
  refine c_newi (N := 80) dR_init_32 ar_i (by decide) rfl (by decide) (Nat.le_of_ble_eq_true rfl) (Nat.le_of_ble_eq_true rfl) ?_
  refine c_put (w := .ref 49) (cc := (6, 4, [.int 16, .int 5, .ref 49, .int 0], z0, zn)) dR_init_34 fuR_24 ⟨_, _, _, _, rfl, rfl, rfl, rfl⟩ hc_6 (Nat.le_of_ble_eq_true rfl) rfl (Nat.le_of_ble_eq_true rfl) rfl rfl ?_
  refine c_aload (i := 0) dR_init_37 rfl ?_
  refine c_iconst (x := 0) dR_init_38 rfl ?_
  refine c_put (w := .int 0) (cc := (6, 4, [.int 16, .int 5, .ref 49, .int 0], z0, zn)) dR_init_39 fuR_28 ⟨_, _, _, _, rfl, rfl, rfl, rfl⟩ hc_6 (Nat.le_of_ble_eq_true rfl) rfl (Nat.le_of_ble_eq_true rfl) rfl rfl ?_
  exact c_ret dR_init_42 rfl rfl
noncomputable def pf_25 (F : CF) : CF := wr F [(50, (6, 4, df_6, z0, zn)), (50, (6, 4, [.int 150, .int 0, .null, .int 0], z0, zn)), (50, (6, 4, [.int 150, .int 4, .null, .int 0], z0, zn)), (51, (20, 600, [], z0, zn)), (50, (6, 4, [.int 150, .int 4, .ref 51, .int 0], z0, zn)), (50, (6, 4, [.int 150, .int 4, .ref 51, .int 0], z0, zn))]
set_option maxRecDepth 40000 in
theorem kx_25 (G : GG) (d : Nat) (F : CF) : Kc G tR_init d 1 600 [.ref (gB G + 50), .int 150, .int 4] 51 (sF F 50 (6, 4, df_6, z0, zn)) 52 (pf_25 F) := by
  refine K_of_Vc (by decide) rfl (by simp [cat_i, cat_r]) (by simp [tR_init]) ?_
  refine c_aload (i := 0) dR_init_0 rfl ?_
  refine c_obj dR_init_1 mlR_3 (Nat.le_of_ble_eq_true rfl) ?_
  refine c_aload (i := 0) dR_init_4 rfl ?_
  refine c_iload (i := 1) dR_init_5 rfl ?_
  refine c_iconst (x := 0) dR_init_6 rfl ?_
  refine c_mmax (z := 150) dR_init_7 mlR_9 rfl (Nat.le_of_ble_eq_true rfl) (Nat.le_of_ble_eq_true rfl) (Nat.le_of_ble_eq_true rfl) ?_
  refine c_put (w := .int 150) (cc := (6, 4, [.int 150, .int 0, .null, .int 0], z0, zn)) dR_init_10 fuR_15 ⟨_, _, _, _, rfl, rfl, rfl, rfl⟩ hc_6 (Nat.le_of_ble_eq_true rfl) rfl (Nat.le_of_ble_eq_true rfl) rfl rfl ?_
  refine c_aload (i := 0) dR_init_13 rfl ?_
  refine c_iload (i := 2) dR_init_14 rfl ?_
  refine c_iconst (x := 1) dR_init_15 rfl ?_
  refine c_mmax (z := 4) dR_init_16 mlR_9 rfl (Nat.le_of_ble_eq_true rfl) (Nat.le_of_ble_eq_true rfl) (Nat.le_of_ble_eq_true rfl) ?_
  refine c_put (w := .int 4) (cc := (6, 4, [.int 150, .int 4, .null, .int 0], z0, zn)) dR_init_19 fuR_21 ⟨_, _, _, _, rfl, rfl, rfl, rfl⟩ hc_6 (Nat.le_of_ble_eq_true rfl) rfl (Nat.le_of_ble_eq_true rfl) rfl rfl ?_
  refine c_aload (i := 0) dR_init_22 rfl ?_
  refine c_aload (i := 0) dR_init_23 rfl ?_
  refine c_get (w := .int 150) (w' := .int 150) dR_init_24 fuR_15 (Nat.le_of_ble_eq_true rfl) rfl rfl rfl ?_
  refine c_aload (i := 0) dR_init_27 rfl ?_
  refine c_get (w := .int 4) (w' := .int 4) dR_init_28 fuR_21 (Nat.le_of_ble_eq_true rfl) rfl rfl rfl ?_
  refine c_imul (z := 600) dR_init_31 rfl ?_
  refine c_newi (N := 600) dR_init_32 ar_i (by decide) rfl (by decide) (Nat.le_of_ble_eq_true rfl) (Nat.le_of_ble_eq_true rfl) ?_
  refine c_put (w := .ref 51) (cc := (6, 4, [.int 150, .int 4, .ref 51, .int 0], z0, zn)) dR_init_34 fuR_24 ⟨_, _, _, _, rfl, rfl, rfl, rfl⟩ hc_6 (Nat.le_of_ble_eq_true rfl) rfl (Nat.le_of_ble_eq_true rfl) rfl rfl ?_
  refine c_aload (i := 0) dR_init_37 rfl ?_
  refine c_iconst (x := 0) dR_init_38 rfl ?_
  refine c_put (w := .int 0) (cc := (6, 4, [.int 150, .int 4, .ref 51, .int 0], z0, zn)) dR_init_39 fuR_28 ⟨_, _, _, _, rfl, rfl, rfl, rfl⟩ hc_6 (Nat.le_of_ble_eq_true rfl) rfl (Nat.le_of_ble_eq_true rfl) rfl rfl ?_
  exact c_ret dR_init_42 rfl rfl
noncomputable def pf_26 (F : CF) : CF := wr F [(52, (6, 4, df_6, z0, zn)), (52, (6, 4, [.int 9, .int 0, .null, .int 0], z0, zn)), (52, (6, 4, [.int 9, .int 1, .null, .int 0], z0, zn)), (53, (20, 9, [], z0, zn)), (52, (6, 4, [.int 9, .int 1, .ref 53, .int 0], z0, zn)), (52, (6, 4, [.int 9, .int 1, .ref 53, .int 0], z0, zn))]
set_option maxRecDepth 40000 in
theorem kx_26 (G : GG) (d : Nat) (F : CF) : Kc G tR_init d 1 9 [.ref (gB G + 52), .int 9, .int 1] 53 (sF F 52 (6, 4, df_6, z0, zn)) 54 (pf_26 F) := by
  refine K_of_Vc (by decide) rfl (by simp [cat_i, cat_r]) (by simp [tR_init]) ?_
  refine c_aload (i := 0) dR_init_0 rfl ?_
  refine c_obj dR_init_1 mlR_3 (Nat.le_of_ble_eq_true rfl) ?_
  refine c_aload (i := 0) dR_init_4 rfl ?_
  refine c_iload (i := 1) dR_init_5 rfl ?_
  refine c_iconst (x := 0) dR_init_6 rfl ?_
  refine c_mmax (z := 9) dR_init_7 mlR_9 rfl (Nat.le_of_ble_eq_true rfl) (Nat.le_of_ble_eq_true rfl) (Nat.le_of_ble_eq_true rfl) ?_
  refine c_put (w := .int 9) (cc := (6, 4, [.int 9, .int 0, .null, .int 0], z0, zn)) dR_init_10 fuR_15 ⟨_, _, _, _, rfl, rfl, rfl, rfl⟩ hc_6 (Nat.le_of_ble_eq_true rfl) rfl (Nat.le_of_ble_eq_true rfl) rfl rfl ?_
  refine c_aload (i := 0) dR_init_13 rfl ?_
  refine c_iload (i := 2) dR_init_14 rfl ?_
  refine c_iconst (x := 1) dR_init_15 rfl ?_
  refine c_mmax (z := 1) dR_init_16 mlR_9 rfl (Nat.le_of_ble_eq_true rfl) (Nat.le_of_ble_eq_true rfl) (Nat.le_of_ble_eq_true rfl) ?_
  refine c_put (w := .int 1) (cc := (6, 4, [.int 9, .int 1, .null, .int 0], z0, zn)) dR_init_19 fuR_21 ⟨_, _, _, _, rfl, rfl, rfl, rfl⟩ hc_6 (Nat.le_of_ble_eq_true rfl) rfl (Nat.le_of_ble_eq_true rfl) rfl rfl ?_
  refine c_aload (i := 0) dR_init_22 rfl ?_
  refine c_aload (i := 0) dR_init_23 rfl ?_
  refine c_get (w := .int 9) (w' := .int 9) dR_init_24 fuR_15 (Nat.le_of_ble_eq_true rfl) rfl rfl rfl ?_
  refine c_aload (i := 0) dR_init_27 rfl ?_
  refine c_get (w := .int 1) (w' := .int 1) dR_init_28 fuR_21 (Nat.le_of_ble_eq_true rfl) rfl rfl rfl ?_
  refine c_imul (z := 9) dR_init_31 rfl ?_
  refine c_newi (N := 9) dR_init_32 ar_i (by decide) rfl (by decide) (Nat.le_of_ble_eq_true rfl) (Nat.le_of_ble_eq_true rfl) ?_
  refine c_put (w := .ref 53) (cc := (6, 4, [.int 9, .int 1, .ref 53, .int 0], z0, zn)) dR_init_34 fuR_24 ⟨_, _, _, _, rfl, rfl, rfl, rfl⟩ hc_6 (Nat.le_of_ble_eq_true rfl) rfl (Nat.le_of_ble_eq_true rfl) rfl rfl ?_
  refine c_aload (i := 0) dR_init_37 rfl ?_
  refine c_iconst (x := 0) dR_init_38 rfl ?_
  refine c_put (w := .int 0) (cc := (6, 4, [.int 9, .int 1, .ref 53, .int 0], z0, zn)) dR_init_39 fuR_28 ⟨_, _, _, _, rfl, rfl, rfl, rfl⟩ hc_6 (Nat.le_of_ble_eq_true rfl) rfl (Nat.le_of_ble_eq_true rfl) rfl rfl ?_
  exact c_ret dR_init_42 rfl rfl
noncomputable def pf_27 (F : CF) : CF := wr F [(54, (6, 4, df_6, z0, zn)), (54, (6, 4, [.int 8, .int 0, .null, .int 0], z0, zn)), (54, (6, 4, [.int 8, .int 1, .null, .int 0], z0, zn)), (55, (20, 8, [], z0, zn)), (54, (6, 4, [.int 8, .int 1, .ref 55, .int 0], z0, zn)), (54, (6, 4, [.int 8, .int 1, .ref 55, .int 0], z0, zn))]
set_option maxRecDepth 40000 in
theorem kx_27 (G : GG) (d : Nat) (F : CF) : Kc G tR_init d 1 8 [.ref (gB G + 54), .int 8, .int 1] 55 (sF F 54 (6, 4, df_6, z0, zn)) 56 (pf_27 F) := by
  refine K_of_Vc (by decide) rfl (by simp [cat_i, cat_r]) (by simp [tR_init]) ?_
  refine c_aload (i := 0) dR_init_0 rfl ?_
  refine c_obj dR_init_1 mlR_3 (Nat.le_of_ble_eq_true rfl) ?_
  refine c_aload (i := 0) dR_init_4 rfl ?_
  refine c_iload (i := 1) dR_init_5 rfl ?_
  refine c_iconst (x := 0) dR_init_6 rfl ?_
  refine c_mmax (z := 8) dR_init_7 mlR_9 rfl (Nat.le_of_ble_eq_true rfl) (Nat.le_of_ble_eq_true rfl) (Nat.le_of_ble_eq_true rfl) ?_
  refine c_put (w := .int 8) (cc := (6, 4, [.int 8, .int 0, .null, .int 0], z0, zn)) dR_init_10 fuR_15 ⟨_, _, _, _, rfl, rfl, rfl, rfl⟩ hc_6 (Nat.le_of_ble_eq_true rfl) rfl (Nat.le_of_ble_eq_true rfl) rfl rfl ?_
  refine c_aload (i := 0) dR_init_13 rfl ?_
  refine c_iload (i := 2) dR_init_14 rfl ?_
  refine c_iconst (x := 1) dR_init_15 rfl ?_
  refine c_mmax (z := 1) dR_init_16 mlR_9 rfl (Nat.le_of_ble_eq_true rfl) (Nat.le_of_ble_eq_true rfl) (Nat.le_of_ble_eq_true rfl) ?_
  refine c_put (w := .int 1) (cc := (6, 4, [.int 8, .int 1, .null, .int 0], z0, zn)) dR_init_19 fuR_21 ⟨_, _, _, _, rfl, rfl, rfl, rfl⟩ hc_6 (Nat.le_of_ble_eq_true rfl) rfl (Nat.le_of_ble_eq_true rfl) rfl rfl ?_
  refine c_aload (i := 0) dR_init_22 rfl ?_
  refine c_aload (i := 0) dR_init_23 rfl ?_
  refine c_get (w := .int 8) (w' := .int 8) dR_init_24 fuR_15 (Nat.le_of_ble_eq_true rfl) rfl rfl rfl ?_
  refine c_aload (i := 0) dR_init_27 rfl ?_
  refine c_get (w := .int 1) (w' := .int 1) dR_init_28 fuR_21 (Nat.le_of_ble_eq_true rfl) rfl rfl rfl ?_
  refine c_imul (z := 8) dR_init_31 rfl ?_
  refine c_newi (N := 8) dR_init_32 ar_i (by decide) rfl (by decide) (Nat.le_of_ble_eq_true rfl) (Nat.le_of_ble_eq_true rfl) ?_
  refine c_put (w := .ref 55) (cc := (6, 4, [.int 8, .int 1, .ref 55, .int 0], z0, zn)) dR_init_34 fuR_24 ⟨_, _, _, _, rfl, rfl, rfl, rfl⟩ hc_6 (Nat.le_of_ble_eq_true rfl) rfl (Nat.le_of_ble_eq_true rfl) rfl rfl ?_
  refine c_aload (i := 0) dR_init_37 rfl ?_
  refine c_iconst (x := 0) dR_init_38 rfl ?_
  refine c_put (w := .int 0) (cc := (6, 4, [.int 8, .int 1, .ref 55, .int 0], z0, zn)) dR_init_39 fuR_28 ⟨_, _, _, _, rfl, rfl, rfl, rfl⟩ hc_6 (Nat.le_of_ble_eq_true rfl) rfl (Nat.le_of_ble_eq_true rfl) rfl rfl ?_
  exact c_ret dR_init_42 rfl rfl
noncomputable def pf_28 (F : CF) : CF := wr F [(56, (6, 4, df_6, z0, zn)), (56, (6, 4, [.int 5, .int 0, .null, .int 0], z0, zn)), (56, (6, 4, [.int 5, .int 1, .null, .int 0], z0, zn)), (57, (20, 5, [], z0, zn)), (56, (6, 4, [.int 5, .int 1, .ref 57, .int 0], z0, zn)), (56, (6, 4, [.int 5, .int 1, .ref 57, .int 0], z0, zn))]
set_option maxRecDepth 40000 in
theorem kx_28 (G : GG) (d : Nat) (F : CF) : Kc G tR_init d 1 5 [.ref (gB G + 56), .int 5, .int 1] 57 (sF F 56 (6, 4, df_6, z0, zn)) 58 (pf_28 F) := by
  refine K_of_Vc (by decide) rfl (by simp [cat_i, cat_r]) (by simp [tR_init]) ?_
  refine c_aload (i := 0) dR_init_0 rfl ?_
  refine c_obj dR_init_1 mlR_3 (Nat.le_of_ble_eq_true rfl) ?_
  refine c_aload (i := 0) dR_init_4 rfl ?_
  refine c_iload (i := 1) dR_init_5 rfl ?_
  refine c_iconst (x := 0) dR_init_6 rfl ?_
  refine c_mmax (z := 5) dR_init_7 mlR_9 rfl (Nat.le_of_ble_eq_true rfl) (Nat.le_of_ble_eq_true rfl) (Nat.le_of_ble_eq_true rfl) ?_
  refine c_put (w := .int 5) (cc := (6, 4, [.int 5, .int 0, .null, .int 0], z0, zn)) dR_init_10 fuR_15 ⟨_, _, _, _, rfl, rfl, rfl, rfl⟩ hc_6 (Nat.le_of_ble_eq_true rfl) rfl (Nat.le_of_ble_eq_true rfl) rfl rfl ?_
  refine c_aload (i := 0) dR_init_13 rfl ?_
  refine c_iload (i := 2) dR_init_14 rfl ?_
  refine c_iconst (x := 1) dR_init_15 rfl ?_
  refine c_mmax (z := 1) dR_init_16 mlR_9 rfl (Nat.le_of_ble_eq_true rfl) (Nat.le_of_ble_eq_true rfl) (Nat.le_of_ble_eq_true rfl) ?_
  refine c_put (w := .int 1) (cc := (6, 4, [.int 5, .int 1, .null, .int 0], z0, zn)) dR_init_19 fuR_21 ⟨_, _, _, _, rfl, rfl, rfl, rfl⟩ hc_6 (Nat.le_of_ble_eq_true rfl) rfl (Nat.le_of_ble_eq_true rfl) rfl rfl ?_
  refine c_aload (i := 0) dR_init_22 rfl ?_
  refine c_aload (i := 0) dR_init_23 rfl ?_
  refine c_get (w := .int 5) (w' := .int 5) dR_init_24 fuR_15 (Nat.le_of_ble_eq_true rfl) rfl rfl rfl ?_
  refine c_aload (i := 0) dR_init_27 rfl ?_
  refine c_get (w := .int 1) (w' := .int 1) dR_init_28 fuR_21 (Nat.le_of_ble_eq_true rfl) rfl rfl rfl ?_
  refine c_imul (z := 5) dR_init_31 rfl ?_
  refine c_newi (N := 5) dR_init_32 ar_i (by decide) rfl (by decide) (Nat.le_of_ble_eq_true rfl) (Nat.le_of_ble_eq_true rfl) ?_
  refine c_put (w := .ref 57) (cc := (6, 4, [.int 5, .int 1, .ref 57, .int 0], z0, zn)) dR_init_34 fuR_24 ⟨_, _, _, _, rfl, rfl, rfl, rfl⟩ hc_6 (Nat.le_of_ble_eq_true rfl) rfl (Nat.le_of_ble_eq_true rfl) rfl rfl ?_
  refine c_aload (i := 0) dR_init_37 rfl ?_
  refine c_iconst (x := 0) dR_init_38 rfl ?_
  refine c_put (w := .int 0) (cc := (6, 4, [.int 5, .int 1, .ref 57, .int 0], z0, zn)) dR_init_39 fuR_28 ⟨_, _, _, _, rfl, rfl, rfl, rfl⟩ hc_6 (Nat.le_of_ble_eq_true rfl) rfl (Nat.le_of_ble_eq_true rfl) rfl rfl ?_
  exact c_ret dR_init_42 rfl rfl
noncomputable def pf_29 (F : CF) : CF := wr F [(58, (6, 4, df_6, z0, zn)), (58, (6, 4, [.int 8, .int 0, .null, .int 0], z0, zn)), (58, (6, 4, [.int 8, .int 2, .null, .int 0], z0, zn)), (59, (20, 16, [], z0, zn)), (58, (6, 4, [.int 8, .int 2, .ref 59, .int 0], z0, zn)), (58, (6, 4, [.int 8, .int 2, .ref 59, .int 0], z0, zn))]
set_option maxRecDepth 40000 in
theorem kx_29 (G : GG) (d : Nat) (F : CF) : Kc G tR_init d 1 16 [.ref (gB G + 58), .int 8, .int 2] 59 (sF F 58 (6, 4, df_6, z0, zn)) 60 (pf_29 F) := by
  refine K_of_Vc (by decide) rfl (by simp [cat_i, cat_r]) (by simp [tR_init]) ?_
  refine c_aload (i := 0) dR_init_0 rfl ?_
  refine c_obj dR_init_1 mlR_3 (Nat.le_of_ble_eq_true rfl) ?_
  refine c_aload (i := 0) dR_init_4 rfl ?_
  refine c_iload (i := 1) dR_init_5 rfl ?_
  refine c_iconst (x := 0) dR_init_6 rfl ?_
  refine c_mmax (z := 8) dR_init_7 mlR_9 rfl (Nat.le_of_ble_eq_true rfl) (Nat.le_of_ble_eq_true rfl) (Nat.le_of_ble_eq_true rfl) ?_
  refine c_put (w := .int 8) (cc := (6, 4, [.int 8, .int 0, .null, .int 0], z0, zn)) dR_init_10 fuR_15 ⟨_, _, _, _, rfl, rfl, rfl, rfl⟩ hc_6 (Nat.le_of_ble_eq_true rfl) rfl (Nat.le_of_ble_eq_true rfl) rfl rfl ?_
  refine c_aload (i := 0) dR_init_13 rfl ?_
  refine c_iload (i := 2) dR_init_14 rfl ?_
  refine c_iconst (x := 1) dR_init_15 rfl ?_
  refine c_mmax (z := 2) dR_init_16 mlR_9 rfl (Nat.le_of_ble_eq_true rfl) (Nat.le_of_ble_eq_true rfl) (Nat.le_of_ble_eq_true rfl) ?_
  refine c_put (w := .int 2) (cc := (6, 4, [.int 8, .int 2, .null, .int 0], z0, zn)) dR_init_19 fuR_21 ⟨_, _, _, _, rfl, rfl, rfl, rfl⟩ hc_6 (Nat.le_of_ble_eq_true rfl) rfl (Nat.le_of_ble_eq_true rfl) rfl rfl ?_
  refine c_aload (i := 0) dR_init_22 rfl ?_
  refine c_aload (i := 0) dR_init_23 rfl ?_
  refine c_get (w := .int 8) (w' := .int 8) dR_init_24 fuR_15 (Nat.le_of_ble_eq_true rfl) rfl rfl rfl ?_
  refine c_aload (i := 0) dR_init_27 rfl ?_
  refine c_get (w := .int 2) (w' := .int 2) dR_init_28 fuR_21 (Nat.le_of_ble_eq_true rfl) rfl rfl rfl ?_
  refine c_imul (z := 16) dR_init_31 rfl ?_
  refine c_newi (N := 16) dR_init_32 ar_i (by decide) rfl (by decide) (Nat.le_of_ble_eq_true rfl) (Nat.le_of_ble_eq_true rfl) ?_
  refine c_put (w := .ref 59) (cc := (6, 4, [.int 8, .int 2, .ref 59, .int 0], z0, zn)) dR_init_34 fuR_24 ⟨_, _, _, _, rfl, rfl, rfl, rfl⟩ hc_6 (Nat.le_of_ble_eq_true rfl) rfl (Nat.le_of_ble_eq_true rfl) rfl rfl ?_
  refine c_aload (i := 0) dR_init_37 rfl ?_
  refine c_iconst (x := 0) dR_init_38 rfl ?_
  refine c_put (w := .int 0) (cc := (6, 4, [.int 8, .int 2, .ref 59, .int 0], z0, zn)) dR_init_39 fuR_28 ⟨_, _, _, _, rfl, rfl, rfl, rfl⟩ hc_6 (Nat.le_of_ble_eq_true rfl) rfl (Nat.le_of_ble_eq_true rfl) rfl rfl ?_
  exact c_ret dR_init_42 rfl rfl
noncomputable def pf_30 (F : CF) : CF := wr F [(60, (6, 4, df_6, z0, zn)), (60, (6, 4, [.int 16, .int 0, .null, .int 0], z0, zn)), (60, (6, 4, [.int 16, .int 1, .null, .int 0], z0, zn)), (61, (20, 16, [], z0, zn)), (60, (6, 4, [.int 16, .int 1, .ref 61, .int 0], z0, zn)), (60, (6, 4, [.int 16, .int 1, .ref 61, .int 0], z0, zn))]
set_option maxRecDepth 40000 in
theorem kx_30 (G : GG) (d : Nat) (F : CF) : Kc G tR_init d 1 16 [.ref (gB G + 60), .int 16, .int 1] 61 (sF F 60 (6, 4, df_6, z0, zn)) 62 (pf_30 F) := by
  refine K_of_Vc (by decide) rfl (by simp [cat_i, cat_r]) (by simp [tR_init]) ?_
  refine c_aload (i := 0) dR_init_0 rfl ?_
  refine c_obj dR_init_1 mlR_3 (Nat.le_of_ble_eq_true rfl) ?_
  refine c_aload (i := 0) dR_init_4 rfl ?_
  refine c_iload (i := 1) dR_init_5 rfl ?_
  refine c_iconst (x := 0) dR_init_6 rfl ?_
  refine c_mmax (z := 16) dR_init_7 mlR_9 rfl (Nat.le_of_ble_eq_true rfl) (Nat.le_of_ble_eq_true rfl) (Nat.le_of_ble_eq_true rfl) ?_
  refine c_put (w := .int 16) (cc := (6, 4, [.int 16, .int 0, .null, .int 0], z0, zn)) dR_init_10 fuR_15 ⟨_, _, _, _, rfl, rfl, rfl, rfl⟩ hc_6 (Nat.le_of_ble_eq_true rfl) rfl (Nat.le_of_ble_eq_true rfl) rfl rfl ?_
  refine c_aload (i := 0) dR_init_13 rfl ?_
  refine c_iload (i := 2) dR_init_14 rfl ?_
  refine c_iconst (x := 1) dR_init_15 rfl ?_
  refine c_mmax (z := 1) dR_init_16 mlR_9 rfl (Nat.le_of_ble_eq_true rfl) (Nat.le_of_ble_eq_true rfl) (Nat.le_of_ble_eq_true rfl) ?_
  refine c_put (w := .int 1) (cc := (6, 4, [.int 16, .int 1, .null, .int 0], z0, zn)) dR_init_19 fuR_21 ⟨_, _, _, _, rfl, rfl, rfl, rfl⟩ hc_6 (Nat.le_of_ble_eq_true rfl) rfl (Nat.le_of_ble_eq_true rfl) rfl rfl ?_
  refine c_aload (i := 0) dR_init_22 rfl ?_
  refine c_aload (i := 0) dR_init_23 rfl ?_
  refine c_get (w := .int 16) (w' := .int 16) dR_init_24 fuR_15 (Nat.le_of_ble_eq_true rfl) rfl rfl rfl ?_
  refine c_aload (i := 0) dR_init_27 rfl ?_
  refine c_get (w := .int 1) (w' := .int 1) dR_init_28 fuR_21 (Nat.le_of_ble_eq_true rfl) rfl rfl rfl ?_
  refine c_imul (z := 16) dR_init_31 rfl ?_
  refine c_newi (N := 16) dR_init_32 ar_i (by decide) rfl (by decide) (Nat.le_of_ble_eq_true rfl) (Nat.le_of_ble_eq_true rfl) ?_
  refine c_put (w := .ref 61) (cc := (6, 4, [.int 16, .int 1, .ref 61, .int 0], z0, zn)) dR_init_34 fuR_24 ⟨_, _, _, _, rfl, rfl, rfl, rfl⟩ hc_6 (Nat.le_of_ble_eq_true rfl) rfl (Nat.le_of_ble_eq_true rfl) rfl rfl ?_
  refine c_aload (i := 0) dR_init_37 rfl ?_
  refine c_iconst (x := 0) dR_init_38 rfl ?_
  refine c_put (w := .int 0) (cc := (6, 4, [.int 16, .int 1, .ref 61, .int 0], z0, zn)) dR_init_39 fuR_28 ⟨_, _, _, _, rfl, rfl, rfl, rfl⟩ hc_6 (Nat.le_of_ble_eq_true rfl) rfl (Nat.le_of_ble_eq_true rfl) rfl rfl ?_
  exact c_ret dR_init_42 rfl rfl
noncomputable def pf_31 (F : CF) : CF := wr F [(62, (6, 4, df_6, z0, zn)), (62, (6, 4, [.int 6, .int 0, .null, .int 0], z0, zn)), (62, (6, 4, [.int 6, .int 2, .null, .int 0], z0, zn)), (63, (20, 12, [], z0, zn)), (62, (6, 4, [.int 6, .int 2, .ref 63, .int 0], z0, zn)), (62, (6, 4, [.int 6, .int 2, .ref 63, .int 0], z0, zn))]
set_option maxRecDepth 40000 in
theorem kx_31 (G : GG) (d : Nat) (F : CF) : Kc G tR_init d 1 12 [.ref (gB G + 62), .int 6, .int 2] 63 (sF F 62 (6, 4, df_6, z0, zn)) 64 (pf_31 F) := by
  refine K_of_Vc (by decide) rfl (by simp [cat_i, cat_r]) (by simp [tR_init]) ?_
  refine c_aload (i := 0) dR_init_0 rfl ?_
  refine c_obj dR_init_1 mlR_3 (Nat.le_of_ble_eq_true rfl) ?_
  refine c_aload (i := 0) dR_init_4 rfl ?_
  refine c_iload (i := 1) dR_init_5 rfl ?_
  refine c_iconst (x := 0) dR_init_6 rfl ?_
  refine c_mmax (z := 6) dR_init_7 mlR_9 rfl (Nat.le_of_ble_eq_true rfl) (Nat.le_of_ble_eq_true rfl) (Nat.le_of_ble_eq_true rfl) ?_
  refine c_put (w := .int 6) (cc := (6, 4, [.int 6, .int 0, .null, .int 0], z0, zn)) dR_init_10 fuR_15 ⟨_, _, _, _, rfl, rfl, rfl, rfl⟩ hc_6 (Nat.le_of_ble_eq_true rfl) rfl (Nat.le_of_ble_eq_true rfl) rfl rfl ?_
  refine c_aload (i := 0) dR_init_13 rfl ?_
  refine c_iload (i := 2) dR_init_14 rfl ?_
  refine c_iconst (x := 1) dR_init_15 rfl ?_
  refine c_mmax (z := 2) dR_init_16 mlR_9 rfl (Nat.le_of_ble_eq_true rfl) (Nat.le_of_ble_eq_true rfl) (Nat.le_of_ble_eq_true rfl) ?_
  refine c_put (w := .int 2) (cc := (6, 4, [.int 6, .int 2, .null, .int 0], z0, zn)) dR_init_19 fuR_21 ⟨_, _, _, _, rfl, rfl, rfl, rfl⟩ hc_6 (Nat.le_of_ble_eq_true rfl) rfl (Nat.le_of_ble_eq_true rfl) rfl rfl ?_
  refine c_aload (i := 0) dR_init_22 rfl ?_
  refine c_aload (i := 0) dR_init_23 rfl ?_
  refine c_get (w := .int 6) (w' := .int 6) dR_init_24 fuR_15 (Nat.le_of_ble_eq_true rfl) rfl rfl rfl ?_
  refine c_aload (i := 0) dR_init_27 rfl ?_
  refine c_get (w := .int 2) (w' := .int 2) dR_init_28 fuR_21 (Nat.le_of_ble_eq_true rfl) rfl rfl rfl ?_
  refine c_imul (z := 12) dR_init_31 rfl ?_
  refine c_newi (N := 12) dR_init_32 ar_i (by decide) rfl (by decide) (Nat.le_of_ble_eq_true rfl) (Nat.le_of_ble_eq_true rfl) ?_
  refine c_put (w := .ref 63) (cc := (6, 4, [.int 6, .int 2, .ref 63, .int 0], z0, zn)) dR_init_34 fuR_24 ⟨_, _, _, _, rfl, rfl, rfl, rfl⟩ hc_6 (Nat.le_of_ble_eq_true rfl) rfl (Nat.le_of_ble_eq_true rfl) rfl rfl ?_
  refine c_aload (i := 0) dR_init_37 rfl ?_
  refine c_iconst (x := 0) dR_init_38 rfl ?_
  refine c_put (w := .int 0) (cc := (6, 4, [.int 6, .int 2, .ref 63, .int 0], z0, zn)) dR_init_39 fuR_28 ⟨_, _, _, _, rfl, rfl, rfl, rfl⟩ hc_6 (Nat.le_of_ble_eq_true rfl) rfl (Nat.le_of_ble_eq_true rfl) rfl rfl ?_
  exact c_ret dR_init_42 rfl rfl
noncomputable def pf_32 (F : CF) : CF := wr F [(64, (6, 4, df_6, z0, zn)), (64, (6, 4, [.int 12, .int 0, .null, .int 0], z0, zn)), (64, (6, 4, [.int 12, .int 2, .null, .int 0], z0, zn)), (65, (20, 24, [], z0, zn)), (64, (6, 4, [.int 12, .int 2, .ref 65, .int 0], z0, zn)), (64, (6, 4, [.int 12, .int 2, .ref 65, .int 0], z0, zn))]
set_option maxRecDepth 40000 in
theorem kx_32 (G : GG) (d : Nat) (F : CF) : Kc G tR_init d 1 24 [.ref (gB G + 64), .int 12, .int 2] 65 (sF F 64 (6, 4, df_6, z0, zn)) 66 (pf_32 F) := by
  refine K_of_Vc (by decide) rfl (by simp [cat_i, cat_r]) (by simp [tR_init]) ?_
  refine c_aload (i := 0) dR_init_0 rfl ?_
  refine c_obj dR_init_1 mlR_3 (Nat.le_of_ble_eq_true rfl) ?_
  refine c_aload (i := 0) dR_init_4 rfl ?_
  refine c_iload (i := 1) dR_init_5 rfl ?_
  refine c_iconst (x := 0) dR_init_6 rfl ?_
  refine c_mmax (z := 12) dR_init_7 mlR_9 rfl (Nat.le_of_ble_eq_true rfl) (Nat.le_of_ble_eq_true rfl) (Nat.le_of_ble_eq_true rfl) ?_
  refine c_put (w := .int 12) (cc := (6, 4, [.int 12, .int 0, .null, .int 0], z0, zn)) dR_init_10 fuR_15 ⟨_, _, _, _, rfl, rfl, rfl, rfl⟩ hc_6 (Nat.le_of_ble_eq_true rfl) rfl (Nat.le_of_ble_eq_true rfl) rfl rfl ?_
  refine c_aload (i := 0) dR_init_13 rfl ?_
  refine c_iload (i := 2) dR_init_14 rfl ?_
  refine c_iconst (x := 1) dR_init_15 rfl ?_
  refine c_mmax (z := 2) dR_init_16 mlR_9 rfl (Nat.le_of_ble_eq_true rfl) (Nat.le_of_ble_eq_true rfl) (Nat.le_of_ble_eq_true rfl) ?_
  refine c_put (w := .int 2) (cc := (6, 4, [.int 12, .int 2, .null, .int 0], z0, zn)) dR_init_19 fuR_21 ⟨_, _, _, _, rfl, rfl, rfl, rfl⟩ hc_6 (Nat.le_of_ble_eq_true rfl) rfl (Nat.le_of_ble_eq_true rfl) rfl rfl ?_
  refine c_aload (i := 0) dR_init_22 rfl ?_
  refine c_aload (i := 0) dR_init_23 rfl ?_
  refine c_get (w := .int 12) (w' := .int 12) dR_init_24 fuR_15 (Nat.le_of_ble_eq_true rfl) rfl rfl rfl ?_
  refine c_aload (i := 0) dR_init_27 rfl ?_
  refine c_get (w := .int 2) (w' := .int 2) dR_init_28 fuR_21 (Nat.le_of_ble_eq_true rfl) rfl rfl rfl ?_
  refine c_imul (z := 24) dR_init_31 rfl ?_
  refine c_newi (N := 24) dR_init_32 ar_i (by decide) rfl (by decide) (Nat.le_of_ble_eq_true rfl) (Nat.le_of_ble_eq_true rfl) ?_
  refine c_put (w := .ref 65) (cc := (6, 4, [.int 12, .int 2, .ref 65, .int 0], z0, zn)) dR_init_34 fuR_24 ⟨_, _, _, _, rfl, rfl, rfl, rfl⟩ hc_6 (Nat.le_of_ble_eq_true rfl) rfl (Nat.le_of_ble_eq_true rfl) rfl rfl ?_
  refine c_aload (i := 0) dR_init_37 rfl ?_
  refine c_iconst (x := 0) dR_init_38 rfl ?_
  refine c_put (w := .int 0) (cc := (6, 4, [.int 12, .int 2, .ref 65, .int 0], z0, zn)) dR_init_39 fuR_28 ⟨_, _, _, _, rfl, rfl, rfl, rfl⟩ hc_6 (Nat.le_of_ble_eq_true rfl) rfl (Nat.le_of_ble_eq_true rfl) rfl rfl ?_
  exact c_ret dR_init_42 rfl rfl
noncomputable def pf_33 (F : CF) : CF := wr F [(66, (6, 4, df_6, z0, zn)), (66, (6, 4, [.int 8, .int 0, .null, .int 0], z0, zn)), (66, (6, 4, [.int 8, .int 2, .null, .int 0], z0, zn)), (67, (20, 16, [], z0, zn)), (66, (6, 4, [.int 8, .int 2, .ref 67, .int 0], z0, zn)), (66, (6, 4, [.int 8, .int 2, .ref 67, .int 0], z0, zn))]
set_option maxRecDepth 40000 in
theorem kx_33 (G : GG) (d : Nat) (F : CF) : Kc G tR_init d 1 16 [.ref (gB G + 66), .int 8, .int 2] 67 (sF F 66 (6, 4, df_6, z0, zn)) 68 (pf_33 F) := by
  refine K_of_Vc (by decide) rfl (by simp [cat_i, cat_r]) (by simp [tR_init]) ?_
  refine c_aload (i := 0) dR_init_0 rfl ?_
  refine c_obj dR_init_1 mlR_3 (Nat.le_of_ble_eq_true rfl) ?_
  refine c_aload (i := 0) dR_init_4 rfl ?_
  refine c_iload (i := 1) dR_init_5 rfl ?_
  refine c_iconst (x := 0) dR_init_6 rfl ?_
  refine c_mmax (z := 8) dR_init_7 mlR_9 rfl (Nat.le_of_ble_eq_true rfl) (Nat.le_of_ble_eq_true rfl) (Nat.le_of_ble_eq_true rfl) ?_
  refine c_put (w := .int 8) (cc := (6, 4, [.int 8, .int 0, .null, .int 0], z0, zn)) dR_init_10 fuR_15 ⟨_, _, _, _, rfl, rfl, rfl, rfl⟩ hc_6 (Nat.le_of_ble_eq_true rfl) rfl (Nat.le_of_ble_eq_true rfl) rfl rfl ?_
  refine c_aload (i := 0) dR_init_13 rfl ?_
  refine c_iload (i := 2) dR_init_14 rfl ?_
  refine c_iconst (x := 1) dR_init_15 rfl ?_
  refine c_mmax (z := 2) dR_init_16 mlR_9 rfl (Nat.le_of_ble_eq_true rfl) (Nat.le_of_ble_eq_true rfl) (Nat.le_of_ble_eq_true rfl) ?_
  refine c_put (w := .int 2) (cc := (6, 4, [.int 8, .int 2, .null, .int 0], z0, zn)) dR_init_19 fuR_21 ⟨_, _, _, _, rfl, rfl, rfl, rfl⟩ hc_6 (Nat.le_of_ble_eq_true rfl) rfl (Nat.le_of_ble_eq_true rfl) rfl rfl ?_
  refine c_aload (i := 0) dR_init_22 rfl ?_
  refine c_aload (i := 0) dR_init_23 rfl ?_
  refine c_get (w := .int 8) (w' := .int 8) dR_init_24 fuR_15 (Nat.le_of_ble_eq_true rfl) rfl rfl rfl ?_
  refine c_aload (i := 0) dR_init_27 rfl ?_
  refine c_get (w := .int 2) (w' := .int 2) dR_init_28 fuR_21 (Nat.le_of_ble_eq_true rfl) rfl rfl rfl ?_
  refine c_imul (z := 16) dR_init_31 rfl ?_
  refine c_newi (N := 16) dR_init_32 ar_i (by decide) rfl (by decide) (Nat.le_of_ble_eq_true rfl) (Nat.le_of_ble_eq_true rfl) ?_
  refine c_put (w := .ref 67) (cc := (6, 4, [.int 8, .int 2, .ref 67, .int 0], z0, zn)) dR_init_34 fuR_24 ⟨_, _, _, _, rfl, rfl, rfl, rfl⟩ hc_6 (Nat.le_of_ble_eq_true rfl) rfl (Nat.le_of_ble_eq_true rfl) rfl rfl ?_
  refine c_aload (i := 0) dR_init_37 rfl ?_
  refine c_iconst (x := 0) dR_init_38 rfl ?_
  refine c_put (w := .int 0) (cc := (6, 4, [.int 8, .int 2, .ref 67, .int 0], z0, zn)) dR_init_39 fuR_28 ⟨_, _, _, _, rfl, rfl, rfl, rfl⟩ hc_6 (Nat.le_of_ble_eq_true rfl) rfl (Nat.le_of_ble_eq_true rfl) rfl rfl ?_
  exact c_ret dR_init_42 rfl rfl
noncomputable def pf_34 (F : CF) : CF := wr F [(39, (11, 14, df_11, z0, zn)), (40, (6, 4, df_6, z0, zn)), (40, (6, 4, [.int 16, .int 0, .null, .int 0], z0, zn)), (40, (6, 4, [.int 16, .int 5, .null, .int 0], z0, zn)), (41, (20, 80, [], z0, zn)), (40, (6, 4, [.int 16, .int 5, .ref 41, .int 0], z0, zn)), (40, (6, 4, [.int 16, .int 5, .ref 41, .int 0], z0, zn)), (39, (11, 14, [.ref 40, .null, .null, .null, .null, .null, .null, .null, .null, .null, .null, .null, .null, .null], z0, zn)), (42, (6, 4, df_6, z0, zn)), (42, (6, 4, [.int 400, .int 0, .null, .int 0], z0, zn)), (42, (6, 4, [.int 400, .int 2, .null, .int 0], z0, zn)), (43, (20, 800, [], z0, zn)), (42, (6, 4, [.int 400, .int 2, .ref 43, .int 0], z0, zn)), (42, (6, 4, [.int 400, .int 2, .ref 43, .int 0], z0, zn)), (39, (11, 14, [.ref 40, .ref 42, .null, .null, .null, .null, .null, .null, .null, .null, .null, .null, .null, .null], z0, zn)), (44, (6, 4, df_6, z0, zn)), (44, (6, 4, [.int 16, .int 0, .null, .int 0], z0, zn)), (44, (6, 4, [.int 16, .int 5, .null, .int 0], z0, zn)), (45, (20, 80, [], z0, zn)), (44, (6, 4, [.int 16, .int 5, .ref 45, .int 0], z0, zn)), (44, (6, 4, [.int 16, .int 5, .ref 45, .int 0], z0, zn)), (39, (11, 14, [.ref 40, .ref 42, .ref 44, .null, .null, .null, .null, .null, .null, .null, .null, .null, .null, .null], z0, zn)), (46, (6, 4, df_6, z0, zn)), (46, (6, 4, [.int 16, .int 0, .null, .int 0], z0, zn)), (46, (6, 4, [.int 16, .int 5, .null, .int 0], z0, zn)), (47, (20, 80, [], z0, zn)), (46, (6, 4, [.int 16, .int 5, .ref 47, .int 0], z0, zn)), (46, (6, 4, [.int 16, .int 5, .ref 47, .int 0], z0, zn)), (39, (11, 14, [.ref 40, .ref 42, .ref 44, .ref 46, .null, .null, .null, .null, .null, .null, .null, .null, .null, .null], z0, zn)), (48, (6, 4, df_6, z0, zn)), (48, (6, 4, [.int 16, .int 0, .null, .int 0], z0, zn)), (48, (6, 4, [.int 16, .int 5, .null, .int 0], z0, zn)), (49, (20, 80, [], z0, zn)), (48, (6, 4, [.int 16, .int 5, .ref 49, .int 0], z0, zn)), (48, (6, 4, [.int 16, .int 5, .ref 49, .int 0], z0, zn)), (39, (11, 14, [.ref 40, .ref 42, .ref 44, .ref 46, .ref 48, .null, .null, .null, .null, .null, .null, .null, .null, .null], z0, zn)), (50, (6, 4, df_6, z0, zn)), (50, (6, 4, [.int 150, .int 0, .null, .int 0], z0, zn)), (50, (6, 4, [.int 150, .int 4, .null, .int 0], z0, zn)), (51, (20, 600, [], z0, zn)), (50, (6, 4, [.int 150, .int 4, .ref 51, .int 0], z0, zn)), (50, (6, 4, [.int 150, .int 4, .ref 51, .int 0], z0, zn)), (39, (11, 14, [.ref 40, .ref 42, .ref 44, .ref 46, .ref 48, .ref 50, .null, .null, .null, .null, .null, .null, .null, .null], z0, zn)), (52, (6, 4, df_6, z0, zn)), (52, (6, 4, [.int 9, .int 0, .null, .int 0], z0, zn)), (52, (6, 4, [.int 9, .int 1, .null, .int 0], z0, zn)), (53, (20, 9, [], z0, zn)), (52, (6, 4, [.int 9, .int 1, .ref 53, .int 0], z0, zn)), (52, (6, 4, [.int 9, .int 1, .ref 53, .int 0], z0, zn)), (39, (11, 14, [.ref 40, .ref 42, .ref 44, .ref 46, .ref 48, .ref 50, .ref 52, .null, .null, .null, .null, .null, .null, .null], z0, zn)), (54, (6, 4, df_6, z0, zn)), (54, (6, 4, [.int 8, .int 0, .null, .int 0], z0, zn)), (54, (6, 4, [.int 8, .int 1, .null, .int 0], z0, zn)), (55, (20, 8, [], z0, zn)), (54, (6, 4, [.int 8, .int 1, .ref 55, .int 0], z0, zn)), (54, (6, 4, [.int 8, .int 1, .ref 55, .int 0], z0, zn)), (39, (11, 14, [.ref 40, .ref 42, .ref 44, .ref 46, .ref 48, .ref 50, .ref 52, .ref 54, .null, .null, .null, .null, .null, .null], z0, zn)), (56, (6, 4, df_6, z0, zn)), (56, (6, 4, [.int 5, .int 0, .null, .int 0], z0, zn)), (56, (6, 4, [.int 5, .int 1, .null, .int 0], z0, zn)), (57, (20, 5, [], z0, zn)), (56, (6, 4, [.int 5, .int 1, .ref 57, .int 0], z0, zn)), (56, (6, 4, [.int 5, .int 1, .ref 57, .int 0], z0, zn)), (39, (11, 14, [.ref 40, .ref 42, .ref 44, .ref 46, .ref 48, .ref 50, .ref 52, .ref 54, .ref 56, .null, .null, .null, .null, .null], z0, zn)), (58, (6, 4, df_6, z0, zn)), (58, (6, 4, [.int 8, .int 0, .null, .int 0], z0, zn)), (58, (6, 4, [.int 8, .int 2, .null, .int 0], z0, zn)), (59, (20, 16, [], z0, zn)), (58, (6, 4, [.int 8, .int 2, .ref 59, .int 0], z0, zn)), (58, (6, 4, [.int 8, .int 2, .ref 59, .int 0], z0, zn)), (39, (11, 14, [.ref 40, .ref 42, .ref 44, .ref 46, .ref 48, .ref 50, .ref 52, .ref 54, .ref 56, .ref 58, .null, .null, .null, .null], z0, zn)), (60, (6, 4, df_6, z0, zn)), (60, (6, 4, [.int 16, .int 0, .null, .int 0], z0, zn)), (60, (6, 4, [.int 16, .int 1, .null, .int 0], z0, zn)), (61, (20, 16, [], z0, zn)), (60, (6, 4, [.int 16, .int 1, .ref 61, .int 0], z0, zn)), (60, (6, 4, [.int 16, .int 1, .ref 61, .int 0], z0, zn)), (39, (11, 14, [.ref 40, .ref 42, .ref 44, .ref 46, .ref 48, .ref 50, .ref 52, .ref 54, .ref 56, .ref 58, .ref 60, .null, .null, .null], z0, zn)), (62, (6, 4, df_6, z0, zn)), (62, (6, 4, [.int 6, .int 0, .null, .int 0], z0, zn)), (62, (6, 4, [.int 6, .int 2, .null, .int 0], z0, zn)), (63, (20, 12, [], z0, zn)), (62, (6, 4, [.int 6, .int 2, .ref 63, .int 0], z0, zn)), (62, (6, 4, [.int 6, .int 2, .ref 63, .int 0], z0, zn)), (39, (11, 14, [.ref 40, .ref 42, .ref 44, .ref 46, .ref 48, .ref 50, .ref 52, .ref 54, .ref 56, .ref 58, .ref 60, .ref 62, .null, .null], z0, zn)), (64, (6, 4, df_6, z0, zn)), (64, (6, 4, [.int 12, .int 0, .null, .int 0], z0, zn)), (64, (6, 4, [.int 12, .int 2, .null, .int 0], z0, zn)), (65, (20, 24, [], z0, zn)), (64, (6, 4, [.int 12, .int 2, .ref 65, .int 0], z0, zn)), (64, (6, 4, [.int 12, .int 2, .ref 65, .int 0], z0, zn)), (39, (11, 14, [.ref 40, .ref 42, .ref 44, .ref 46, .ref 48, .ref 50, .ref 52, .ref 54, .ref 56, .ref 58, .ref 60, .ref 62, .ref 64, .null], z0, zn)), (66, (6, 4, df_6, z0, zn)), (66, (6, 4, [.int 8, .int 0, .null, .int 0], z0, zn)), (66, (6, 4, [.int 8, .int 2, .null, .int 0], z0, zn)), (67, (20, 16, [], z0, zn)), (66, (6, 4, [.int 8, .int 2, .ref 67, .int 0], z0, zn)), (66, (6, 4, [.int 8, .int 2, .ref 67, .int 0], z0, zn)), (39, (11, 14, [.ref 40, .ref 42, .ref 44, .ref 46, .ref 48, .ref 50, .ref 52, .ref 54, .ref 56, .ref 58, .ref 60, .ref 62, .ref 64, .ref 66], z0, zn))]
set_option maxRecDepth 40000 in
theorem kx_34 (G : GG) (d : Nat) (F : CF) : Kc G tO_init (d + 1) 28 1882 [.ref (gB G + 39)] 40 (sF F 39 (11, 14, df_11, z0, zn)) 68 (pf_34 F) := by
  refine K_of_Vc (by decide) rfl (by simp [cat_i, cat_r]) (by simp [tO_init]) ?_
  refine c_aload (i := 0) dO_init_0 rfl ?_
  refine c_obj dO_init_1 mlO_3 (Nat.le_of_ble_eq_true rfl) ?_
  refine c_aload (i := 0) dO_init_4 rfl ?_
  refine c_new (ci := 6) (ty := ty_6) df_6 dO_init_5 clO_9 in_6 iz_6 rfl ty_ok_6 df_ok_6 rfl (Nat.le_of_ble_eq_true rfl) (Nat.le_of_ble_eq_true rfl) ?_
  refine c_dup dO_init_8 rfl ?_
  refine c_bipush (x := 16) dO_init_9 rfl ?_
  refine c_iconst (x := 5) dO_init_11 rfl ?_
  refine c_call (M' := tR_init) dO_init_12 mlO_11 okiR_init rfl rfl (Nat.le_of_ble_eq_true rfl) (Nat.le_of_ble_eq_true rfl) (Nat.le_of_ble_eq_true rfl) (kx_20 G d _) ?_
  refine c_put (w := .ref 40) (cc := (11, 14, [.ref 40, .null, .null, .null, .null, .null, .null, .null, .null, .null, .null, .null, .null, .null], z0, zn)) dO_init_15 fuO_14 ⟨_, _, _, _, rfl, rfl, rfl, rfl⟩ hc_11 (Nat.le_of_ble_eq_true rfl) rfl (Nat.le_of_ble_eq_true rfl) rfl rfl ?_
  refine c_aload (i := 0) dO_init_18 rfl ?_
  refine c_new (ci := 6) (ty := ty_6) df_6 dO_init_19 clO_9 in_6 iz_6 rfl ty_ok_6 df_ok_6 rfl (Nat.le_of_ble_eq_true rfl) (Nat.le_of_ble_eq_true rfl) ?_
  refine c_dup dO_init_22 rfl ?_
  refine c_sipush (x := 400) dO_init_23 rfl ?_
  refine c_iconst (x := 2) dO_init_26 rfl ?_
  refine c_call (M' := tR_init) dO_init_27 mlO_11 okiR_init rfl rfl (Nat.le_of_ble_eq_true rfl) (Nat.le_of_ble_eq_true rfl) (Nat.le_of_ble_eq_true rfl) (kx_21 G d _) ?_
  refine c_put (w := .ref 42) (cc := (11, 14, [.ref 40, .ref 42, .null, .null, .null, .null, .null, .null, .null, .null, .null, .null, .null, .null], z0, zn)) dO_init_30 fuO_20 ⟨_, _, _, _, rfl, rfl, rfl, rfl⟩ hc_11 (Nat.le_of_ble_eq_true rfl) rfl (Nat.le_of_ble_eq_true rfl) rfl rfl ?_
  refine c_aload (i := 0) dO_init_33 rfl ?_
  refine c_new (ci := 6) (ty := ty_6) df_6 dO_init_34 clO_9 in_6 iz_6 rfl ty_ok_6 df_ok_6 rfl (Nat.le_of_ble_eq_true rfl) (Nat.le_of_ble_eq_true rfl) ?_
  refine c_dup dO_init_37 rfl ?_
  refine c_bipush (x := 16) dO_init_38 rfl ?_
  refine c_iconst (x := 5) dO_init_40 rfl ?_
  refine c_call (M' := tR_init) dO_init_41 mlO_11 okiR_init rfl rfl (Nat.le_of_ble_eq_true rfl) (Nat.le_of_ble_eq_true rfl) (Nat.le_of_ble_eq_true rfl) (kx_22 G d _) ?_
  refine c_put (w := .ref 44) (cc := (11, 14, [.ref 40, .ref 42, .ref 44, .null, .null, .null, .null, .null, .null, .null, .null, .null, .null, .null], z0, zn)) dO_init_44 fuO_23 ⟨_, _, _, _, rfl, rfl, rfl, rfl⟩ hc_11 (Nat.le_of_ble_eq_true rfl) rfl (Nat.le_of_ble_eq_true rfl) rfl rfl ?_
  refine c_aload (i := 0) dO_init_47 rfl ?_
  refine c_new (ci := 6) (ty := ty_6) df_6 dO_init_48 clO_9 in_6 iz_6 rfl ty_ok_6 df_ok_6 rfl (Nat.le_of_ble_eq_true rfl) (Nat.le_of_ble_eq_true rfl) ?_
  refine c_dup dO_init_51 rfl ?_
  refine c_bipush (x := 16) dO_init_52 rfl ?_
  refine c_iconst (x := 5) dO_init_54 rfl ?_
  refine c_call (M' := tR_init) dO_init_55 mlO_11 okiR_init rfl rfl (Nat.le_of_ble_eq_true rfl) (Nat.le_of_ble_eq_true rfl) (Nat.le_of_ble_eq_true rfl) (kx_23 G d _) ?_
  refine c_put (w := .ref 46) (cc := (11, 14, [.ref 40, .ref 42, .ref 44, .ref 46, .null, .null, .null, .null, .null, .null, .null, .null, .null, .null], z0, zn)) dO_init_58 fuO_26 ⟨_, _, _, _, rfl, rfl, rfl, rfl⟩ hc_11 (Nat.le_of_ble_eq_true rfl) rfl (Nat.le_of_ble_eq_true rfl) rfl rfl ?_
  refine c_aload (i := 0) dO_init_61 rfl ?_
  refine c_new (ci := 6) (ty := ty_6) df_6 dO_init_62 clO_9 in_6 iz_6 rfl ty_ok_6 df_ok_6 rfl (Nat.le_of_ble_eq_true rfl) (Nat.le_of_ble_eq_true rfl) ?_
  refine c_dup dO_init_65 rfl ?_
  refine c_bipush (x := 16) dO_init_66 rfl ?_
  refine c_iconst (x := 5) dO_init_68 rfl ?_
  refine c_call (M' := tR_init) dO_init_69 mlO_11 okiR_init rfl rfl (Nat.le_of_ble_eq_true rfl) (Nat.le_of_ble_eq_true rfl) (Nat.le_of_ble_eq_true rfl) (kx_24 G d _) ?_
  refine c_put (w := .ref 48) (cc := (11, 14, [.ref 40, .ref 42, .ref 44, .ref 46, .ref 48, .null, .null, .null, .null, .null, .null, .null, .null, .null], z0, zn)) dO_init_72 fuO_29 ⟨_, _, _, _, rfl, rfl, rfl, rfl⟩ hc_11 (Nat.le_of_ble_eq_true rfl) rfl (Nat.le_of_ble_eq_true rfl) rfl rfl ?_
  refine c_aload (i := 0) dO_init_75 rfl ?_
  refine c_new (ci := 6) (ty := ty_6) df_6 dO_init_76 clO_9 in_6 iz_6 rfl ty_ok_6 df_ok_6 rfl (Nat.le_of_ble_eq_true rfl) (Nat.le_of_ble_eq_true rfl) ?_
  refine c_dup dO_init_79 rfl ?_
  refine c_sipush (x := 150) dO_init_80 rfl ?_
  refine c_iconst (x := 4) dO_init_83 rfl ?_
  refine c_call (M' := tR_init) dO_init_84 mlO_11 okiR_init rfl rfl (Nat.le_of_ble_eq_true rfl) (Nat.le_of_ble_eq_true rfl) (Nat.le_of_ble_eq_true rfl) (kx_25 G d _) ?_
  refine c_put (w := .ref 50) (cc := (11, 14, [.ref 40, .ref 42, .ref 44, .ref 46, .ref 48, .ref 50, .null, .null, .null, .null, .null, .null, .null, .null], z0, zn)) dO_init_87 fuO_32 ⟨_, _, _, _, rfl, rfl, rfl, rfl⟩ hc_11 (Nat.le_of_ble_eq_true rfl) rfl (Nat.le_of_ble_eq_true rfl) rfl rfl ?_
  refine c_aload (i := 0) dO_init_90 rfl ?_
  refine c_new (ci := 6) (ty := ty_6) df_6 dO_init_91 clO_9 in_6 iz_6 rfl ty_ok_6 df_ok_6 rfl (Nat.le_of_ble_eq_true rfl) (Nat.le_of_ble_eq_true rfl) ?_
  refine c_dup dO_init_94 rfl ?_
  refine c_bipush (x := 9) dO_init_95 rfl ?_
  refine c_iconst (x := 1) dO_init_97 rfl ?_
  refine c_call (M' := tR_init) dO_init_98 mlO_11 okiR_init rfl rfl (Nat.le_of_ble_eq_true rfl) (Nat.le_of_ble_eq_true rfl) (Nat.le_of_ble_eq_true rfl) (kx_26 G d _) ?_
  refine c_put (w := .ref 52) (cc := (11, 14, [.ref 40, .ref 42, .ref 44, .ref 46, .ref 48, .ref 50, .ref 52, .null, .null, .null, .null, .null, .null, .null], z0, zn)) dO_init_101 fuO_35 ⟨_, _, _, _, rfl, rfl, rfl, rfl⟩ hc_11 (Nat.le_of_ble_eq_true rfl) rfl (Nat.le_of_ble_eq_true rfl) rfl rfl ?_
  refine c_aload (i := 0) dO_init_104 rfl ?_
  refine c_new (ci := 6) (ty := ty_6) df_6 dO_init_105 clO_9 in_6 iz_6 rfl ty_ok_6 df_ok_6 rfl (Nat.le_of_ble_eq_true rfl) (Nat.le_of_ble_eq_true rfl) ?_
  refine c_dup dO_init_108 rfl ?_
  refine c_bipush (x := 8) dO_init_109 rfl ?_
  refine c_iconst (x := 1) dO_init_111 rfl ?_
  refine c_call (M' := tR_init) dO_init_112 mlO_11 okiR_init rfl rfl (Nat.le_of_ble_eq_true rfl) (Nat.le_of_ble_eq_true rfl) (Nat.le_of_ble_eq_true rfl) (kx_27 G d _) ?_
  refine c_put (w := .ref 54) (cc := (11, 14, [.ref 40, .ref 42, .ref 44, .ref 46, .ref 48, .ref 50, .ref 52, .ref 54, .null, .null, .null, .null, .null, .null], z0, zn)) dO_init_115 fuO_40 ⟨_, _, _, _, rfl, rfl, rfl, rfl⟩ hc_11 (Nat.le_of_ble_eq_true rfl) rfl (Nat.le_of_ble_eq_true rfl) rfl rfl ?_
  refine c_aload (i := 0) dO_init_118 rfl ?_
  refine c_new (ci := 6) (ty := ty_6) df_6 dO_init_119 clO_9 in_6 iz_6 rfl ty_ok_6 df_ok_6 rfl (Nat.le_of_ble_eq_true rfl) (Nat.le_of_ble_eq_true rfl) ?_
  refine c_dup dO_init_122 rfl ?_
  refine c_iconst (x := 5) dO_init_123 rfl ?_
  refine c_iconst (x := 1) dO_init_124 rfl ?_
  refine c_call (M' := tR_init) dO_init_125 mlO_11 okiR_init rfl rfl (Nat.le_of_ble_eq_true rfl) (Nat.le_of_ble_eq_true rfl) (Nat.le_of_ble_eq_true rfl) (kx_28 G d _) ?_
  refine c_put (w := .ref 56) (cc := (11, 14, [.ref 40, .ref 42, .ref 44, .ref 46, .ref 48, .ref 50, .ref 52, .ref 54, .ref 56, .null, .null, .null, .null, .null], z0, zn)) dO_init_128 fuO_43 ⟨_, _, _, _, rfl, rfl, rfl, rfl⟩ hc_11 (Nat.le_of_ble_eq_true rfl) rfl (Nat.le_of_ble_eq_true rfl) rfl rfl ?_
  refine c_aload (i := 0) dO_init_131 rfl ?_
  refine c_new (ci := 6) (ty := ty_6) df_6 dO_init_132 clO_9 in_6 iz_6 rfl ty_ok_6 df_ok_6 rfl (Nat.le_of_ble_eq_true rfl) (Nat.le_of_ble_eq_true rfl) ?_
  refine c_dup dO_init_135 rfl ?_
  refine c_bipush (x := 8) dO_init_136 rfl ?_
  refine c_iconst (x := 2) dO_init_138 rfl ?_
  refine c_call (M' := tR_init) dO_init_139 mlO_11 okiR_init rfl rfl (Nat.le_of_ble_eq_true rfl) (Nat.le_of_ble_eq_true rfl) (Nat.le_of_ble_eq_true rfl) (kx_29 G d _) ?_
  refine c_put (w := .ref 58) (cc := (11, 14, [.ref 40, .ref 42, .ref 44, .ref 46, .ref 48, .ref 50, .ref 52, .ref 54, .ref 56, .ref 58, .null, .null, .null, .null], z0, zn)) dO_init_142 fuO_46 ⟨_, _, _, _, rfl, rfl, rfl, rfl⟩ hc_11 (Nat.le_of_ble_eq_true rfl) rfl (Nat.le_of_ble_eq_true rfl) rfl rfl ?_
  refine c_aload (i := 0) dO_init_145 rfl ?_
  refine c_new (ci := 6) (ty := ty_6) df_6 dO_init_146 clO_9 in_6 iz_6 rfl ty_ok_6 df_ok_6 rfl (Nat.le_of_ble_eq_true rfl) (Nat.le_of_ble_eq_true rfl) ?_
  refine c_dup dO_init_149 rfl ?_
  refine c_bipush (x := 16) dO_init_150 rfl ?_
  refine c_iconst (x := 1) dO_init_152 rfl ?_
  refine c_call (M' := tR_init) dO_init_153 mlO_11 okiR_init rfl rfl (Nat.le_of_ble_eq_true rfl) (Nat.le_of_ble_eq_true rfl) (Nat.le_of_ble_eq_true rfl) (kx_30 G d _) ?_
  refine c_put (w := .ref 60) (cc := (11, 14, [.ref 40, .ref 42, .ref 44, .ref 46, .ref 48, .ref 50, .ref 52, .ref 54, .ref 56, .ref 58, .ref 60, .null, .null, .null], z0, zn)) dO_init_156 fuO_49 ⟨_, _, _, _, rfl, rfl, rfl, rfl⟩ hc_11 (Nat.le_of_ble_eq_true rfl) rfl (Nat.le_of_ble_eq_true rfl) rfl rfl ?_
  refine c_aload (i := 0) dO_init_159 rfl ?_
  refine c_new (ci := 6) (ty := ty_6) df_6 dO_init_160 clO_9 in_6 iz_6 rfl ty_ok_6 df_ok_6 rfl (Nat.le_of_ble_eq_true rfl) (Nat.le_of_ble_eq_true rfl) ?_
  refine c_dup dO_init_163 rfl ?_
  refine c_bipush (x := 6) dO_init_164 rfl ?_
  refine c_iconst (x := 2) dO_init_166 rfl ?_
  refine c_call (M' := tR_init) dO_init_167 mlO_11 okiR_init rfl rfl (Nat.le_of_ble_eq_true rfl) (Nat.le_of_ble_eq_true rfl) (Nat.le_of_ble_eq_true rfl) (kx_31 G d _) ?_
  refine c_put (w := .ref 62) (cc := (11, 14, [.ref 40, .ref 42, .ref 44, .ref 46, .ref 48, .ref 50, .ref 52, .ref 54, .ref 56, .ref 58, .ref 60, .ref 62, .null, .null], z0, zn)) dO_init_170 fuO_52 ⟨_, _, _, _, rfl, rfl, rfl, rfl⟩ hc_11 (Nat.le_of_ble_eq_true rfl) rfl (Nat.le_of_ble_eq_true rfl) rfl rfl ?_
  refine c_aload (i := 0) dO_init_173 rfl ?_
  refine c_new (ci := 6) (ty := ty_6) df_6 dO_init_174 clO_9 in_6 iz_6 rfl ty_ok_6 df_ok_6 rfl (Nat.le_of_ble_eq_true rfl) (Nat.le_of_ble_eq_true rfl) ?_
  refine c_dup dO_init_177 rfl ?_
  refine c_bipush (x := 12) dO_init_178 rfl ?_
  refine c_iconst (x := 2) dO_init_180 rfl ?_
  refine c_call (M' := tR_init) dO_init_181 mlO_11 okiR_init rfl rfl (Nat.le_of_ble_eq_true rfl) (Nat.le_of_ble_eq_true rfl) (Nat.le_of_ble_eq_true rfl) (kx_32 G d _) ?_
  refine c_put (w := .ref 64) (cc := (11, 14, [.ref 40, .ref 42, .ref 44, .ref 46, .ref 48, .ref 50, .ref 52, .ref 54, .ref 56, .ref 58, .ref 60, .ref 62, .ref 64, .null], z0, zn)) dO_init_184 fuO_55 ⟨_, _, _, _, rfl, rfl, rfl, rfl⟩ hc_11 (Nat.le_of_ble_eq_true rfl) rfl (Nat.le_of_ble_eq_true rfl) rfl rfl ?_
  refine c_aload (i := 0) dO_init_187 rfl ?_
  refine c_new (ci := 6) (ty := ty_6) df_6 dO_init_188 clO_9 in_6 iz_6 rfl ty_ok_6 df_ok_6 rfl (Nat.le_of_ble_eq_true rfl) (Nat.le_of_ble_eq_true rfl) ?_
  refine c_dup dO_init_191 rfl ?_
  refine c_bipush (x := 8) dO_init_192 rfl ?_
  refine c_iconst (x := 2) dO_init_194 rfl ?_
  refine c_call (M' := tR_init) dO_init_195 mlO_11 okiR_init rfl rfl (Nat.le_of_ble_eq_true rfl) (Nat.le_of_ble_eq_true rfl) (Nat.le_of_ble_eq_true rfl) (kx_33 G d _) ?_
  refine c_put (w := .ref 66) (cc := (11, 14, [.ref 40, .ref 42, .ref 44, .ref 46, .ref 48, .ref 50, .ref 52, .ref 54, .ref 56, .ref 58, .ref 60, .ref 62, .ref 64, .ref 66], z0, zn)) dO_init_198 fuO_58 ⟨_, _, _, _, rfl, rfl, rfl, rfl⟩ hc_11 (Nat.le_of_ble_eq_true rfl) rfl (Nat.le_of_ble_eq_true rfl) rfl rfl ?_
  exact c_ret dO_init_201 rfl rfl
noncomputable def pf_35 (F : CF) : CF := wr F [(68, (7, 4, df_7, z0, zn)), (68, (7, 4, [.ref 1, .null, .null, .int 0], z0, zn)), (68, (7, 4, [.ref 1, .ref 5, .null, .int 0], z0, zn)), (68, (7, 4, [.ref 1, .ref 5, .ref 34, .int 0], z0, zn)), (68, (7, 4, [.ref 1, .ref 5, .ref 34, .int 1], z0, zn))]
set_option maxRecDepth 40000 in
theorem kx_35 (G : GG) (d : Nat) (F : CF) : Kc G tS_init d 0 0 [.ref (gB G + 68), .ref (gB G + 1), .ref (gB G + 5), .ref (gB G + 34), .int 1] 69 (sF F 68 (7, 4, df_7, z0, zn)) 69 (pf_35 F) := by
  refine K_of_Vc (by decide) rfl (by simp [cat_i, cat_r]) (by simp [tS_init]) ?_
  refine c_aload (i := 0) dS_init_0 rfl ?_
  refine c_obj dS_init_1 mlS_3 (Nat.le_of_ble_eq_true rfl) ?_
  refine c_aload (i := 0) dS_init_4 rfl ?_
  refine c_aload (i := 1) dS_init_5 rfl ?_
  refine c_put (w := .ref 1) (cc := (7, 4, [.ref 1, .null, .null, .int 0], z0, zn)) dS_init_6 fuS_9 ⟨_, _, _, _, rfl, rfl, rfl, rfl⟩ hc_7 (Nat.le_of_ble_eq_true rfl) rfl (Nat.le_of_ble_eq_true rfl) rfl rfl ?_
  refine c_aload (i := 0) dS_init_9 rfl ?_
  refine c_aload (i := 2) dS_init_10 rfl ?_
  refine c_put (w := .ref 5) (cc := (7, 4, [.ref 1, .ref 5, .null, .int 0], z0, zn)) dS_init_11 fuS_15 ⟨_, _, _, _, rfl, rfl, rfl, rfl⟩ hc_7 (Nat.le_of_ble_eq_true rfl) rfl (Nat.le_of_ble_eq_true rfl) rfl rfl ?_
  refine c_aload (i := 0) dS_init_14 rfl ?_
  refine c_aload (i := 3) dS_init_15 rfl ?_
  refine c_put (w := .ref 34) (cc := (7, 4, [.ref 1, .ref 5, .ref 34, .int 0], z0, zn)) dS_init_16 fuS_19 ⟨_, _, _, _, rfl, rfl, rfl, rfl⟩ hc_7 (Nat.le_of_ble_eq_true rfl) rfl (Nat.le_of_ble_eq_true rfl) rfl rfl ?_
  refine c_aload (i := 0) dS_init_19 rfl ?_
  refine c_iload (i := 4) dS_init_20 rfl ?_
  refine c_put (w := .int 1) (cc := (7, 4, [.ref 1, .ref 5, .ref 34, .int 1], z0, zn)) dS_init_22 fuS_23 ⟨_, _, _, _, rfl, rfl, rfl, rfl⟩ hc_7 (Nat.le_of_ble_eq_true rfl) rfl (Nat.le_of_ble_eq_true rfl) rfl rfl ?_
  exact c_ret dS_init_25 rfl rfl
noncomputable def pf_36 (F : CF) : CF := wr F [(69, (7, 4, df_7, z0, zn)), (69, (7, 4, [.ref 3, .null, .null, .int 0], z0, zn)), (69, (7, 4, [.ref 3, .ref 5, .null, .int 0], z0, zn)), (69, (7, 4, [.ref 3, .ref 5, .ref 34, .int 0], z0, zn)), (69, (7, 4, [.ref 3, .ref 5, .ref 34, .int 0], z0, zn))]
set_option maxRecDepth 40000 in
theorem kx_36 (G : GG) (d : Nat) (F : CF) : Kc G tS_init d 0 0 [.ref (gB G + 69), .ref (gB G + 3), .ref (gB G + 5), .ref (gB G + 34), .int 0] 70 (sF F 69 (7, 4, df_7, z0, zn)) 70 (pf_36 F) := by
  refine K_of_Vc (by decide) rfl (by simp [cat_i, cat_r]) (by simp [tS_init]) ?_
  refine c_aload (i := 0) dS_init_0 rfl ?_
  refine c_obj dS_init_1 mlS_3 (Nat.le_of_ble_eq_true rfl) ?_
  refine c_aload (i := 0) dS_init_4 rfl ?_
  refine c_aload (i := 1) dS_init_5 rfl ?_
  refine c_put (w := .ref 3) (cc := (7, 4, [.ref 3, .null, .null, .int 0], z0, zn)) dS_init_6 fuS_9 ⟨_, _, _, _, rfl, rfl, rfl, rfl⟩ hc_7 (Nat.le_of_ble_eq_true rfl) rfl (Nat.le_of_ble_eq_true rfl) rfl rfl ?_
  refine c_aload (i := 0) dS_init_9 rfl ?_
  refine c_aload (i := 2) dS_init_10 rfl ?_
  refine c_put (w := .ref 5) (cc := (7, 4, [.ref 3, .ref 5, .null, .int 0], z0, zn)) dS_init_11 fuS_15 ⟨_, _, _, _, rfl, rfl, rfl, rfl⟩ hc_7 (Nat.le_of_ble_eq_true rfl) rfl (Nat.le_of_ble_eq_true rfl) rfl rfl ?_
  refine c_aload (i := 0) dS_init_14 rfl ?_
  refine c_aload (i := 3) dS_init_15 rfl ?_
  refine c_put (w := .ref 34) (cc := (7, 4, [.ref 3, .ref 5, .ref 34, .int 0], z0, zn)) dS_init_16 fuS_19 ⟨_, _, _, _, rfl, rfl, rfl, rfl⟩ hc_7 (Nat.le_of_ble_eq_true rfl) rfl (Nat.le_of_ble_eq_true rfl) rfl rfl ?_
  refine c_aload (i := 0) dS_init_19 rfl ?_
  refine c_iload (i := 4) dS_init_20 rfl ?_
  refine c_put (w := .int 0) (cc := (7, 4, [.ref 3, .ref 5, .ref 34, .int 0], z0, zn)) dS_init_22 fuS_23 ⟨_, _, _, _, rfl, rfl, rfl, rfl⟩ hc_7 (Nat.le_of_ble_eq_true rfl) rfl (Nat.le_of_ble_eq_true rfl) rfl rfl ?_
  exact c_ret dS_init_25 rfl rfl
noncomputable def pf_37 (F : CF) : CF := wr F [(73, (1, 8, df_1, z0, zn)), (74, (20, 132, [], z0, zn)), (73, (1, 8, [.ref 74, .int 0, .int 0, .int 0, .int 0, .int 0, .int 0, .int 0], z0, zn))]
set_option maxRecDepth 40000 in
theorem kx_37 (G : GG) (d : Nat) (F : CF) : Kc G tB_init d 1 132 [.ref (gB G + 73)] 74 (sF F 73 (1, 8, df_1, z0, zn)) 75 (pf_37 F) := by
  refine K_of_Vc (by decide) rfl (by simp [cat_i, cat_r]) (by simp [tB_init]) ?_
  refine c_aload (i := 0) dB_init_0 rfl ?_
  refine c_obj dB_init_1 mlB_3 (Nat.le_of_ble_eq_true rfl) ?_
  refine c_aload (i := 0) dB_init_4 rfl ?_
  refine c_sipush (x := 132) dB_init_5 rfl ?_
  refine c_newi (N := 132) dB_init_8 ar_i (by decide) rfl (by decide) (Nat.le_of_ble_eq_true rfl) (Nat.le_of_ble_eq_true rfl) ?_
  refine c_put (w := .ref 74) (cc := (1, 8, [.ref 74, .int 0, .int 0, .int 0, .int 0, .int 0, .int 0, .int 0], z0, zn)) dB_init_10 fuB_11 ⟨_, _, _, _, rfl, rfl, rfl, rfl⟩ hc_1 (Nat.le_of_ble_eq_true rfl) rfl (Nat.le_of_ble_eq_true rfl) rfl rfl ?_
  exact c_ret dB_init_13 rfl rfl
def rz_1 : Nat → Option Nat := va_up zn 0 (some 73)
noncomputable def pf_38 (F : CF) : CF := wr F [(75, (1, 8, df_1, z0, zn)), (76, (20, 132, [], z0, zn)), (75, (1, 8, [.ref 76, .int 0, .int 0, .int 0, .int 0, .int 0, .int 0, .int 0], z0, zn))]
set_option maxRecDepth 40000 in
theorem kx_38 (G : GG) (d : Nat) (F : CF) : Kc G tB_init d 1 132 [.ref (gB G + 75)] 76 (sF F 75 (1, 8, df_1, z0, zn)) 77 (pf_38 F) := by
  refine K_of_Vc (by decide) rfl (by simp [cat_i, cat_r]) (by simp [tB_init]) ?_
  refine c_aload (i := 0) dB_init_0 rfl ?_
  refine c_obj dB_init_1 mlB_3 (Nat.le_of_ble_eq_true rfl) ?_
  refine c_aload (i := 0) dB_init_4 rfl ?_
  refine c_sipush (x := 132) dB_init_5 rfl ?_
  refine c_newi (N := 132) dB_init_8 ar_i (by decide) rfl (by decide) (Nat.le_of_ble_eq_true rfl) (Nat.le_of_ble_eq_true rfl) ?_
  refine c_put (w := .ref 76) (cc := (1, 8, [.ref 76, .int 0, .int 0, .int 0, .int 0, .int 0, .int 0, .int 0], z0, zn)) dB_init_10 fuB_11 ⟨_, _, _, _, rfl, rfl, rfl, rfl⟩ hc_1 (Nat.le_of_ble_eq_true rfl) rfl (Nat.le_of_ble_eq_true rfl) rfl rfl ?_
  exact c_ret dB_init_13 rfl rfl
def rz_2 : Nat → Option Nat := va_up rz_1 1 (some 75)
noncomputable def pf_39 (F : CF) : CF := wr F [(77, (1, 8, df_1, z0, zn)), (78, (20, 132, [], z0, zn)), (77, (1, 8, [.ref 78, .int 0, .int 0, .int 0, .int 0, .int 0, .int 0, .int 0], z0, zn))]
set_option maxRecDepth 40000 in
theorem kx_39 (G : GG) (d : Nat) (F : CF) : Kc G tB_init d 1 132 [.ref (gB G + 77)] 78 (sF F 77 (1, 8, df_1, z0, zn)) 79 (pf_39 F) := by
  refine K_of_Vc (by decide) rfl (by simp [cat_i, cat_r]) (by simp [tB_init]) ?_
  refine c_aload (i := 0) dB_init_0 rfl ?_
  refine c_obj dB_init_1 mlB_3 (Nat.le_of_ble_eq_true rfl) ?_
  refine c_aload (i := 0) dB_init_4 rfl ?_
  refine c_sipush (x := 132) dB_init_5 rfl ?_
  refine c_newi (N := 132) dB_init_8 ar_i (by decide) rfl (by decide) (Nat.le_of_ble_eq_true rfl) (Nat.le_of_ble_eq_true rfl) ?_
  refine c_put (w := .ref 78) (cc := (1, 8, [.ref 78, .int 0, .int 0, .int 0, .int 0, .int 0, .int 0, .int 0], z0, zn)) dB_init_10 fuB_11 ⟨_, _, _, _, rfl, rfl, rfl, rfl⟩ hc_1 (Nat.le_of_ble_eq_true rfl) rfl (Nat.le_of_ble_eq_true rfl) rfl rfl ?_
  exact c_ret dB_init_13 rfl rfl
def rz_3 : Nat → Option Nat := va_up rz_2 2 (some 77)
noncomputable def pf_40 (F : CF) : CF := wr F [(79, (1, 8, df_1, z0, zn)), (80, (20, 132, [], z0, zn)), (79, (1, 8, [.ref 80, .int 0, .int 0, .int 0, .int 0, .int 0, .int 0, .int 0], z0, zn))]
set_option maxRecDepth 40000 in
theorem kx_40 (G : GG) (d : Nat) (F : CF) : Kc G tB_init d 1 132 [.ref (gB G + 79)] 80 (sF F 79 (1, 8, df_1, z0, zn)) 81 (pf_40 F) := by
  refine K_of_Vc (by decide) rfl (by simp [cat_i, cat_r]) (by simp [tB_init]) ?_
  refine c_aload (i := 0) dB_init_0 rfl ?_
  refine c_obj dB_init_1 mlB_3 (Nat.le_of_ble_eq_true rfl) ?_
  refine c_aload (i := 0) dB_init_4 rfl ?_
  refine c_sipush (x := 132) dB_init_5 rfl ?_
  refine c_newi (N := 132) dB_init_8 ar_i (by decide) rfl (by decide) (Nat.le_of_ble_eq_true rfl) (Nat.le_of_ble_eq_true rfl) ?_
  refine c_put (w := .ref 80) (cc := (1, 8, [.ref 80, .int 0, .int 0, .int 0, .int 0, .int 0, .int 0, .int 0], z0, zn)) dB_init_10 fuB_11 ⟨_, _, _, _, rfl, rfl, rfl, rfl⟩ hc_1 (Nat.le_of_ble_eq_true rfl) rfl (Nat.le_of_ble_eq_true rfl) rfl rfl ?_
  exact c_ret dB_init_13 rfl rfl
def rz_4 : Nat → Option Nat := va_up rz_3 3 (some 79)
noncomputable def pf_41 (F : CF) : CF := wr F [(81, (1, 8, df_1, z0, zn)), (82, (20, 132, [], z0, zn)), (81, (1, 8, [.ref 82, .int 0, .int 0, .int 0, .int 0, .int 0, .int 0, .int 0], z0, zn))]
set_option maxRecDepth 40000 in
theorem kx_41 (G : GG) (d : Nat) (F : CF) : Kc G tB_init d 1 132 [.ref (gB G + 81)] 82 (sF F 81 (1, 8, df_1, z0, zn)) 83 (pf_41 F) := by
  refine K_of_Vc (by decide) rfl (by simp [cat_i, cat_r]) (by simp [tB_init]) ?_
  refine c_aload (i := 0) dB_init_0 rfl ?_
  refine c_obj dB_init_1 mlB_3 (Nat.le_of_ble_eq_true rfl) ?_
  refine c_aload (i := 0) dB_init_4 rfl ?_
  refine c_sipush (x := 132) dB_init_5 rfl ?_
  refine c_newi (N := 132) dB_init_8 ar_i (by decide) rfl (by decide) (Nat.le_of_ble_eq_true rfl) (Nat.le_of_ble_eq_true rfl) ?_
  refine c_put (w := .ref 82) (cc := (1, 8, [.ref 82, .int 0, .int 0, .int 0, .int 0, .int 0, .int 0, .int 0], z0, zn)) dB_init_10 fuB_11 ⟨_, _, _, _, rfl, rfl, rfl, rfl⟩ hc_1 (Nat.le_of_ble_eq_true rfl) rfl (Nat.le_of_ble_eq_true rfl) rfl rfl ?_
  exact c_ret dB_init_13 rfl rfl
def rz_5 : Nat → Option Nat := va_up rz_4 4 (some 81)
noncomputable def pf_42 (F : CF) : CF := wr F [(83, (1, 8, df_1, z0, zn)), (84, (20, 132, [], z0, zn)), (83, (1, 8, [.ref 84, .int 0, .int 0, .int 0, .int 0, .int 0, .int 0, .int 0], z0, zn))]
set_option maxRecDepth 40000 in
theorem kx_42 (G : GG) (d : Nat) (F : CF) : Kc G tB_init d 1 132 [.ref (gB G + 83)] 84 (sF F 83 (1, 8, df_1, z0, zn)) 85 (pf_42 F) := by
  refine K_of_Vc (by decide) rfl (by simp [cat_i, cat_r]) (by simp [tB_init]) ?_
  refine c_aload (i := 0) dB_init_0 rfl ?_
  refine c_obj dB_init_1 mlB_3 (Nat.le_of_ble_eq_true rfl) ?_
  refine c_aload (i := 0) dB_init_4 rfl ?_
  refine c_sipush (x := 132) dB_init_5 rfl ?_
  refine c_newi (N := 132) dB_init_8 ar_i (by decide) rfl (by decide) (Nat.le_of_ble_eq_true rfl) (Nat.le_of_ble_eq_true rfl) ?_
  refine c_put (w := .ref 84) (cc := (1, 8, [.ref 84, .int 0, .int 0, .int 0, .int 0, .int 0, .int 0, .int 0], z0, zn)) dB_init_10 fuB_11 ⟨_, _, _, _, rfl, rfl, rfl, rfl⟩ hc_1 (Nat.le_of_ble_eq_true rfl) rfl (Nat.le_of_ble_eq_true rfl) rfl rfl ?_
  exact c_ret dB_init_13 rfl rfl
def rz_6 : Nat → Option Nat := va_up rz_5 5 (some 83)
noncomputable def pf_43 (F : CF) : CF := wr F [(70, (4, 4, df_4, z0, zn)), (71, (22, 6, [], z0, zn)), (70, (4, 4, [.ref 71, .null, .int 0, .int 0], z0, zn)), (72, (20, 6, [], z0, zn)), (70, (4, 4, [.ref 71, .ref 72, .int 0, .int 0], z0, zn)), (73, (1, 8, df_1, z0, zn)), (74, (20, 132, [], z0, zn)), (73, (1, 8, [.ref 74, .int 0, .int 0, .int 0, .int 0, .int 0, .int 0, .int 0], z0, zn)), (71, (22, 6, [], z0, rz_1)), (75, (1, 8, df_1, z0, zn)), (76, (20, 132, [], z0, zn)), (75, (1, 8, [.ref 76, .int 0, .int 0, .int 0, .int 0, .int 0, .int 0, .int 0], z0, zn)), (71, (22, 6, [], z0, rz_2)), (77, (1, 8, df_1, z0, zn)), (78, (20, 132, [], z0, zn)), (77, (1, 8, [.ref 78, .int 0, .int 0, .int 0, .int 0, .int 0, .int 0, .int 0], z0, zn)), (71, (22, 6, [], z0, rz_3)), (79, (1, 8, df_1, z0, zn)), (80, (20, 132, [], z0, zn)), (79, (1, 8, [.ref 80, .int 0, .int 0, .int 0, .int 0, .int 0, .int 0, .int 0], z0, zn)), (71, (22, 6, [], z0, rz_4)), (81, (1, 8, df_1, z0, zn)), (82, (20, 132, [], z0, zn)), (81, (1, 8, [.ref 82, .int 0, .int 0, .int 0, .int 0, .int 0, .int 0, .int 0], z0, zn)), (71, (22, 6, [], z0, rz_5)), (83, (1, 8, df_1, z0, zn)), (84, (20, 132, [], z0, zn)), (83, (1, 8, [.ref 84, .int 0, .int 0, .int 0, .int 0, .int 0, .int 0, .int 0], z0, zn)), (71, (22, 6, [], z0, rz_6))]
set_option maxRecDepth 40000 in
theorem kx_43 (G : GG) (d : Nat) (F : CF) : Kc G tP_init (d + 1) 14 852 [.ref (gB G + 70)] 71 (sF F 70 (4, 4, df_4, z0, zn)) 85 (pf_43 F) := by
  refine K_of_Vc (by decide) rfl (by simp [cat_i, cat_r]) (by simp [tP_init]) ?_
  refine c_aload (i := 0) dP_init_0 rfl ?_
  refine c_obj dP_init_1 mlP_1 (Nat.le_of_ble_eq_true rfl) ?_
  refine c_aload (i := 0) dP_init_4 rfl ?_
  refine c_bipush (x := 6) dP_init_5 rfl ?_
  refine c_anew (N := 6) dP_init_7 clP_9 (by decide) rfl (by decide) (Nat.le_of_ble_eq_true rfl) (Nat.le_of_ble_eq_true rfl) ?_
  refine c_put (w := .ref 71) (cc := (4, 4, [.ref 71, .null, .int 0, .int 0], z0, zn)) dP_init_10 fuP_11 ⟨_, _, _, _, rfl, rfl, rfl, rfl⟩ hc_4 (Nat.le_of_ble_eq_true rfl) rfl (Nat.le_of_ble_eq_true rfl) rfl rfl ?_
  refine c_aload (i := 0) dP_init_13 rfl ?_
  refine c_bipush (x := 6) dP_init_14 rfl ?_
  refine c_newi (N := 6) dP_init_16 ar_i (by decide) rfl (by decide) (Nat.le_of_ble_eq_true rfl) (Nat.le_of_ble_eq_true rfl) ?_
  refine c_put (w := .ref 72) (cc := (4, 4, [.ref 71, .ref 72, .int 0, .int 0], z0, zn)) dP_init_18 fuP_15 ⟨_, _, _, _, rfl, rfl, rfl, rfl⟩ hc_4 (Nat.le_of_ble_eq_true rfl) rfl (Nat.le_of_ble_eq_true rfl) rfl rfl ?_
  refine c_iconst (x := 0) dP_init_21 rfl ?_
  refine c_istore (i := 1) dP_init_22 (by decide) rfl ?_
  refine c_iload (i := 1) dP_init_23 rfl ?_
  refine c_bipush (x := 6) dP_init_24 rfl ?_
  refine c_ge_f dP_init_26 (by decide) ?_
  refine c_aload (i := 0) dP_init_29 rfl ?_
  refine c_get (w := .ref 71) (w' := .ref (gB G + 71)) dP_init_30 fuP_11 (Nat.le_of_ble_eq_true rfl) rfl rfl rfl ?_
  refine c_iload (i := 1) dP_init_33 rfl ?_
  refine c_new (ci := 1) (ty := ty_1) df_1 dP_init_34 clP_9 in_1 iz_1 rfl ty_ok_1 df_ok_1 rfl (Nat.le_of_ble_eq_true rfl) (Nat.le_of_ble_eq_true rfl) ?_
  refine c_dup dP_init_37 rfl ?_
  refine c_callN (M' := tB_init) dP_init_38 mlP_19 okiB_init rfl rfl (Nat.le_of_ble_eq_true rfl) (Nat.le_of_ble_eq_true rfl) (Nat.le_of_ble_eq_true rfl) (kx_37 G d _) ?_
  refine c_aast (N := 6) (cc := (22, 6, [], z0, rz_1)) dP_init_41 (Nat.le_of_ble_eq_true rfl) (Nat.le_of_ble_eq_true rfl) rfl rfl rfl (by unfold vp_in; decide) rfl ?_
  refine c_iinc (i := 1) (y := 1) dP_init_42 rfl rfl (by decide) rfl ?_
  refine c_goto dP_init_45 ?_
  refine c_iload (i := 1) dP_init_23 rfl ?_
  refine c_bipush (x := 6) dP_init_24 rfl ?_
  refine c_ge_f dP_init_26 (by decide) ?_
  refine c_aload (i := 0) dP_init_29 rfl ?_
  refine c_get (w := .ref 71) (w' := .ref (gB G + 71)) dP_init_30 fuP_11 (Nat.le_of_ble_eq_true rfl) rfl rfl rfl ?_
  refine c_iload (i := 1) dP_init_33 rfl ?_
  refine c_new (ci := 1) (ty := ty_1) df_1 dP_init_34 clP_9 in_1 iz_1 rfl ty_ok_1 df_ok_1 rfl (Nat.le_of_ble_eq_true rfl) (Nat.le_of_ble_eq_true rfl) ?_
  refine c_dup dP_init_37 rfl ?_
  refine c_callN (M' := tB_init) dP_init_38 mlP_19 okiB_init rfl rfl (Nat.le_of_ble_eq_true rfl) (Nat.le_of_ble_eq_true rfl) (Nat.le_of_ble_eq_true rfl) (kx_38 G d _) ?_
  refine c_aast (N := 6) (cc := (22, 6, [], z0, rz_2)) dP_init_41 (Nat.le_of_ble_eq_true rfl) (Nat.le_of_ble_eq_true rfl) rfl rfl rfl (by unfold vp_in; decide) rfl ?_
  refine c_iinc (i := 1) (y := 2) dP_init_42 rfl rfl (by decide) rfl ?_
  refine c_goto dP_init_45 ?_
  refine c_iload (i := 1) dP_init_23 rfl ?_
  refine c_bipush (x := 6) dP_init_24 rfl ?_
  refine c_ge_f dP_init_26 (by decide) ?_
  refine c_aload (i := 0) dP_init_29 rfl ?_
  refine c_get (w := .ref 71) (w' := .ref (gB G + 71)) dP_init_30 fuP_11 (Nat.le_of_ble_eq_true rfl) rfl rfl rfl ?_
  refine c_iload (i := 1) dP_init_33 rfl ?_
  refine c_new (ci := 1) (ty := ty_1) df_1 dP_init_34 clP_9 in_1 iz_1 rfl ty_ok_1 df_ok_1 rfl (Nat.le_of_ble_eq_true rfl) (Nat.le_of_ble_eq_true rfl) ?_
  refine c_dup dP_init_37 rfl ?_
  refine c_callN (M' := tB_init) dP_init_38 mlP_19 okiB_init rfl rfl (Nat.le_of_ble_eq_true rfl) (Nat.le_of_ble_eq_true rfl) (Nat.le_of_ble_eq_true rfl) (kx_39 G d _) ?_
  refine c_aast (N := 6) (cc := (22, 6, [], z0, rz_3)) dP_init_41 (Nat.le_of_ble_eq_true rfl) (Nat.le_of_ble_eq_true rfl) rfl rfl rfl (by unfold vp_in; decide) rfl ?_
  refine c_iinc (i := 1) (y := 3) dP_init_42 rfl rfl (by decide) rfl ?_
  refine c_goto dP_init_45 ?_
  refine c_iload (i := 1) dP_init_23 rfl ?_
  refine c_bipush (x := 6) dP_init_24 rfl ?_
  refine c_ge_f dP_init_26 (by decide) ?_
  refine c_aload (i := 0) dP_init_29 rfl ?_
  refine c_get (w := .ref 71) (w' := .ref (gB G + 71)) dP_init_30 fuP_11 (Nat.le_of_ble_eq_true rfl) rfl rfl rfl ?_
  refine c_iload (i := 1) dP_init_33 rfl ?_
  refine c_new (ci := 1) (ty := ty_1) df_1 dP_init_34 clP_9 in_1 iz_1 rfl ty_ok_1 df_ok_1 rfl (Nat.le_of_ble_eq_true rfl) (Nat.le_of_ble_eq_true rfl) ?_
  refine c_dup dP_init_37 rfl ?_
  refine c_callN (M' := tB_init) dP_init_38 mlP_19 okiB_init rfl rfl (Nat.le_of_ble_eq_true rfl) (Nat.le_of_ble_eq_true rfl) (Nat.le_of_ble_eq_true rfl) (kx_40 G d _) ?_
  refine c_aast (N := 6) (cc := (22, 6, [], z0, rz_4)) dP_init_41 (Nat.le_of_ble_eq_true rfl) (Nat.le_of_ble_eq_true rfl) rfl rfl rfl (by unfold vp_in; decide) rfl ?_
  refine c_iinc (i := 1) (y := 4) dP_init_42 rfl rfl (by decide) rfl ?_
  refine c_goto dP_init_45 ?_
  refine c_iload (i := 1) dP_init_23 rfl ?_
  refine c_bipush (x := 6) dP_init_24 rfl ?_
  refine c_ge_f dP_init_26 (by decide) ?_
  refine c_aload (i := 0) dP_init_29 rfl ?_
  refine c_get (w := .ref 71) (w' := .ref (gB G + 71)) dP_init_30 fuP_11 (Nat.le_of_ble_eq_true rfl) rfl rfl rfl ?_
  refine c_iload (i := 1) dP_init_33 rfl ?_
  refine c_new (ci := 1) (ty := ty_1) df_1 dP_init_34 clP_9 in_1 iz_1 rfl ty_ok_1 df_ok_1 rfl (Nat.le_of_ble_eq_true rfl) (Nat.le_of_ble_eq_true rfl) ?_
  refine c_dup dP_init_37 rfl ?_
  refine c_callN (M' := tB_init) dP_init_38 mlP_19 okiB_init rfl rfl (Nat.le_of_ble_eq_true rfl) (Nat.le_of_ble_eq_true rfl) (Nat.le_of_ble_eq_true rfl) (kx_41 G d _) ?_
  refine c_aast (N := 6) (cc := (22, 6, [], z0, rz_5)) dP_init_41 (Nat.le_of_ble_eq_true rfl) (Nat.le_of_ble_eq_true rfl) rfl rfl rfl (by unfold vp_in; decide) rfl ?_
  refine c_iinc (i := 1) (y := 5) dP_init_42 rfl rfl (by decide) rfl ?_
  refine c_goto dP_init_45 ?_
  refine c_iload (i := 1) dP_init_23 rfl ?_
  refine c_bipush (x := 6) dP_init_24 rfl ?_
  refine c_ge_f dP_init_26 (by decide) ?_
  refine c_aload (i := 0) dP_init_29 rfl ?_
  refine c_get (w := .ref 71) (w' := .ref (gB G + 71)) dP_init_30 fuP_11 (Nat.le_of_ble_eq_true rfl) rfl rfl rfl ?_
  refine c_iload (i := 1) dP_init_33 rfl ?_
  refine c_new (ci := 1) (ty := ty_1) df_1 dP_init_34 clP_9 in_1 iz_1 rfl ty_ok_1 df_ok_1 rfl (Nat.le_of_ble_eq_true rfl) (Nat.le_of_ble_eq_true rfl) ?_
  refine c_dup dP_init_37 rfl ?_
  refine c_callN (M' := tB_init) dP_init_38 mlP_19 okiB_init rfl rfl (Nat.le_of_ble_eq_true rfl) (Nat.le_of_ble_eq_true rfl) (Nat.le_of_ble_eq_true rfl) (kx_42 G d _) ?_
  refine c_aast (N := 6) (cc := (22, 6, [], z0, rz_6)) dP_init_41 (Nat.le_of_ble_eq_true rfl) (Nat.le_of_ble_eq_true rfl) rfl rfl rfl (by unfold vp_in; decide) rfl ?_
  refine c_iinc (i := 1) (y := 6) dP_init_42 rfl rfl (by decide) rfl ?_
  refine c_goto dP_init_45 ?_
  refine c_iload (i := 1) dP_init_23 rfl ?_
  refine c_bipush (x := 6) dP_init_24 rfl ?_
  refine c_ge_t dP_init_26 (by decide) ?_
  exact c_ret dP_init_48 rfl rfl
noncomputable def pf_44 (F : CF) : CF := wr F [(85, (10, 6, df_10, z0, zn)), (86, (21, 400, [], z0, zn)), (85, (10, 6, [.ref 86, .null, .null, .null, .int 0, .int 0], z0, zn)), (87, (20, 401, [], z0, zn)), (85, (10, 6, [.ref 86, .ref 87, .null, .null, .int 0, .int 0], z0, zn)), (88, (20, 401, [], z0, zn)), (85, (10, 6, [.ref 86, .ref 87, .ref 88, .null, .int 0, .int 0], z0, zn)), (89, (20, 401, [], z0, zn)), (85, (10, 6, [.ref 86, .ref 87, .ref 88, .ref 89, .int 0, .int 0], z0, zn))]
set_option maxRecDepth 40000 in
theorem kx_44 (G : GG) (d : Nat) (F : CF) : Kc G tA_init d 4 1603 [.ref (gB G + 85)] 86 (sF F 85 (10, 6, df_10, z0, zn)) 90 (pf_44 F) := by
  refine K_of_Vc (by decide) rfl (by simp [cat_i, cat_r]) (by simp [tA_init]) ?_
  refine c_aload (i := 0) dA_init_0 rfl ?_
  refine c_obj dA_init_1 mlA_3 (Nat.le_of_ble_eq_true rfl) ?_
  refine c_aload (i := 0) dA_init_4 rfl ?_
  refine c_sipush (x := 400) dA_init_5 rfl ?_
  refine c_newb (N := 400) dA_init_8 ar_b (by decide) rfl (by decide) (Nat.le_of_ble_eq_true rfl) (Nat.le_of_ble_eq_true rfl) ?_
  refine c_put (w := .ref 86) (cc := (10, 6, [.ref 86, .null, .null, .null, .int 0, .int 0], z0, zn)) dA_init_10 fuA_9 ⟨_, _, _, _, rfl, rfl, rfl, rfl⟩ hc_10 (Nat.le_of_ble_eq_true rfl) rfl (Nat.le_of_ble_eq_true rfl) rfl rfl ?_
  refine c_aload (i := 0) dA_init_13 rfl ?_
  refine c_sipush (x := 401) dA_init_14 rfl ?_
  refine c_newi (N := 401) dA_init_17 ar_i (by decide) rfl (by decide) (Nat.le_of_ble_eq_true rfl) (Nat.le_of_ble_eq_true rfl) ?_
  refine c_put (w := .ref 87) (cc := (10, 6, [.ref 86, .ref 87, .null, .null, .int 0, .int 0], z0, zn)) dA_init_19 fuA_15 ⟨_, _, _, _, rfl, rfl, rfl, rfl⟩ hc_10 (Nat.le_of_ble_eq_true rfl) rfl (Nat.le_of_ble_eq_true rfl) rfl rfl ?_
  refine c_aload (i := 0) dA_init_22 rfl ?_
  refine c_sipush (x := 401) dA_init_23 rfl ?_
  refine c_newi (N := 401) dA_init_26 ar_i (by decide) rfl (by decide) (Nat.le_of_ble_eq_true rfl) (Nat.le_of_ble_eq_true rfl) ?_
  refine c_put (w := .ref 88) (cc := (10, 6, [.ref 86, .ref 87, .ref 88, .null, .int 0, .int 0], z0, zn)) dA_init_28 fuA_19 ⟨_, _, _, _, rfl, rfl, rfl, rfl⟩ hc_10 (Nat.le_of_ble_eq_true rfl) rfl (Nat.le_of_ble_eq_true rfl) rfl rfl ?_
  refine c_aload (i := 0) dA_init_31 rfl ?_
  refine c_sipush (x := 401) dA_init_32 rfl ?_
  refine c_newi (N := 401) dA_init_35 ar_i (by decide) rfl (by decide) (Nat.le_of_ble_eq_true rfl) (Nat.le_of_ble_eq_true rfl) ?_
  refine c_put (w := .ref 89) (cc := (10, 6, [.ref 86, .ref 87, .ref 88, .ref 89, .int 0, .int 0], z0, zn)) dA_init_37 fuA_22 ⟨_, _, _, _, rfl, rfl, rfl, rfl⟩ hc_10 (Nat.le_of_ble_eq_true rfl) rfl (Nat.le_of_ble_eq_true rfl) rfl rfl ?_
  exact c_ret dA_init_40 rfl rfl
noncomputable def pf_45 (F : CF) : CF := wr F [(91, (6, 4, df_6, z0, zn)), (91, (6, 4, [.int 16, .int 0, .null, .int 0], z0, zn)), (91, (6, 4, [.int 16, .int 5, .null, .int 0], z0, zn)), (92, (20, 80, [], z0, zn)), (91, (6, 4, [.int 16, .int 5, .ref 92, .int 0], z0, zn)), (91, (6, 4, [.int 16, .int 5, .ref 92, .int 0], z0, zn))]
set_option maxRecDepth 40000 in
theorem kx_45 (G : GG) (d : Nat) (F : CF) : Kc G tR_init d 1 80 [.ref (gB G + 91), .int 16, .int 5] 92 (sF F 91 (6, 4, df_6, z0, zn)) 93 (pf_45 F) := by
  refine K_of_Vc (by decide) rfl (by simp [cat_i, cat_r]) (by simp [tR_init]) ?_
  refine c_aload (i := 0) dR_init_0 rfl ?_
  refine c_obj dR_init_1 mlR_3 (Nat.le_of_ble_eq_true rfl) ?_
  refine c_aload (i := 0) dR_init_4 rfl ?_
  refine c_iload (i := 1) dR_init_5 rfl ?_
  refine c_iconst (x := 0) dR_init_6 rfl ?_
  refine c_mmax (z := 16) dR_init_7 mlR_9 rfl (Nat.le_of_ble_eq_true rfl) (Nat.le_of_ble_eq_true rfl) (Nat.le_of_ble_eq_true rfl) ?_
  refine c_put (w := .int 16) (cc := (6, 4, [.int 16, .int 0, .null, .int 0], z0, zn)) dR_init_10 fuR_15 ⟨_, _, _, _, rfl, rfl, rfl, rfl⟩ hc_6 (Nat.le_of_ble_eq_true rfl) rfl (Nat.le_of_ble_eq_true rfl) rfl rfl ?_
  refine c_aload (i := 0) dR_init_13 rfl ?_
  refine c_iload (i := 2) dR_init_14 rfl ?_
  refine c_iconst (x := 1) dR_init_15 rfl ?_
  refine c_mmax (z := 5) dR_init_16 mlR_9 rfl (Nat.le_of_ble_eq_true rfl) (Nat.le_of_ble_eq_true rfl) (Nat.le_of_ble_eq_true rfl) ?_
  refine c_put (w := .int 5) (cc := (6, 4, [.int 16, .int 5, .null, .int 0], z0, zn)) dR_init_19 fuR_21 ⟨_, _, _, _, rfl, rfl, rfl, rfl⟩ hc_6 (Nat.le_of_ble_eq_true rfl) rfl (Nat.le_of_ble_eq_true rfl) rfl rfl ?_
  refine c_aload (i := 0) dR_init_22 rfl ?_
  refine c_aload (i := 0) dR_init_23 rfl ?_
  refine c_get (w := .int 16) (w' := .int 16) dR_init_24 fuR_15 (Nat.le_of_ble_eq_true rfl) rfl rfl rfl ?_
  refine c_aload (i := 0) dR_init_27 rfl ?_
  refine c_get (w := .int 5) (w' := .int 5) dR_init_28 fuR_21 (Nat.le_of_ble_eq_true rfl) rfl rfl rfl ?_
  refine c_imul (z := 80) dR_init_31 rfl ?_
  refine c_newi (N := 80) dR_init_32 ar_i (by decide) rfl (by decide) (Nat.le_of_ble_eq_true rfl) (Nat.le_of_ble_eq_true rfl) ?_
  refine c_put (w := .ref 92) (cc := (6, 4, [.int 16, .int 5, .ref 92, .int 0], z0, zn)) dR_init_34 fuR_24 ⟨_, _, _, _, rfl, rfl, rfl, rfl⟩ hc_6 (Nat.le_of_ble_eq_true rfl) rfl (Nat.le_of_ble_eq_true rfl) rfl rfl ?_
  refine c_aload (i := 0) dR_init_37 rfl ?_
  refine c_iconst (x := 0) dR_init_38 rfl ?_
  refine c_put (w := .int 0) (cc := (6, 4, [.int 16, .int 5, .ref 92, .int 0], z0, zn)) dR_init_39 fuR_28 ⟨_, _, _, _, rfl, rfl, rfl, rfl⟩ hc_6 (Nat.le_of_ble_eq_true rfl) rfl (Nat.le_of_ble_eq_true rfl) rfl rfl ?_
  exact c_ret dR_init_42 rfl rfl
noncomputable def pf_46 (F : CF) : CF := wr F [(93, (6, 4, df_6, z0, zn)), (93, (6, 4, [.int 400, .int 0, .null, .int 0], z0, zn)), (93, (6, 4, [.int 400, .int 2, .null, .int 0], z0, zn)), (94, (20, 800, [], z0, zn)), (93, (6, 4, [.int 400, .int 2, .ref 94, .int 0], z0, zn)), (93, (6, 4, [.int 400, .int 2, .ref 94, .int 0], z0, zn))]
set_option maxRecDepth 40000 in
theorem kx_46 (G : GG) (d : Nat) (F : CF) : Kc G tR_init d 1 800 [.ref (gB G + 93), .int 400, .int 2] 94 (sF F 93 (6, 4, df_6, z0, zn)) 95 (pf_46 F) := by
  refine K_of_Vc (by decide) rfl (by simp [cat_i, cat_r]) (by simp [tR_init]) ?_
  refine c_aload (i := 0) dR_init_0 rfl ?_
  refine c_obj dR_init_1 mlR_3 (Nat.le_of_ble_eq_true rfl) ?_
  refine c_aload (i := 0) dR_init_4 rfl ?_
  refine c_iload (i := 1) dR_init_5 rfl ?_
  refine c_iconst (x := 0) dR_init_6 rfl ?_
  refine c_mmax (z := 400) dR_init_7 mlR_9 rfl (Nat.le_of_ble_eq_true rfl) (Nat.le_of_ble_eq_true rfl) (Nat.le_of_ble_eq_true rfl) ?_
  refine c_put (w := .int 400) (cc := (6, 4, [.int 400, .int 0, .null, .int 0], z0, zn)) dR_init_10 fuR_15 ⟨_, _, _, _, rfl, rfl, rfl, rfl⟩ hc_6 (Nat.le_of_ble_eq_true rfl) rfl (Nat.le_of_ble_eq_true rfl) rfl rfl ?_
  refine c_aload (i := 0) dR_init_13 rfl ?_
  refine c_iload (i := 2) dR_init_14 rfl ?_
  refine c_iconst (x := 1) dR_init_15 rfl ?_
  refine c_mmax (z := 2) dR_init_16 mlR_9 rfl (Nat.le_of_ble_eq_true rfl) (Nat.le_of_ble_eq_true rfl) (Nat.le_of_ble_eq_true rfl) ?_
  refine c_put (w := .int 2) (cc := (6, 4, [.int 400, .int 2, .null, .int 0], z0, zn)) dR_init_19 fuR_21 ⟨_, _, _, _, rfl, rfl, rfl, rfl⟩ hc_6 (Nat.le_of_ble_eq_true rfl) rfl (Nat.le_of_ble_eq_true rfl) rfl rfl ?_
  refine c_aload (i := 0) dR_init_22 rfl ?_
  refine c_aload (i := 0) dR_init_23 rfl ?_
  refine c_get (w := .int 400) (w' := .int 400) dR_init_24 fuR_15 (Nat.le_of_ble_eq_true rfl) rfl rfl rfl ?_
  refine c_aload (i := 0) dR_init_27 rfl ?_
  refine c_get (w := .int 2) (w' := .int 2) dR_init_28 fuR_21 (Nat.le_of_ble_eq_true rfl) rfl rfl rfl ?_
  refine c_imul (z := 800) dR_init_31 rfl ?_
  refine c_newi (N := 800) dR_init_32 ar_i (by decide) rfl (by decide) (Nat.le_of_ble_eq_true rfl) (Nat.le_of_ble_eq_true rfl) ?_
  refine c_put (w := .ref 94) (cc := (6, 4, [.int 400, .int 2, .ref 94, .int 0], z0, zn)) dR_init_34 fuR_24 ⟨_, _, _, _, rfl, rfl, rfl, rfl⟩ hc_6 (Nat.le_of_ble_eq_true rfl) rfl (Nat.le_of_ble_eq_true rfl) rfl rfl ?_
  refine c_aload (i := 0) dR_init_37 rfl ?_
  refine c_iconst (x := 0) dR_init_38 rfl ?_
  refine c_put (w := .int 0) (cc := (6, 4, [.int 400, .int 2, .ref 94, .int 0], z0, zn)) dR_init_39 fuR_28 ⟨_, _, _, _, rfl, rfl, rfl, rfl⟩ hc_6 (Nat.le_of_ble_eq_true rfl) rfl (Nat.le_of_ble_eq_true rfl) rfl rfl ?_
  exact c_ret dR_init_42 rfl rfl
noncomputable def pf_47 (F : CF) : CF := wr F [(90, (5, 10, df_5, z0, zn)), (91, (6, 4, df_6, z0, zn)), (91, (6, 4, [.int 16, .int 0, .null, .int 0], z0, zn)), (91, (6, 4, [.int 16, .int 5, .null, .int 0], z0, zn)), (92, (20, 80, [], z0, zn)), (91, (6, 4, [.int 16, .int 5, .ref 92, .int 0], z0, zn)), (91, (6, 4, [.int 16, .int 5, .ref 92, .int 0], z0, zn)), (90, (5, 10, [.ref 91, .null, .int 0, .int 0, .null, .int 0, .int 0, .int 0, .int 0, .int 0], z0, zn)), (93, (6, 4, df_6, z0, zn)), (93, (6, 4, [.int 400, .int 0, .null, .int 0], z0, zn)), (93, (6, 4, [.int 400, .int 2, .null, .int 0], z0, zn)), (94, (20, 800, [], z0, zn)), (93, (6, 4, [.int 400, .int 2, .ref 94, .int 0], z0, zn)), (93, (6, 4, [.int 400, .int 2, .ref 94, .int 0], z0, zn)), (90, (5, 10, [.ref 91, .ref 93, .int 0, .int 0, .null, .int 0, .int 0, .int 0, .int 0, .int 0], z0, zn)), (90, (5, 10, [.ref 91, .ref 93, .int 0, .int 0, .null, .int 0, .int 0, .int 0, .int 0, .int 0], z0, zn)), (90, (5, 10, [.ref 91, .ref 93, .int 0, .int (-1), .null, .int 0, .int 0, .int 0, .int 0, .int 0], z0, zn)), (90, (5, 10, [.ref 91, .ref 93, .int 0, .int (-1), .ref 85, .int 0, .int 0, .int 0, .int 0, .int 0], z0, zn))]
set_option maxRecDepth 40000 in
theorem kx_47 (G : GG) (d : Nat) (F : CF) : Kc G tD_init (d + 1) 4 888 [.ref (gB G + 90), .ref (gB G + 85)] 91 (sF F 90 (5, 10, df_5, z0, zn)) 95 (pf_47 F) := by
  refine K_of_Vc (by decide) rfl (by simp [cat_i, cat_r]) (by simp [tD_init]) ?_
  refine c_aload (i := 0) dD_init_0 rfl ?_
  refine c_obj dD_init_1 mlD_3 (Nat.le_of_ble_eq_true rfl) ?_
  refine c_aload (i := 0) dD_init_4 rfl ?_
  refine c_new (ci := 6) (ty := ty_6) df_6 dD_init_5 clD_9 in_6 iz_6 rfl ty_ok_6 df_ok_6 rfl (Nat.le_of_ble_eq_true rfl) (Nat.le_of_ble_eq_true rfl) ?_
  refine c_dup dD_init_8 rfl ?_
  refine c_bipush (x := 16) dD_init_9 rfl ?_
  refine c_iconst (x := 5) dD_init_11 rfl ?_
  refine c_call (M' := tR_init) dD_init_12 mlD_11 okiR_init rfl rfl (Nat.le_of_ble_eq_true rfl) (Nat.le_of_ble_eq_true rfl) (Nat.le_of_ble_eq_true rfl) (kx_45 G d _) ?_
  refine c_put (w := .ref 91) (cc := (5, 10, [.ref 91, .null, .int 0, .int 0, .null, .int 0, .int 0, .int 0, .int 0, .int 0], z0, zn)) dD_init_15 fuD_14 ⟨_, _, _, _, rfl, rfl, rfl, rfl⟩ hc_5 (Nat.le_of_ble_eq_true rfl) rfl (Nat.le_of_ble_eq_true rfl) rfl rfl ?_
  refine c_aload (i := 0) dD_init_18 rfl ?_
  refine c_new (ci := 6) (ty := ty_6) df_6 dD_init_19 clD_9 in_6 iz_6 rfl ty_ok_6 df_ok_6 rfl (Nat.le_of_ble_eq_true rfl) (Nat.le_of_ble_eq_true rfl) ?_
  refine c_dup dD_init_22 rfl ?_
  refine c_sipush (x := 400) dD_init_23 rfl ?_
  refine c_iconst (x := 2) dD_init_26 rfl ?_
  refine c_call (M' := tR_init) dD_init_27 mlD_11 okiR_init rfl rfl (Nat.le_of_ble_eq_true rfl) (Nat.le_of_ble_eq_true rfl) (Nat.le_of_ble_eq_true rfl) (kx_46 G d _) ?_
  refine c_put (w := .ref 93) (cc := (5, 10, [.ref 91, .ref 93, .int 0, .int 0, .null, .int 0, .int 0, .int 0, .int 0, .int 0], z0, zn)) dD_init_30 fuD_22 ⟨_, _, _, _, rfl, rfl, rfl, rfl⟩ hc_5 (Nat.le_of_ble_eq_true rfl) rfl (Nat.le_of_ble_eq_true rfl) rfl rfl ?_
  refine c_aload (i := 0) dD_init_33 rfl ?_
  refine c_iconst (x := 0) dD_init_34 rfl ?_
  refine c_put (w := .int 0) (cc := (5, 10, [.ref 91, .ref 93, .int 0, .int 0, .null, .int 0, .int 0, .int 0, .int 0, .int 0], z0, zn)) dD_init_35 fuD_25 ⟨_, _, _, _, rfl, rfl, rfl, rfl⟩ hc_5 (Nat.le_of_ble_eq_true rfl) rfl (Nat.le_of_ble_eq_true rfl) rfl rfl ?_
  refine c_aload (i := 0) dD_init_38 rfl ?_
  refine c_iconst (x := (-1)) dD_init_39 rfl ?_
  refine c_put (w := .int (-1)) (cc := (5, 10, [.ref 91, .ref 93, .int 0, .int (-1), .null, .int 0, .int 0, .int 0, .int 0, .int 0], z0, zn)) dD_init_40 fuD_29 ⟨_, _, _, _, rfl, rfl, rfl, rfl⟩ hc_5 (Nat.le_of_ble_eq_true rfl) rfl (Nat.le_of_ble_eq_true rfl) rfl rfl ?_
  refine c_aload (i := 0) dD_init_43 rfl ?_
  refine c_aload (i := 1) dD_init_44 rfl ?_
  refine c_put (w := .ref 85) (cc := (5, 10, [.ref 91, .ref 93, .int 0, .int (-1), .ref 85, .int 0, .int 0, .int 0, .int 0, .int 0], z0, zn)) dD_init_45 fuD_32 ⟨_, _, _, _, rfl, rfl, rfl, rfl⟩ hc_5 (Nat.le_of_ble_eq_true rfl) rfl (Nat.le_of_ble_eq_true rfl) rfl rfl ?_
  exact c_ret dD_init_48 rfl rfl
noncomputable def pf_48 (F : CF) : CF := wr F [(95, (9, 2, df_9, z0, zn)), (96, (20, 12, [], z0, zn)), (95, (9, 2, [.ref 96, .null], z0, zn)), (97, (20, 12, [], z0, zn)), (95, (9, 2, [.ref 96, .ref 97], z0, zn))]
set_option maxRecDepth 40000 in
theorem kx_48 (G : GG) (d : Nat) (F : CF) : Kc G tT_init d 2 24 [.ref (gB G + 95)] 96 (sF F 95 (9, 2, df_9, z0, zn)) 98 (pf_48 F) := by
  refine K_of_Vc (by decide) rfl (by simp [cat_i, cat_r]) (by simp [tT_init]) ?_
  refine c_aload (i := 0) dT_init_0 rfl ?_
  refine c_obj dT_init_1 mlT_3 (Nat.le_of_ble_eq_true rfl) ?_
  refine c_aload (i := 0) dT_init_4 rfl ?_
  refine c_bipush (x := 12) dT_init_5 rfl ?_
  refine c_newi (N := 12) dT_init_7 ar_i (by decide) rfl (by decide) (Nat.le_of_ble_eq_true rfl) (Nat.le_of_ble_eq_true rfl) ?_
  refine c_put (w := .ref 96) (cc := (9, 2, [.ref 96, .null], z0, zn)) dT_init_9 fuT_9 ⟨_, _, _, _, rfl, rfl, rfl, rfl⟩ hc_9 (Nat.le_of_ble_eq_true rfl) rfl (Nat.le_of_ble_eq_true rfl) rfl rfl ?_
  refine c_aload (i := 0) dT_init_12 rfl ?_
  refine c_bipush (x := 12) dT_init_13 rfl ?_
  refine c_newi (N := 12) dT_init_15 ar_i (by decide) rfl (by decide) (Nat.le_of_ble_eq_true rfl) (Nat.le_of_ble_eq_true rfl) ?_
  refine c_put (w := .ref 97) (cc := (9, 2, [.ref 96, .ref 97], z0, zn)) dT_init_17 fuT_15 ⟨_, _, _, _, rfl, rfl, rfl, rfl⟩ hc_9 (Nat.le_of_ble_eq_true rfl) rfl (Nat.le_of_ble_eq_true rfl) rfl rfl ?_
  exact c_ret dT_init_20 rfl rfl
noncomputable def pf_49 (F : CF) : CF := wr F [(98, (2, 3, df_2, z0, zn)), (99, (20, 8, [], z0, zn)), (98, (2, 3, [.ref 99, .null, .null], z0, zn)), (100, (20, 17, [], z0, zn)), (98, (2, 3, [.ref 99, .ref 100, .null], z0, zn)), (101, (20, 17, [], z0, zn)), (98, (2, 3, [.ref 99, .ref 100, .ref 101], z0, zn))]
set_option maxRecDepth 40000 in
theorem kx_49 (G : GG) (d : Nat) (F : CF) : Kc G tK_init d 3 42 [.ref (gB G + 98)] 99 (sF F 98 (2, 3, df_2, z0, zn)) 102 (pf_49 F) := by
  refine K_of_Vc (by decide) rfl (by simp [cat_i, cat_r]) (by simp [tK_init]) ?_
  refine c_aload (i := 0) dK_init_0 rfl ?_
  refine c_obj dK_init_1 mlK_3 (Nat.le_of_ble_eq_true rfl) ?_
  refine c_aload (i := 0) dK_init_4 rfl ?_
  refine c_bipush (x := 8) dK_init_5 rfl ?_
  refine c_newi (N := 8) dK_init_7 ar_i (by decide) rfl (by decide) (Nat.le_of_ble_eq_true rfl) (Nat.le_of_ble_eq_true rfl) ?_
  refine c_put (w := .ref 99) (cc := (2, 3, [.ref 99, .null, .null], z0, zn)) dK_init_9 fuK_11 ⟨_, _, _, _, rfl, rfl, rfl, rfl⟩ hc_2 (Nat.le_of_ble_eq_true rfl) rfl (Nat.le_of_ble_eq_true rfl) rfl rfl ?_
  refine c_aload (i := 0) dK_init_12 rfl ?_
  refine c_bipush (x := 17) dK_init_13 rfl ?_
  refine c_newi (N := 17) dK_init_15 ar_i (by decide) rfl (by decide) (Nat.le_of_ble_eq_true rfl) (Nat.le_of_ble_eq_true rfl) ?_
  refine c_put (w := .ref 100) (cc := (2, 3, [.ref 99, .ref 100, .null], z0, zn)) dK_init_17 fuK_15 ⟨_, _, _, _, rfl, rfl, rfl, rfl⟩ hc_2 (Nat.le_of_ble_eq_true rfl) rfl (Nat.le_of_ble_eq_true rfl) rfl rfl ?_
  refine c_aload (i := 0) dK_init_20 rfl ?_
  refine c_bipush (x := 17) dK_init_21 rfl ?_
  refine c_newi (N := 17) dK_init_23 ar_i (by decide) rfl (by decide) (Nat.le_of_ble_eq_true rfl) (Nat.le_of_ble_eq_true rfl) ?_
  refine c_put (w := .ref 101) (cc := (2, 3, [.ref 99, .ref 100, .ref 101], z0, zn)) dK_init_25 fuK_18 ⟨_, _, _, _, rfl, rfl, rfl, rfl⟩ hc_2 (Nat.le_of_ble_eq_true rfl) rfl (Nat.le_of_ble_eq_true rfl) rfl rfl ?_
  exact c_ret dK_init_28 rfl rfl
noncomputable def pf_50 (F : CF) : CF := wr F [(102, (8, 2, df_8, z0, zn)), (103, (20, 1024, [], z0, zn)), (102, (8, 2, [.ref 103, .int 0], z0, zn))]
set_option maxRecDepth 40000 in
theorem kx_50 (G : GG) (d : Nat) (F : CF) : Kc G tL_init d 1 1024 [.ref (gB G + 102)] 103 (sF F 102 (8, 2, df_8, z0, zn)) 104 (pf_50 F) := by
  refine K_of_Vc (by decide) rfl (by simp [cat_i, cat_r]) (by simp [tL_init]) ?_
  refine c_aload (i := 0) dL_init_0 rfl ?_
  refine c_obj dL_init_1 mlL_5 (Nat.le_of_ble_eq_true rfl) ?_
  refine c_aload (i := 0) dL_init_4 rfl ?_
  refine c_sipush (x := 1024) dL_init_5 rfl ?_
  refine c_newi (N := 1024) dL_init_8 ar_i (by decide) rfl (by decide) (Nat.le_of_ble_eq_true rfl) (Nat.le_of_ble_eq_true rfl) ?_
  refine c_put (w := .ref 103) (cc := (8, 2, [.ref 103, .int 0], z0, zn)) dL_init_10 fuL_11 ⟨_, _, _, _, rfl, rfl, rfl, rfl⟩ hc_8 (Nat.le_of_ble_eq_true rfl) rfl (Nat.le_of_ble_eq_true rfl) rfl rfl ?_
  exact c_ret dL_init_13 rfl rfl
noncomputable def pf_51 (F : CF) : CF := wr F [(0, (0, 14, df_0, z0, zn)), (1, (1, 8, df_1, z0, zn)), (2, (20, 132, [], z0, zn)), (1, (1, 8, [.ref 2, .int 0, .int 0, .int 0, .int 0, .int 0, .int 0, .int 0], z0, zn)), (3, (1, 8, df_1, z0, zn)), (4, (20, 132, [], z0, zn)), (3, (1, 8, [.ref 4, .int 0, .int 0, .int 0, .int 0, .int 0, .int 0, .int 0], z0, zn)), (5, (11, 14, df_11, z0, zn)), (6, (6, 4, df_6, z0, zn)), (6, (6, 4, [.int 16, .int 0, .null, .int 0], z0, zn)), (6, (6, 4, [.int 16, .int 5, .null, .int 0], z0, zn)), (7, (20, 80, [], z0, zn)), (6, (6, 4, [.int 16, .int 5, .ref 7, .int 0], z0, zn)), (6, (6, 4, [.int 16, .int 5, .ref 7, .int 0], z0, zn)), (5, (11, 14, [.ref 6, .null, .null, .null, .null, .null, .null, .null, .null, .null, .null, .null, .null, .null], z0, zn)), (8, (6, 4, df_6, z0, zn)), (8, (6, 4, [.int 400, .int 0, .null, .int 0], z0, zn)), (8, (6, 4, [.int 400, .int 2, .null, .int 0], z0, zn)), (9, (20, 800, [], z0, zn)), (8, (6, 4, [.int 400, .int 2, .ref 9, .int 0], z0, zn)), (8, (6, 4, [.int 400, .int 2, .ref 9, .int 0], z0, zn)), (5, (11, 14, [.ref 6, .ref 8, .null, .null, .null, .null, .null, .null, .null, .null, .null, .null, .null, .null], z0, zn)), (10, (6, 4, df_6, z0, zn)), (10, (6, 4, [.int 16, .int 0, .null, .int 0], z0, zn)), (10, (6, 4, [.int 16, .int 5, .null, .int 0], z0, zn)), (11, (20, 80, [], z0, zn)), (10, (6, 4, [.int 16, .int 5, .ref 11, .int 0], z0, zn)), (10, (6, 4, [.int 16, .int 5, .ref 11, .int 0], z0, zn)), (5, (11, 14, [.ref 6, .ref 8, .ref 10, .null, .null, .null, .null, .null, .null, .null, .null, .null, .null, .null], z0, zn)), (12, (6, 4, df_6, z0, zn)), (12, (6, 4, [.int 16, .int 0, .null, .int 0], z0, zn)), (12, (6, 4, [.int 16, .int 5, .null, .int 0], z0, zn)), (13, (20, 80, [], z0, zn)), (12, (6, 4, [.int 16, .int 5, .ref 13, .int 0], z0, zn)), (12, (6, 4, [.int 16, .int 5, .ref 13, .int 0], z0, zn)), (5, (11, 14, [.ref 6, .ref 8, .ref 10, .ref 12, .null, .null, .null, .null, .null, .null, .null, .null, .null, .null], z0, zn)), (14, (6, 4, df_6, z0, zn)), (14, (6, 4, [.int 16, .int 0, .null, .int 0], z0, zn)), (14, (6, 4, [.int 16, .int 5, .null, .int 0], z0, zn)), (15, (20, 80, [], z0, zn)), (14, (6, 4, [.int 16, .int 5, .ref 15, .int 0], z0, zn)), (14, (6, 4, [.int 16, .int 5, .ref 15, .int 0], z0, zn)), (5, (11, 14, [.ref 6, .ref 8, .ref 10, .ref 12, .ref 14, .null, .null, .null, .null, .null, .null, .null, .null, .null], z0, zn)), (16, (6, 4, df_6, z0, zn)), (16, (6, 4, [.int 150, .int 0, .null, .int 0], z0, zn)), (16, (6, 4, [.int 150, .int 4, .null, .int 0], z0, zn)), (17, (20, 600, [], z0, zn)), (16, (6, 4, [.int 150, .int 4, .ref 17, .int 0], z0, zn)), (16, (6, 4, [.int 150, .int 4, .ref 17, .int 0], z0, zn)), (5, (11, 14, [.ref 6, .ref 8, .ref 10, .ref 12, .ref 14, .ref 16, .null, .null, .null, .null, .null, .null, .null, .null], z0, zn)), (18, (6, 4, df_6, z0, zn)), (18, (6, 4, [.int 9, .int 0, .null, .int 0], z0, zn)), (18, (6, 4, [.int 9, .int 1, .null, .int 0], z0, zn)), (19, (20, 9, [], z0, zn)), (18, (6, 4, [.int 9, .int 1, .ref 19, .int 0], z0, zn)), (18, (6, 4, [.int 9, .int 1, .ref 19, .int 0], z0, zn)), (5, (11, 14, [.ref 6, .ref 8, .ref 10, .ref 12, .ref 14, .ref 16, .ref 18, .null, .null, .null, .null, .null, .null, .null], z0, zn)), (20, (6, 4, df_6, z0, zn)), (20, (6, 4, [.int 8, .int 0, .null, .int 0], z0, zn)), (20, (6, 4, [.int 8, .int 1, .null, .int 0], z0, zn)), (21, (20, 8, [], z0, zn)), (20, (6, 4, [.int 8, .int 1, .ref 21, .int 0], z0, zn)), (20, (6, 4, [.int 8, .int 1, .ref 21, .int 0], z0, zn)), (5, (11, 14, [.ref 6, .ref 8, .ref 10, .ref 12, .ref 14, .ref 16, .ref 18, .ref 20, .null, .null, .null, .null, .null, .null], z0, zn)), (22, (6, 4, df_6, z0, zn)), (22, (6, 4, [.int 5, .int 0, .null, .int 0], z0, zn)), (22, (6, 4, [.int 5, .int 1, .null, .int 0], z0, zn)), (23, (20, 5, [], z0, zn)), (22, (6, 4, [.int 5, .int 1, .ref 23, .int 0], z0, zn)), (22, (6, 4, [.int 5, .int 1, .ref 23, .int 0], z0, zn)), (5, (11, 14, [.ref 6, .ref 8, .ref 10, .ref 12, .ref 14, .ref 16, .ref 18, .ref 20, .ref 22, .null, .null, .null, .null, .null], z0, zn)), (24, (6, 4, df_6, z0, zn)), (24, (6, 4, [.int 8, .int 0, .null, .int 0], z0, zn)), (24, (6, 4, [.int 8, .int 2, .null, .int 0], z0, zn)), (25, (20, 16, [], z0, zn)), (24, (6, 4, [.int 8, .int 2, .ref 25, .int 0], z0, zn)), (24, (6, 4, [.int 8, .int 2, .ref 25, .int 0], z0, zn)), (5, (11, 14, [.ref 6, .ref 8, .ref 10, .ref 12, .ref 14, .ref 16, .ref 18, .ref 20, .ref 22, .ref 24, .null, .null, .null, .null], z0, zn)), (26, (6, 4, df_6, z0, zn)), (26, (6, 4, [.int 16, .int 0, .null, .int 0], z0, zn)), (26, (6, 4, [.int 16, .int 1, .null, .int 0], z0, zn)), (27, (20, 16, [], z0, zn)), (26, (6, 4, [.int 16, .int 1, .ref 27, .int 0], z0, zn)), (26, (6, 4, [.int 16, .int 1, .ref 27, .int 0], z0, zn)), (5, (11, 14, [.ref 6, .ref 8, .ref 10, .ref 12, .ref 14, .ref 16, .ref 18, .ref 20, .ref 22, .ref 24, .ref 26, .null, .null, .null], z0, zn)), (28, (6, 4, df_6, z0, zn)), (28, (6, 4, [.int 6, .int 0, .null, .int 0], z0, zn)), (28, (6, 4, [.int 6, .int 2, .null, .int 0], z0, zn)), (29, (20, 12, [], z0, zn)), (28, (6, 4, [.int 6, .int 2, .ref 29, .int 0], z0, zn)), (28, (6, 4, [.int 6, .int 2, .ref 29, .int 0], z0, zn)), (5, (11, 14, [.ref 6, .ref 8, .ref 10, .ref 12, .ref 14, .ref 16, .ref 18, .ref 20, .ref 22, .ref 24, .ref 26, .ref 28, .null, .null], z0, zn)), (30, (6, 4, df_6, z0, zn)), (30, (6, 4, [.int 12, .int 0, .null, .int 0], z0, zn)), (30, (6, 4, [.int 12, .int 2, .null, .int 0], z0, zn)), (31, (20, 24, [], z0, zn)), (30, (6, 4, [.int 12, .int 2, .ref 31, .int 0], z0, zn)), (30, (6, 4, [.int 12, .int 2, .ref 31, .int 0], z0, zn)), (5, (11, 14, [.ref 6, .ref 8, .ref 10, .ref 12, .ref 14, .ref 16, .ref 18, .ref 20, .ref 22, .ref 24, .ref 26, .ref 28, .ref 30, .null], z0, zn)), (32, (6, 4, df_6, z0, zn)), (32, (6, 4, [.int 8, .int 0, .null, .int 0], z0, zn)), (32, (6, 4, [.int 8, .int 2, .null, .int 0], z0, zn)), (33, (20, 16, [], z0, zn)), (32, (6, 4, [.int 8, .int 2, .ref 33, .int 0], z0, zn)), (32, (6, 4, [.int 8, .int 2, .ref 33, .int 0], z0, zn)), (5, (11, 14, [.ref 6, .ref 8, .ref 10, .ref 12, .ref 14, .ref 16, .ref 18, .ref 20, .ref 22, .ref 24, .ref 26, .ref 28, .ref 30, .ref 32], z0, zn)), (34, (3, 5, df_3, z0, zn)), (35, (20, 12, [], z0, zn)), (34, (3, 5, [.null, .null, .ref 35, .null, .int 0], z0, zn)), (36, (20, 64, [], z0, zn)), (34, (3, 5, [.null, .null, .ref 35, .ref 36, .int 0], z0, zn)), (34, (3, 5, [.ref 6, .null, .ref 35, .ref 36, .int 0], z0, zn)), (34, (3, 5, [.ref 6, .ref 8, .ref 35, .ref 36, .int 0], z0, zn)), (0, (0, 14, [.ref 1, .null, .null, .null, .null, .null, .null, .null, .null, .null, .null, .null, .null, .int 0], z0, zn)), (0, (0, 14, [.ref 1, .null, .ref 3, .null, .null, .null, .null, .null, .null, .null, .null, .null, .null, .int 0], z0, zn)), (0, (0, 14, [.ref 1, .null, .ref 3, .ref 5, .null, .null, .null, .null, .null, .null, .null, .null, .null, .int 0], z0, zn)), (37, (1, 8, df_1, z0, zn)), (38, (20, 132, [], z0, zn)), (37, (1, 8, [.ref 38, .int 0, .int 0, .int 0, .int 0, .int 0, .int 0, .int 0], z0, zn)), (0, (0, 14, [.ref 1, .ref 37, .ref 3, .ref 5, .null, .null, .null, .null, .null, .null, .null, .null, .null, .int 0], z0, zn)), (39, (11, 14, df_11, z0, zn)), (40, (6, 4, df_6, z0, zn)), (40, (6, 4, [.int 16, .int 0, .null, .int 0], z0, zn)), (40, (6, 4, [.int 16, .int 5, .null, .int 0], z0, zn)), (41, (20, 80, [], z0, zn)), (40, (6, 4, [.int 16, .int 5, .ref 41, .int 0], z0, zn)), (40, (6, 4, [.int 16, .int 5, .ref 41, .int 0], z0, zn)), (39, (11, 14, [.ref 40, .null, .null, .null, .null, .null, .null, .null, .null, .null, .null, .null, .null, .null], z0, zn)), (42, (6, 4, df_6, z0, zn)), (42, (6, 4, [.int 400, .int 0, .null, .int 0], z0, zn)), (42, (6, 4, [.int 400, .int 2, .null, .int 0], z0, zn)), (43, (20, 800, [], z0, zn)), (42, (6, 4, [.int 400, .int 2, .ref 43, .int 0], z0, zn)), (42, (6, 4, [.int 400, .int 2, .ref 43, .int 0], z0, zn)), (39, (11, 14, [.ref 40, .ref 42, .null, .null, .null, .null, .null, .null, .null, .null, .null, .null, .null, .null], z0, zn)), (44, (6, 4, df_6, z0, zn)), (44, (6, 4, [.int 16, .int 0, .null, .int 0], z0, zn)), (44, (6, 4, [.int 16, .int 5, .null, .int 0], z0, zn)), (45, (20, 80, [], z0, zn)), (44, (6, 4, [.int 16, .int 5, .ref 45, .int 0], z0, zn)), (44, (6, 4, [.int 16, .int 5, .ref 45, .int 0], z0, zn)), (39, (11, 14, [.ref 40, .ref 42, .ref 44, .null, .null, .null, .null, .null, .null, .null, .null, .null, .null, .null], z0, zn)), (46, (6, 4, df_6, z0, zn)), (46, (6, 4, [.int 16, .int 0, .null, .int 0], z0, zn)), (46, (6, 4, [.int 16, .int 5, .null, .int 0], z0, zn)), (47, (20, 80, [], z0, zn)), (46, (6, 4, [.int 16, .int 5, .ref 47, .int 0], z0, zn)), (46, (6, 4, [.int 16, .int 5, .ref 47, .int 0], z0, zn)), (39, (11, 14, [.ref 40, .ref 42, .ref 44, .ref 46, .null, .null, .null, .null, .null, .null, .null, .null, .null, .null], z0, zn)), (48, (6, 4, df_6, z0, zn)), (48, (6, 4, [.int 16, .int 0, .null, .int 0], z0, zn)), (48, (6, 4, [.int 16, .int 5, .null, .int 0], z0, zn)), (49, (20, 80, [], z0, zn)), (48, (6, 4, [.int 16, .int 5, .ref 49, .int 0], z0, zn)), (48, (6, 4, [.int 16, .int 5, .ref 49, .int 0], z0, zn)), (39, (11, 14, [.ref 40, .ref 42, .ref 44, .ref 46, .ref 48, .null, .null, .null, .null, .null, .null, .null, .null, .null], z0, zn)), (50, (6, 4, df_6, z0, zn)), (50, (6, 4, [.int 150, .int 0, .null, .int 0], z0, zn)), (50, (6, 4, [.int 150, .int 4, .null, .int 0], z0, zn)), (51, (20, 600, [], z0, zn)), (50, (6, 4, [.int 150, .int 4, .ref 51, .int 0], z0, zn)), (50, (6, 4, [.int 150, .int 4, .ref 51, .int 0], z0, zn)), (39, (11, 14, [.ref 40, .ref 42, .ref 44, .ref 46, .ref 48, .ref 50, .null, .null, .null, .null, .null, .null, .null, .null], z0, zn)), (52, (6, 4, df_6, z0, zn)), (52, (6, 4, [.int 9, .int 0, .null, .int 0], z0, zn)), (52, (6, 4, [.int 9, .int 1, .null, .int 0], z0, zn)), (53, (20, 9, [], z0, zn)), (52, (6, 4, [.int 9, .int 1, .ref 53, .int 0], z0, zn)), (52, (6, 4, [.int 9, .int 1, .ref 53, .int 0], z0, zn)), (39, (11, 14, [.ref 40, .ref 42, .ref 44, .ref 46, .ref 48, .ref 50, .ref 52, .null, .null, .null, .null, .null, .null, .null], z0, zn)), (54, (6, 4, df_6, z0, zn)), (54, (6, 4, [.int 8, .int 0, .null, .int 0], z0, zn)), (54, (6, 4, [.int 8, .int 1, .null, .int 0], z0, zn)), (55, (20, 8, [], z0, zn)), (54, (6, 4, [.int 8, .int 1, .ref 55, .int 0], z0, zn)), (54, (6, 4, [.int 8, .int 1, .ref 55, .int 0], z0, zn)), (39, (11, 14, [.ref 40, .ref 42, .ref 44, .ref 46, .ref 48, .ref 50, .ref 52, .ref 54, .null, .null, .null, .null, .null, .null], z0, zn)), (56, (6, 4, df_6, z0, zn)), (56, (6, 4, [.int 5, .int 0, .null, .int 0], z0, zn)), (56, (6, 4, [.int 5, .int 1, .null, .int 0], z0, zn)), (57, (20, 5, [], z0, zn)), (56, (6, 4, [.int 5, .int 1, .ref 57, .int 0], z0, zn)), (56, (6, 4, [.int 5, .int 1, .ref 57, .int 0], z0, zn)), (39, (11, 14, [.ref 40, .ref 42, .ref 44, .ref 46, .ref 48, .ref 50, .ref 52, .ref 54, .ref 56, .null, .null, .null, .null, .null], z0, zn)), (58, (6, 4, df_6, z0, zn)), (58, (6, 4, [.int 8, .int 0, .null, .int 0], z0, zn)), (58, (6, 4, [.int 8, .int 2, .null, .int 0], z0, zn)), (59, (20, 16, [], z0, zn)), (58, (6, 4, [.int 8, .int 2, .ref 59, .int 0], z0, zn)), (58, (6, 4, [.int 8, .int 2, .ref 59, .int 0], z0, zn)), (39, (11, 14, [.ref 40, .ref 42, .ref 44, .ref 46, .ref 48, .ref 50, .ref 52, .ref 54, .ref 56, .ref 58, .null, .null, .null, .null], z0, zn)), (60, (6, 4, df_6, z0, zn)), (60, (6, 4, [.int 16, .int 0, .null, .int 0], z0, zn)), (60, (6, 4, [.int 16, .int 1, .null, .int 0], z0, zn)), (61, (20, 16, [], z0, zn)), (60, (6, 4, [.int 16, .int 1, .ref 61, .int 0], z0, zn)), (60, (6, 4, [.int 16, .int 1, .ref 61, .int 0], z0, zn)), (39, (11, 14, [.ref 40, .ref 42, .ref 44, .ref 46, .ref 48, .ref 50, .ref 52, .ref 54, .ref 56, .ref 58, .ref 60, .null, .null, .null], z0, zn)), (62, (6, 4, df_6, z0, zn)), (62, (6, 4, [.int 6, .int 0, .null, .int 0], z0, zn)), (62, (6, 4, [.int 6, .int 2, .null, .int 0], z0, zn)), (63, (20, 12, [], z0, zn)), (62, (6, 4, [.int 6, .int 2, .ref 63, .int 0], z0, zn)), (62, (6, 4, [.int 6, .int 2, .ref 63, .int 0], z0, zn)), (39, (11, 14, [.ref 40, .ref 42, .ref 44, .ref 46, .ref 48, .ref 50, .ref 52, .ref 54, .ref 56, .ref 58, .ref 60, .ref 62, .null, .null], z0, zn)), (64, (6, 4, df_6, z0, zn)), (64, (6, 4, [.int 12, .int 0, .null, .int 0], z0, zn)), (64, (6, 4, [.int 12, .int 2, .null, .int 0], z0, zn)), (65, (20, 24, [], z0, zn)), (64, (6, 4, [.int 12, .int 2, .ref 65, .int 0], z0, zn)), (64, (6, 4, [.int 12, .int 2, .ref 65, .int 0], z0, zn)), (39, (11, 14, [.ref 40, .ref 42, .ref 44, .ref 46, .ref 48, .ref 50, .ref 52, .ref 54, .ref 56, .ref 58, .ref 60, .ref 62, .ref 64, .null], z0, zn)), (66, (6, 4, df_6, z0, zn)), (66, (6, 4, [.int 8, .int 0, .null, .int 0], z0, zn)), (66, (6, 4, [.int 8, .int 2, .null, .int 0], z0, zn)), (67, (20, 16, [], z0, zn)), (66, (6, 4, [.int 8, .int 2, .ref 67, .int 0], z0, zn)), (66, (6, 4, [.int 8, .int 2, .ref 67, .int 0], z0, zn)), (39, (11, 14, [.ref 40, .ref 42, .ref 44, .ref 46, .ref 48, .ref 50, .ref 52, .ref 54, .ref 56, .ref 58, .ref 60, .ref 62, .ref 64, .ref 66], z0, zn)), (0, (0, 14, [.ref 1, .ref 37, .ref 3, .ref 5, .ref 39, .null, .null, .null, .null, .null, .null, .null, .null, .int 0], z0, zn)), (68, (7, 4, df_7, z0, zn)), (68, (7, 4, [.ref 1, .null, .null, .int 0], z0, zn)), (68, (7, 4, [.ref 1, .ref 5, .null, .int 0], z0, zn)), (68, (7, 4, [.ref 1, .ref 5, .ref 34, .int 0], z0, zn)), (68, (7, 4, [.ref 1, .ref 5, .ref 34, .int 1], z0, zn)), (0, (0, 14, [.ref 1, .ref 37, .ref 3, .ref 5, .ref 39, .ref 68, .null, .null, .null, .null, .null, .null, .null, .int 0], z0, zn)), (69, (7, 4, df_7, z0, zn)), (69, (7, 4, [.ref 3, .null, .null, .int 0], z0, zn)), (69, (7, 4, [.ref 3, .ref 5, .null, .int 0], z0, zn)), (69, (7, 4, [.ref 3, .ref 5, .ref 34, .int 0], z0, zn)), (69, (7, 4, [.ref 3, .ref 5, .ref 34, .int 0], z0, zn)), (0, (0, 14, [.ref 1, .ref 37, .ref 3, .ref 5, .ref 39, .ref 68, .ref 69, .null, .null, .null, .null, .null, .null, .int 0], z0, zn)), (70, (4, 4, df_4, z0, zn)), (71, (22, 6, [], z0, zn)), (70, (4, 4, [.ref 71, .null, .int 0, .int 0], z0, zn)), (72, (20, 6, [], z0, zn)), (70, (4, 4, [.ref 71, .ref 72, .int 0, .int 0], z0, zn)), (73, (1, 8, df_1, z0, zn)), (74, (20, 132, [], z0, zn)), (73, (1, 8, [.ref 74, .int 0, .int 0, .int 0, .int 0, .int 0, .int 0, .int 0], z0, zn)), (71, (22, 6, [], z0, rz_1)), (75, (1, 8, df_1, z0, zn)), (76, (20, 132, [], z0, zn)), (75, (1, 8, [.ref 76, .int 0, .int 0, .int 0, .int 0, .int 0, .int 0, .int 0], z0, zn)), (71, (22, 6, [], z0, rz_2)), (77, (1, 8, df_1, z0, zn)), (78, (20, 132, [], z0, zn)), (77, (1, 8, [.ref 78, .int 0, .int 0, .int 0, .int 0, .int 0, .int 0, .int 0], z0, zn)), (71, (22, 6, [], z0, rz_3)), (79, (1, 8, df_1, z0, zn)), (80, (20, 132, [], z0, zn)), (79, (1, 8, [.ref 80, .int 0, .int 0, .int 0, .int 0, .int 0, .int 0, .int 0], z0, zn)), (71, (22, 6, [], z0, rz_4)), (81, (1, 8, df_1, z0, zn)), (82, (20, 132, [], z0, zn)), (81, (1, 8, [.ref 82, .int 0, .int 0, .int 0, .int 0, .int 0, .int 0, .int 0], z0, zn)), (71, (22, 6, [], z0, rz_5)), (83, (1, 8, df_1, z0, zn)), (84, (20, 132, [], z0, zn)), (83, (1, 8, [.ref 84, .int 0, .int 0, .int 0, .int 0, .int 0, .int 0, .int 0], z0, zn)), (71, (22, 6, [], z0, rz_6)), (0, (0, 14, [.ref 1, .ref 37, .ref 3, .ref 5, .ref 39, .ref 68, .ref 69, .ref 70, .null, .null, .null, .null, .null, .int 0], z0, zn)), (85, (10, 6, df_10, z0, zn)), (86, (21, 400, [], z0, zn)), (85, (10, 6, [.ref 86, .null, .null, .null, .int 0, .int 0], z0, zn)), (87, (20, 401, [], z0, zn)), (85, (10, 6, [.ref 86, .ref 87, .null, .null, .int 0, .int 0], z0, zn)), (88, (20, 401, [], z0, zn)), (85, (10, 6, [.ref 86, .ref 87, .ref 88, .null, .int 0, .int 0], z0, zn)), (89, (20, 401, [], z0, zn)), (85, (10, 6, [.ref 86, .ref 87, .ref 88, .ref 89, .int 0, .int 0], z0, zn)), (0, (0, 14, [.ref 1, .ref 37, .ref 3, .ref 5, .ref 39, .ref 68, .ref 69, .ref 70, .ref 85, .null, .null, .null, .null, .int 0], z0, zn)), (90, (5, 10, df_5, z0, zn)), (91, (6, 4, df_6, z0, zn)), (91, (6, 4, [.int 16, .int 0, .null, .int 0], z0, zn)), (91, (6, 4, [.int 16, .int 5, .null, .int 0], z0, zn)), (92, (20, 80, [], z0, zn)), (91, (6, 4, [.int 16, .int 5, .ref 92, .int 0], z0, zn)), (91, (6, 4, [.int 16, .int 5, .ref 92, .int 0], z0, zn)), (90, (5, 10, [.ref 91, .null, .int 0, .int 0, .null, .int 0, .int 0, .int 0, .int 0, .int 0], z0, zn)), (93, (6, 4, df_6, z0, zn)), (93, (6, 4, [.int 400, .int 0, .null, .int 0], z0, zn)), (93, (6, 4, [.int 400, .int 2, .null, .int 0], z0, zn)), (94, (20, 800, [], z0, zn)), (93, (6, 4, [.int 400, .int 2, .ref 94, .int 0], z0, zn)), (93, (6, 4, [.int 400, .int 2, .ref 94, .int 0], z0, zn)), (90, (5, 10, [.ref 91, .ref 93, .int 0, .int 0, .null, .int 0, .int 0, .int 0, .int 0, .int 0], z0, zn)), (90, (5, 10, [.ref 91, .ref 93, .int 0, .int 0, .null, .int 0, .int 0, .int 0, .int 0, .int 0], z0, zn)), (90, (5, 10, [.ref 91, .ref 93, .int 0, .int (-1), .null, .int 0, .int 0, .int 0, .int 0, .int 0], z0, zn)), (90, (5, 10, [.ref 91, .ref 93, .int 0, .int (-1), .ref 85, .int 0, .int 0, .int 0, .int 0, .int 0], z0, zn)), (0, (0, 14, [.ref 1, .ref 37, .ref 3, .ref 5, .ref 39, .ref 68, .ref 69, .ref 70, .ref 85, .ref 90, .null, .null, .null, .int 0], z0, zn)), (95, (9, 2, df_9, z0, zn)), (96, (20, 12, [], z0, zn)), (95, (9, 2, [.ref 96, .null], z0, zn)), (97, (20, 12, [], z0, zn)), (95, (9, 2, [.ref 96, .ref 97], z0, zn)), (0, (0, 14, [.ref 1, .ref 37, .ref 3, .ref 5, .ref 39, .ref 68, .ref 69, .ref 70, .ref 85, .ref 90, .ref 95, .null, .null, .int 0], z0, zn)), (98, (2, 3, df_2, z0, zn)), (99, (20, 8, [], z0, zn)), (98, (2, 3, [.ref 99, .null, .null], z0, zn)), (100, (20, 17, [], z0, zn)), (98, (2, 3, [.ref 99, .ref 100, .null], z0, zn)), (101, (20, 17, [], z0, zn)), (98, (2, 3, [.ref 99, .ref 100, .ref 101], z0, zn)), (0, (0, 14, [.ref 1, .ref 37, .ref 3, .ref 5, .ref 39, .ref 68, .ref 69, .ref 70, .ref 85, .ref 90, .ref 95, .ref 98, .null, .int 0], z0, zn)), (102, (8, 2, df_8, z0, zn)), (103, (20, 1024, [], z0, zn)), (102, (8, 2, [.ref 103, .int 0], z0, zn)), (0, (0, 14, [.ref 1, .ref 37, .ref 3, .ref 5, .ref 39, .ref 68, .ref 69, .ref 70, .ref 85, .ref 90, .ref 95, .ref 98, .ref 102, .int 0], z0, zn)), (0, (0, 14, [.ref 1, .ref 37, .ref 3, .ref 5, .ref 39, .ref 68, .ref 69, .ref 70, .ref 85, .ref 90, .ref 95, .ref 98, .ref 102, .int 0], z0, zn))]
