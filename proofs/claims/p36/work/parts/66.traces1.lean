/-! the constructors, instance by instance, as they run. Printed by wip/gen/p65.py -/
def wr (F : CF) (l : List (Nat × CE)) : CF := l.foldl (fun F q => sF F q.1 q.2) F
def pf_1 (F : CF) : CF := wr F [(1, (1, 8, df_1, z0, zn)), (2, (20, 132, [], z0, zn)), (1, (1, 8, [.ref 2, .int 0, .int 0, .int 0, .int 0, .int 0, .int 0, .int 0], z0, zn))]
set_option maxRecDepth 40000 in
theorem kx_1 (G : GG) (d : Nat) (F : CF) : Kc G tB_init d 1 132 [.ref (gB G + 1)] 2 (sF F 1 (1, 8, df_1, z0, zn)) 3 (pf_1 F) := by
  refine K_of_Vc (by decide) rfl (by simp [cat_i, cat_r]) (by simp [tB_init]) ?_
  refine c_aload (i := 0) dB_init_0 rfl ?_
  refine c_obj dB_init_1 mlB_3 (Nat.le_of_ble_eq_true rfl) ?_
  refine c_aload (i := 0) dB_init_4 rfl ?_
  refine c_sipush (x := 132) dB_init_5 rfl ?_
  refine c_newi (N := 132) dB_init_8 ar_i (by decide) rfl (by decide) (Nat.le_of_ble_eq_true rfl) (Nat.le_of_ble_eq_true rfl) ?_
  refine c_put (w := .ref 2) (cc := (1, 8, [.ref 2, .int 0, .int 0, .int 0, .int 0, .int 0, .int 0, .int 0], z0, zn)) dB_init_10 fuB_11 ⟨_, _, _, _, rfl, rfl, rfl, rfl⟩ hc_1 (Nat.le_of_ble_eq_true rfl) rfl (Nat.le_of_ble_eq_true rfl) rfl rfl ?_
  exact c_ret dB_init_13 rfl rfl
def pf_2 (F : CF) : CF := wr F [(3, (1, 8, df_1, z0, zn)), (4, (20, 132, [], z0, zn)), (3, (1, 8, [.ref 4, .int 0, .int 0, .int 0, .int 0, .int 0, .int 0, .int 0], z0, zn))]
set_option maxRecDepth 40000 in
theorem kx_2 (G : GG) (d : Nat) (F : CF) : Kc G tB_init d 1 132 [.ref (gB G + 3)] 4 (sF F 3 (1, 8, df_1, z0, zn)) 5 (pf_2 F) := by
  refine K_of_Vc (by decide) rfl (by simp [cat_i, cat_r]) (by simp [tB_init]) ?_
  refine c_aload (i := 0) dB_init_0 rfl ?_
  refine c_obj dB_init_1 mlB_3 (Nat.le_of_ble_eq_true rfl) ?_
  refine c_aload (i := 0) dB_init_4 rfl ?_
  refine c_sipush (x := 132) dB_init_5 rfl ?_
  refine c_newi (N := 132) dB_init_8 ar_i (by decide) rfl (by decide) (Nat.le_of_ble_eq_true rfl) (Nat.le_of_ble_eq_true rfl) ?_
  refine c_put (w := .ref 4) (cc := (1, 8, [.ref 4, .int 0, .int 0, .int 0, .int 0, .int 0, .int 0, .int 0], z0, zn)) dB_init_10 fuB_11 ⟨_, _, _, _, rfl, rfl, rfl, rfl⟩ hc_1 (Nat.le_of_ble_eq_true rfl) rfl (Nat.le_of_ble_eq_true rfl) rfl rfl ?_
  exact c_ret dB_init_13 rfl rfl
def pf_3 (F : CF) : CF := wr F [(6, (6, 4, df_6, z0, zn)), (6, (6, 4, [.int 16, .int 0, .null, .int 0], z0, zn)), (6, (6, 4, [.int 16, .int 5, .null, .int 0], z0, zn)), (7, (20, 80, [], z0, zn)), (6, (6, 4, [.int 16, .int 5, .ref 7, .int 0], z0, zn)), (6, (6, 4, [.int 16, .int 5, .ref 7, .int 0], z0, zn))]
set_option maxRecDepth 40000 in
theorem kx_3 (G : GG) (d : Nat) (F : CF) : Kc G tR_init d 1 80 [.ref (gB G + 6), .int 16, .int 5] 7 (sF F 6 (6, 4, df_6, z0, zn)) 8 (pf_3 F) := by
  refine K_of_Vc (by decide) rfl (by simp [cat_i, cat_r]) (by simp [tR_init]) ?_
  refine c_aload (i := 0) dR_init_0 rfl ?_
  refine c_obj dR_init_1 mlR_3 (Nat.le_of_ble_eq_true rfl) ?_
  refine c_aload (i := 0) dR_init_4 rfl ?_
  refine c_iload (i := 1) dR_init_5 rfl ?_
  refine c_iconst (x := 0) dR_init_6 rfl ?_
  refine c_mmax (z := 16) dR_init_7 mlR_9 rfl (Nat.le_of_ble_eq_true rfl) (Nat.le_of_ble_eq_true rfl) (Nat.le_of_ble_eq_true rfl) ?_
  refine c_put (w := .int 16) (cc := (6, 4, [.int 16, .int 0, .null, .int 0], z0, zn)) dR_init_10 fuR_15 ⟨_, _, _, _, rfl, rfl, rfl, rfl⟩ hc_6 (Nat.le_of_ble_eq_true rfl) rfl (Nat.le_of_ble_eq_true rfl) rfl rfl ?_
  refine c_aload (i := 0) dR_init_13 rfl ?_
  refine c_iload (i := 2) dR_init_14 rfl ?_
  refine c_iconst (x := 1) dR_init_15 rfl ?_
  refine c_mmax (z := 5) dR_init_16 mlR_9 rfl (Nat.le_of_ble_eq_true rfl) (Nat.le_of_ble_eq_true rfl) (Nat.le_of_ble_eq_true rfl) ?_
  refine c_put (w := .int 5) (cc := (6, 4, [.int 16, .int 5, .null, .int 0], z0, zn)) dR_init_19 fuR_21 ⟨_, _, _, _, rfl, rfl, rfl, rfl⟩ hc_6 (Nat.le_of_ble_eq_true rfl) rfl (Nat.le_of_ble_eq_true rfl) rfl rfl ?_
  refine c_aload (i := 0) dR_init_22 rfl ?_
  refine c_aload (i := 0) dR_init_23 rfl ?_
  refine c_get (w := .int 16) (w' := .int 16) dR_init_24 fuR_15 (Nat.le_of_ble_eq_true rfl) rfl rfl rfl ?_
  refine c_aload (i := 0) dR_init_27 rfl ?_
  refine c_get (w := .int 5) (w' := .int 5) dR_init_28 fuR_21 (Nat.le_of_ble_eq_true rfl) rfl rfl rfl ?_
  refine c_imul (z := 80) dR_init_31 rfl ?_
  refine c_newi (N := 80) dR_init_32 ar_i (by decide) rfl (by decide) (Nat.le_of_ble_eq_true rfl) (Nat.le_of_ble_eq_true rfl) ?_
  refine c_put (w := .ref 7) (cc := (6, 4, [.int 16, .int 5, .ref 7, .int 0], z0, zn)) dR_init_34 fuR_24 ⟨_, _, _, _, rfl, rfl, rfl, rfl⟩ hc_6 (Nat.le_of_ble_eq_true rfl) rfl (Nat.le_of_ble_eq_true rfl) rfl rfl ?_
  refine c_aload (i := 0) dR_init_37 rfl ?_
  refine c_iconst (x := 0) dR_init_38 rfl ?_
  refine c_put (w := .int 0) (cc := (6, 4, [.int 16, .int 5, .ref 7, .int 0], z0, zn)) dR_init_39 fuR_28 ⟨_, _, _, _, rfl, rfl, rfl, rfl⟩ hc_6 (Nat.le_of_ble_eq_true rfl) rfl (Nat.le_of_ble_eq_true rfl) rfl rfl ?_
  exact c_ret dR_init_42 rfl rfl
def pf_4 (F : CF) : CF := wr F [(8, (6, 4, df_6, z0, zn)), (8, (6, 4, [.int 400, .int 0, .null, .int 0], z0, zn)), (8, (6, 4, [.int 400, .int 2, .null, .int 0], z0, zn)), (9, (20, 800, [], z0, zn)), (8, (6, 4, [.int 400, .int 2, .ref 9, .int 0], z0, zn)), (8, (6, 4, [.int 400, .int 2, .ref 9, .int 0], z0, zn))]
set_option maxRecDepth 40000 in
theorem kx_4 (G : GG) (d : Nat) (F : CF) : Kc G tR_init d 1 800 [.ref (gB G + 8), .int 400, .int 2] 9 (sF F 8 (6, 4, df_6, z0, zn)) 10 (pf_4 F) := by
  refine K_of_Vc (by decide) rfl (by simp [cat_i, cat_r]) (by simp [tR_init]) ?_
  refine c_aload (i := 0) dR_init_0 rfl ?_
  refine c_obj dR_init_1 mlR_3 (Nat.le_of_ble_eq_true rfl) ?_
  refine c_aload (i := 0) dR_init_4 rfl ?_
  refine c_iload (i := 1) dR_init_5 rfl ?_
  refine c_iconst (x := 0) dR_init_6 rfl ?_
  refine c_mmax (z := 400) dR_init_7 mlR_9 rfl (Nat.le_of_ble_eq_true rfl) (Nat.le_of_ble_eq_true rfl) (Nat.le_of_ble_eq_true rfl) ?_
  refine c_put (w := .int 400) (cc := (6, 4, [.int 400, .int 0, .null, .int 0], z0, zn)) dR_init_10 fuR_15 ⟨_, _, _, _, rfl, rfl, rfl, rfl⟩ hc_6 (Nat.le_of_ble_eq_true rfl) rfl (Nat.le_of_ble_eq_true rfl) rfl rfl ?_
  refine c_aload (i := 0) dR_init_13 rfl ?_
  refine c_iload (i := 2) dR_init_14 rfl ?_
  refine c_iconst (x := 1) dR_init_15 rfl ?_
  refine c_mmax (z := 2) dR_init_16 mlR_9 rfl (Nat.le_of_ble_eq_true rfl) (Nat.le_of_ble_eq_true rfl) (Nat.le_of_ble_eq_true rfl) ?_
  refine c_put (w := .int 2) (cc := (6, 4, [.int 400, .int 2, .null, .int 0], z0, zn)) dR_init_19 fuR_21 ⟨_, _, _, _, rfl, rfl, rfl, rfl⟩ hc_6 (Nat.le_of_ble_eq_true rfl) rfl (Nat.le_of_ble_eq_true rfl) rfl rfl ?_
  refine c_aload (i := 0) dR_init_22 rfl ?_
  refine c_aload (i := 0) dR_init_23 rfl ?_
  refine c_get (w := .int 400) (w' := .int 400) dR_init_24 fuR_15 (Nat.le_of_ble_eq_true rfl) rfl rfl rfl ?_
  refine c_aload (i := 0) dR_init_27 rfl ?_
  refine c_get (w := .int 2) (w' := .int 2) dR_init_28 fuR_21 (Nat.le_of_ble_eq_true rfl) rfl rfl rfl ?_
  refine c_imul (z := 800) dR_init_31 rfl ?_
  refine c_newi (N := 800) dR_init_32 ar_i (by decide) rfl (by decide) (Nat.le_of_ble_eq_true rfl) (Nat.le_of_ble_eq_true rfl) ?_
  refine c_put (w := .ref 9) (cc := (6, 4, [.int 400, .int 2, .ref 9, .int 0], z0, zn)) dR_init_34 fuR_24 ⟨_, _, _, _, rfl, rfl, rfl, rfl⟩ hc_6 (Nat.le_of_ble_eq_true rfl) rfl (Nat.le_of_ble_eq_true rfl) rfl rfl ?_
  refine c_aload (i := 0) dR_init_37 rfl ?_
  refine c_iconst (x := 0) dR_init_38 rfl ?_
  refine c_put (w := .int 0) (cc := (6, 4, [.int 400, .int 2, .ref 9, .int 0], z0, zn)) dR_init_39 fuR_28 ⟨_, _, _, _, rfl, rfl, rfl, rfl⟩ hc_6 (Nat.le_of_ble_eq_true rfl) rfl (Nat.le_of_ble_eq_true rfl) rfl rfl ?_
  exact c_ret dR_init_42 rfl rfl
def pf_5 (F : CF) : CF := wr F [(10, (6, 4, df_6, z0, zn)), (10, (6, 4, [.int 16, .int 0, .null, .int 0], z0, zn)), (10, (6, 4, [.int 16, .int 5, .null, .int 0], z0, zn)), (11, (20, 80, [], z0, zn)), (10, (6, 4, [.int 16, .int 5, .ref 11, .int 0], z0, zn)), (10, (6, 4, [.int 16, .int 5, .ref 11, .int 0], z0, zn))]
set_option maxRecDepth 40000 in
theorem kx_5 (G : GG) (d : Nat) (F : CF) : Kc G tR_init d 1 80 [.ref (gB G + 10), .int 16, .int 5] 11 (sF F 10 (6, 4, df_6, z0, zn)) 12 (pf_5 F) := by
  refine K_of_Vc (by decide) rfl (by simp [cat_i, cat_r]) (by simp [tR_init]) ?_
  refine c_aload (i := 0) dR_init_0 rfl ?_
  refine c_obj dR_init_1 mlR_3 (Nat.le_of_ble_eq_true rfl) ?_
  refine c_aload (i := 0) dR_init_4 rfl ?_
  refine c_iload (i := 1) dR_init_5 rfl ?_
  refine c_iconst (x := 0) dR_init_6 rfl ?_
  refine c_mmax (z := 16) dR_init_7 mlR_9 rfl (Nat.le_of_ble_eq_true rfl) (Nat.le_of_ble_eq_true rfl) (Nat.le_of_ble_eq_true rfl) ?_
  refine c_put (w := .int 16) (cc := (6, 4, [.int 16, .int 0, .null, .int 0], z0, zn)) dR_init_10 fuR_15 ⟨_, _, _, _, rfl, rfl, rfl, rfl⟩ hc_6 (Nat.le_of_ble_eq_true rfl) rfl (Nat.le_of_ble_eq_true rfl) rfl rfl ?_
  refine c_aload (i := 0) dR_init_13 rfl ?_
  refine c_iload (i := 2) dR_init_14 rfl ?_
  refine c_iconst (x := 1) dR_init_15 rfl ?_
  refine c_mmax (z := 5) dR_init_16 mlR_9 rfl (Nat.le_of_ble_eq_true rfl) (Nat.le_of_ble_eq_true rfl) (Nat.le_of_ble_eq_true rfl) ?_
  refine c_put (w := .int 5) (cc := (6, 4, [.int 16, .int 5, .null, .int 0], z0, zn)) dR_init_19 fuR_21 ⟨_, _, _, _, rfl, rfl, rfl, rfl⟩ hc_6 (Nat.le_of_ble_eq_true rfl) rfl (Nat.le_of_ble_eq_true rfl) rfl rfl ?_
  refine c_aload (i := 0) dR_init_22 rfl ?_
  refine c_aload (i := 0) dR_init_23 rfl ?_
  refine c_get (w := .int 16) (w' := .int 16) dR_init_24 fuR_15 (Nat.le_of_ble_eq_true rfl) rfl rfl rfl ?_
  refine c_aload (i := 0) dR_init_27 rfl ?_
  refine c_get (w := .int 5) (w' := .int 5) dR_init_28 fuR_21 (Nat.le_of_ble_eq_true rfl) rfl rfl rfl ?_
  refine c_imul (z := 80) dR_init_31 rfl ?_
  refine c_newi (N := 80) dR_init_32 ar_i (by decide) rfl (by decide) (Nat.le_of_ble_eq_true rfl) (Nat.le_of_ble_eq_true rfl) ?_
  refine c_put (w := .ref 11) (cc := (6, 4, [.int 16, .int 5, .ref 11, .int 0], z0, zn)) dR_init_34 fuR_24 ⟨_, _, _, _, rfl, rfl, rfl, rfl⟩ hc_6 (Nat.le_of_ble_eq_true rfl) rfl (Nat.le_of_ble_eq_true rfl) rfl rfl ?_
  refine c_aload (i := 0) dR_init_37 rfl ?_
  refine c_iconst (x := 0) dR_init_38 rfl ?_
  refine c_put (w := .int 0) (cc := (6, 4, [.int 16, .int 5, .ref 11, .int 0], z0, zn)) dR_init_39 fuR_28 ⟨_, _, _, _, rfl, rfl, rfl, rfl⟩ hc_6 (Nat.le_of_ble_eq_true rfl) rfl (Nat.le_of_ble_eq_true rfl) rfl rfl ?_
  exact c_ret dR_init_42 rfl rfl
def pf_6 (F : CF) : CF := wr F [(12, (6, 4, df_6, z0, zn)), (12, (6, 4, [.int 16, .int 0, .null, .int 0], z0, zn)), (12, (6, 4, [.int 16, .int 5, .null, .int 0], z0, zn)), (13, (20, 80, [], z0, zn)), (12, (6, 4, [.int 16, .int 5, .ref 13, .int 0], z0, zn)), (12, (6, 4, [.int 16, .int 5, .ref 13, .int 0], z0, zn))]
set_option maxRecDepth 40000 in
theorem kx_6 (G : GG) (d : Nat) (F : CF) : Kc G tR_init d 1 80 [.ref (gB G + 12), .int 16, .int 5] 13 (sF F 12 (6, 4, df_6, z0, zn)) 14 (pf_6 F) := by
  refine K_of_Vc (by decide) rfl (by simp [cat_i, cat_r]) (by simp [tR_init]) ?_
  refine c_aload (i := 0) dR_init_0 rfl ?_
  refine c_obj dR_init_1 mlR_3 (Nat.le_of_ble_eq_true rfl) ?_
  refine c_aload (i := 0) dR_init_4 rfl ?_
  refine c_iload (i := 1) dR_init_5 rfl ?_
  refine c_iconst (x := 0) dR_init_6 rfl ?_
  refine c_mmax (z := 16) dR_init_7 mlR_9 rfl (Nat.le_of_ble_eq_true rfl) (Nat.le_of_ble_eq_true rfl) (Nat.le_of_ble_eq_true rfl) ?_
  refine c_put (w := .int 16) (cc := (6, 4, [.int 16, .int 0, .null, .int 0], z0, zn)) dR_init_10 fuR_15 ⟨_, _, _, _, rfl, rfl, rfl, rfl⟩ hc_6 (Nat.le_of_ble_eq_true rfl) rfl (Nat.le_of_ble_eq_true rfl) rfl rfl ?_
  refine c_aload (i := 0) dR_init_13 rfl ?_
  refine c_iload (i := 2) dR_init_14 rfl ?_
  refine c_iconst (x := 1) dR_init_15 rfl ?_
  refine c_mmax (z := 5) dR_init_16 mlR_9 rfl (Nat.le_of_ble_eq_true rfl) (Nat.le_of_ble_eq_true rfl) (Nat.le_of_ble_eq_true rfl) ?_
  refine c_put (w := .int 5) (cc := (6, 4, [.int 16, .int 5, .null, .int 0], z0, zn)) dR_init_19 fuR_21 ⟨_, _, _, _, rfl, rfl, rfl, rfl⟩ hc_6 (Nat.le_of_ble_eq_true rfl) rfl (Nat.le_of_ble_eq_true rfl) rfl rfl ?_
  refine c_aload (i := 0) dR_init_22 rfl ?_
  refine c_aload (i := 0) dR_init_23 rfl ?_
  refine c_get (w := .int 16) (w' := .int 16) dR_init_24 fuR_15 (Nat.le_of_ble_eq_true rfl) rfl rfl rfl ?_
  refine c_aload (i := 0) dR_init_27 rfl ?_
  refine c_get (w := .int 5) (w' := .int 5) dR_init_28 fuR_21 (Nat.le_of_ble_eq_true rfl) rfl rfl rfl ?_
  refine c_imul (z := 80) dR_init_31 rfl ?_
  refine c_newi (N := 80) dR_init_32 ar_i (by decide) rfl (by decide) (Nat.le_of_ble_eq_true rfl) (Nat.le_of_ble_eq_true rfl) ?_
  refine c_put (w := .ref 13) (cc := (6, 4, [.int 16, .int 5, .ref 13, .int 0], z0, zn)) dR_init_34 fuR_24 ⟨_, _, _, _, rfl, rfl, rfl, rfl⟩ hc_6 (Nat.le_of_ble_eq_true rfl) rfl (Nat.le_of_ble_eq_true rfl) rfl rfl ?_
  refine c_aload (i := 0) dR_init_37 rfl ?_
  refine c_iconst (x := 0) dR_init_38 rfl ?_
  refine c_put (w := .int 0) (cc := (6, 4, [.int 16, .int 5, .ref 13, .int 0], z0, zn)) dR_init_39 fuR_28 ⟨_, _, _, _, rfl, rfl, rfl, rfl⟩ hc_6 (Nat.le_of_ble_eq_true rfl) rfl (Nat.le_of_ble_eq_true rfl) rfl rfl ?_
  exact c_ret dR_init_42 rfl rfl
def pf_7 (F : CF) : CF := wr F [(14, (6, 4, df_6, z0, zn)), (14, (6, 4, [.int 16, .int 0, .null, .int 0], z0, zn)), (14, (6, 4, [.int 16, .int 5, .null, .int 0], z0, zn)), (15, (20, 80, [], z0, zn)), (14, (6, 4, [.int 16, .int 5, .ref 15, .int 0], z0, zn)), (14, (6, 4, [.int 16, .int 5, .ref 15, .int 0], z0, zn))]
set_option maxRecDepth 40000 in
theorem kx_7 (G : GG) (d : Nat) (F : CF) : Kc G tR_init d 1 80 [.ref (gB G + 14), .int 16, .int 5] 15 (sF F 14 (6, 4, df_6, z0, zn)) 16 (pf_7 F) := by
  refine K_of_Vc (by decide) rfl (by simp [cat_i, cat_r]) (by simp [tR_init]) ?_
  refine c_aload (i := 0) dR_init_0 rfl ?_
  refine c_obj dR_init_1 mlR_3 (Nat.le_of_ble_eq_true rfl) ?_
  refine c_aload (i := 0) dR_init_4 rfl ?_
  refine c_iload (i := 1) dR_init_5 rfl ?_
  refine c_iconst (x := 0) dR_init_6 rfl ?_
  refine c_mmax (z := 16) dR_init_7 mlR_9 rfl (Nat.le_of_ble_eq_true rfl) (Nat.le_of_ble_eq_true rfl) (Nat.le_of_ble_eq_true rfl) ?_
  refine c_put (w := .int 16) (cc := (6, 4, [.int 16, .int 0, .null, .int 0], z0, zn)) dR_init_10 fuR_15 ⟨_, _, _, _, rfl, rfl, rfl, rfl⟩ hc_6 (Nat.le_of_ble_eq_true rfl) rfl (Nat.le_of_ble_eq_true rfl) rfl rfl ?_
  refine c_aload (i := 0) dR_init_13 rfl ?_
  refine c_iload (i := 2) dR_init_14 rfl ?_
  refine c_iconst (x := 1) dR_init_15 rfl ?_
  refine c_mmax (z := 5) dR_init_16 mlR_9 rfl (Nat.le_of_ble_eq_true rfl) (Nat.le_of_ble_eq_true rfl) (Nat.le_of_ble_eq_true rfl) ?_
  refine c_put (w := .int 5) (cc := (6, 4, [.int 16, .int 5, .null, .int 0], z0, zn)) dR_init_19 fuR_21 ⟨_, _, _, _, rfl, rfl, rfl, rfl⟩ hc_6 (Nat.le_of_ble_eq_true rfl) rfl (Nat.le_of_ble_eq_true rfl) rfl rfl ?_
  refine c_aload (i := 0) dR_init_22 rfl ?_
  refine c_aload (i := 0) dR_init_23 rfl ?_
  refine c_get (w := .int 16) (w' := .int 16) dR_init_24 fuR_15 (Nat.le_of_ble_eq_true rfl) rfl rfl rfl ?_
  refine c_aload (i := 0) dR_init_27 rfl ?_
  refine c_get (w := .int 5) (w' := .int 5) dR_init_28 fuR_21 (Nat.le_of_ble_eq_true rfl) rfl rfl rfl ?_
  refine c_imul (z := 80) dR_init_31 rfl ?_
  refine c_newi (N := 80) dR_init_32 ar_i (by decide) rfl (by decide) (Nat.le_of_ble_eq_true rfl) (Nat.le_of_ble_eq_true rfl) ?_
  refine c_put (w := .ref 15) (cc := (6, 4, [.int 16, .int 5, .ref 15, .int 0], z0, zn)) dR_init_34 fuR_24 ⟨_, _, _, _, rfl, rfl, rfl, rfl⟩ hc_6 (Nat.le_of_ble_eq_true rfl) rfl (Nat.le_of_ble_eq_true rfl) rfl rfl ?_
  refine c_aload (i := 0) dR_init_37 rfl ?_
  refine c_iconst (x := 0) dR_init_38 rfl ?_
  refine c_put (w := .int 0) (cc := (6, 4, [.int 16, .int 5, .ref 15, .int 0], z0, zn)) dR_init_39 fuR_28 ⟨_, _, _, _, rfl, rfl, rfl, rfl⟩ hc_6 (Nat.le_of_ble_eq_true rfl) rfl (Nat.le_of_ble_eq_true rfl) rfl rfl ?_
  exact c_ret dR_init_42 rfl rfl
def pf_8 (F : CF) : CF := wr F [(16, (6, 4, df_6, z0, zn)), (16, (6, 4, [.int 150, .int 0, .null, .int 0], z0, zn)), (16, (6, 4, [.int 150, .int 4, .null, .int 0], z0, zn)), (17, (20, 600, [], z0, zn)), (16, (6, 4, [.int 150, .int 4, .ref 17, .int 0], z0, zn)), (16, (6, 4, [.int 150, .int 4, .ref 17, .int 0], z0, zn))]
set_option maxRecDepth 40000 in
theorem kx_8 (G : GG) (d : Nat) (F : CF) : Kc G tR_init d 1 600 [.ref (gB G + 16), .int 150, .int 4] 17 (sF F 16 (6, 4, df_6, z0, zn)) 18 (pf_8 F) := by
  refine K_of_Vc (by decide) rfl (by simp [cat_i, cat_r]) (by simp [tR_init]) ?_
  refine c_aload (i := 0) dR_init_0 rfl ?_
  refine c_obj dR_init_1 mlR_3 (Nat.le_of_ble_eq_true rfl) ?_
  refine c_aload (i := 0) dR_init_4 rfl ?_
  refine c_iload (i := 1) dR_init_5 rfl ?_
  refine c_iconst (x := 0) dR_init_6 rfl ?_
  refine c_mmax (z := 150) dR_init_7 mlR_9 rfl (Nat.le_of_ble_eq_true rfl) (Nat.le_of_ble_eq_true rfl) (Nat.le_of_ble_eq_true rfl) ?_
  refine c_put (w := .int 150) (cc := (6, 4, [.int 150, .int 0, .null, .int 0], z0, zn)) dR_init_10 fuR_15 ⟨_, _, _, _, rfl, rfl, rfl, rfl⟩ hc_6 (Nat.le_of_ble_eq_true rfl) rfl (Nat.le_of_ble_eq_true rfl) rfl rfl ?_
  refine c_aload (i := 0) dR_init_13 rfl ?_
  refine c_iload (i := 2) dR_init_14 rfl ?_
  refine c_iconst (x := 1) dR_init_15 rfl ?_
  refine c_mmax (z := 4) dR_init_16 mlR_9 rfl (Nat.le_of_ble_eq_true rfl) (Nat.le_of_ble_eq_true rfl) (Nat.le_of_ble_eq_true rfl) ?_
  refine c_put (w := .int 4) (cc := (6, 4, [.int 150, .int 4, .null, .int 0], z0, zn)) dR_init_19 fuR_21 ⟨_, _, _, _, rfl, rfl, rfl, rfl⟩ hc_6 (Nat.le_of_ble_eq_true rfl) rfl (Nat.le_of_ble_eq_true rfl) rfl rfl ?_
  refine c_aload (i := 0) dR_init_22 rfl ?_
  refine c_aload (i := 0) dR_init_23 rfl ?_
  refine c_get (w := .int 150) (w' := .int 150) dR_init_24 fuR_15 (Nat.le_of_ble_eq_true rfl) rfl rfl rfl ?_
  refine c_aload (i := 0) dR_init_27 rfl ?_
  refine c_get (w := .int 4) (w' := .int 4) dR_init_28 fuR_21 (Nat.le_of_ble_eq_true rfl) rfl rfl rfl ?_
  refine c_imul (z := 600) dR_init_31 rfl ?_
  refine c_newi (N := 600) dR_init_32 ar_i (by decide) rfl (by decide) (Nat.le_of_ble_eq_true rfl) (Nat.le_of_ble_eq_true rfl) ?_
  refine c_put (w := .ref 17) (cc := (6, 4, [.int 150, .int 4, .ref 17, .int 0], z0, zn)) dR_init_34 fuR_24 ⟨_, _, _, _, rfl, rfl, rfl, rfl⟩ hc_6 (Nat.le_of_ble_eq_true rfl) rfl (Nat.le_of_ble_eq_true rfl) rfl rfl ?_
  refine c_aload (i := 0) dR_init_37 rfl ?_
  refine c_iconst (x := 0) dR_init_38 rfl ?_
  refine c_put (w := .int 0) (cc := (6, 4, [.int 150, .int 4, .ref 17, .int 0], z0, zn)) dR_init_39 fuR_28 ⟨_, _, _, _, rfl, rfl, rfl, rfl⟩ hc_6 (Nat.le_of_ble_eq_true rfl) rfl (Nat.le_of_ble_eq_true rfl) rfl rfl ?_
  exact c_ret dR_init_42 rfl rfl
def pf_9 (F : CF) : CF := wr F [(18, (6, 4, df_6, z0, zn)), (18, (6, 4, [.int 9, .int 0, .null, .int 0], z0, zn)), (18, (6, 4, [.int 9, .int 1, .null, .int 0], z0, zn)), (19, (20, 9, [], z0, zn)), (18, (6, 4, [.int 9, .int 1, .ref 19, .int 0], z0, zn)), (18, (6, 4, [.int 9, .int 1, .ref 19, .int 0], z0, zn))]
set_option maxRecDepth 40000 in
theorem kx_9 (G : GG) (d : Nat) (F : CF) : Kc G tR_init d 1 9 [.ref (gB G + 18), .int 9, .int 1] 19 (sF F 18 (6, 4, df_6, z0, zn)) 20 (pf_9 F) := by
  refine K_of_Vc (by decide) rfl (by simp [cat_i, cat_r]) (by simp [tR_init]) ?_
  refine c_aload (i := 0) dR_init_0 rfl ?_
  refine c_obj dR_init_1 mlR_3 (Nat.le_of_ble_eq_true rfl) ?_
  refine c_aload (i := 0) dR_init_4 rfl ?_
  refine c_iload (i := 1) dR_init_5 rfl ?_
  refine c_iconst (x := 0) dR_init_6 rfl ?_
  refine c_mmax (z := 9) dR_init_7 mlR_9 rfl (Nat.le_of_ble_eq_true rfl) (Nat.le_of_ble_eq_true rfl) (Nat.le_of_ble_eq_true rfl) ?_
  refine c_put (w := .int 9) (cc := (6, 4, [.int 9, .int 0, .null, .int 0], z0, zn)) dR_init_10 fuR_15 ⟨_, _, _, _, rfl, rfl, rfl, rfl⟩ hc_6 (Nat.le_of_ble_eq_true rfl) rfl (Nat.le_of_ble_eq_true rfl) rfl rfl ?_
  refine c_aload (i := 0) dR_init_13 rfl ?_
  refine c_iload (i := 2) dR_init_14 rfl ?_
  refine c_iconst (x := 1) dR_init_15 rfl ?_
  refine c_mmax (z := 1) dR_init_16 mlR_9 rfl (Nat.le_of_ble_eq_true rfl) (Nat.le_of_ble_eq_true rfl) (Nat.le_of_ble_eq_true rfl) ?_
  refine c_put (w := .int 1) (cc := (6, 4, [.int 9, .int 1, .null, .int 0], z0, zn)) dR_init_19 fuR_21 ⟨_, _, _, _, rfl, rfl, rfl, rfl⟩ hc_6 (Nat.le_of_ble_eq_true rfl) rfl (Nat.le_of_ble_eq_true rfl) rfl rfl ?_
  refine c_aload (i := 0) dR_init_22 rfl ?_
  refine c_aload (i := 0) dR_init_23 rfl ?_
  refine c_get (w := .int 9) (w' := .int 9) dR_init_24 fuR_15 (Nat.le_of_ble_eq_true rfl) rfl rfl rfl ?_
  refine c_aload (i := 0) dR_init_27 rfl ?_
  refine c_get (w := .int 1) (w' := .int 1) dR_init_28 fuR_21 (Nat.le_of_ble_eq_true rfl) rfl rfl rfl ?_
  refine c_imul (z := 9) dR_init_31 rfl ?_
  refine c_newi (N := 9) dR_init_32 ar_i (by decide) rfl (by decide) (Nat.le_of_ble_eq_true rfl) (Nat.le_of_ble_eq_true rfl) ?_
  refine c_put (w := .ref 19) (cc := (6, 4, [.int 9, .int 1, .ref 19, .int 0], z0, zn)) dR_init_34 fuR_24 ⟨_, _, _, _, rfl, rfl, rfl, rfl⟩ hc_6 (Nat.le_of_ble_eq_true rfl) rfl (Nat.le_of_ble_eq_true rfl) rfl rfl ?_
  refine c_aload (i := 0) dR_init_37 rfl ?_
  refine c_iconst (x := 0) dR_init_38 rfl ?_
  refine c_put (w := .int 0) (cc := (6, 4, [.int 9, .int 1, .ref 19, .int 0], z0, zn)) dR_init_39 fuR_28 ⟨_, _, _, _, rfl, rfl, rfl, rfl⟩ hc_6 (Nat.le_of_ble_eq_true rfl) rfl (Nat.le_of_ble_eq_true rfl) rfl rfl ?_
  exact c_ret dR_init_42 rfl rfl
def pf_10 (F : CF) : CF := wr F [(20, (6, 4, df_6, z0, zn)), (20, (6, 4, [.int 8, .int 0, .null, .int 0], z0, zn)), (20, (6, 4, [.int 8, .int 1, .null, .int 0], z0, zn)), (21, (20, 8, [], z0, zn)), (20, (6, 4, [.int 8, .int 1, .ref 21, .int 0], z0, zn)), (20, (6, 4, [.int 8, .int 1, .ref 21, .int 0], z0, zn))]
set_option maxRecDepth 40000 in
theorem kx_10 (G : GG) (d : Nat) (F : CF) : Kc G tR_init d 1 8 [.ref (gB G + 20), .int 8, .int 1] 21 (sF F 20 (6, 4, df_6, z0, zn)) 22 (pf_10 F) := by
  refine K_of_Vc (by decide) rfl (by simp [cat_i, cat_r]) (by simp [tR_init]) ?_
  refine c_aload (i := 0) dR_init_0 rfl ?_
  refine c_obj dR_init_1 mlR_3 (Nat.le_of_ble_eq_true rfl) ?_
  refine c_aload (i := 0) dR_init_4 rfl ?_
  refine c_iload (i := 1) dR_init_5 rfl ?_
  refine c_iconst (x := 0) dR_init_6 rfl ?_
  refine c_mmax (z := 8) dR_init_7 mlR_9 rfl (Nat.le_of_ble_eq_true rfl) (Nat.le_of_ble_eq_true rfl) (Nat.le_of_ble_eq_true rfl) ?_
  refine c_put (w := .int 8) (cc := (6, 4, [.int 8, .int 0, .null, .int 0], z0, zn)) dR_init_10 fuR_15 ⟨_, _, _, _, rfl, rfl, rfl, rfl⟩ hc_6 (Nat.le_of_ble_eq_true rfl) rfl (Nat.le_of_ble_eq_true rfl) rfl rfl ?_
  refine c_aload (i := 0) dR_init_13 rfl ?_
  refine c_iload (i := 2) dR_init_14 rfl ?_
  refine c_iconst (x := 1) dR_init_15 rfl ?_
  refine c_mmax (z := 1) dR_init_16 mlR_9 rfl (Nat.le_of_ble_eq_true rfl) (Nat.le_of_ble_eq_true rfl) (Nat.le_of_ble_eq_true rfl) ?_
  refine c_put (w := .int 1) (cc := (6, 4, [.int 8, .int 1, .null, .int 0], z0, zn)) dR_init_19 fuR_21 ⟨_, _, _, _, rfl, rfl, rfl, rfl⟩ hc_6 (Nat.le_of_ble_eq_true rfl) rfl (Nat.le_of_ble_eq_true rfl) rfl rfl ?_
  refine c_aload (i := 0) dR_init_22 rfl ?_
  refine c_aload (i := 0) dR_init_23 rfl ?_
  refine c_get (w := .int 8) (w' := .int 8) dR_init_24 fuR_15 (Nat.le_of_ble_eq_true rfl) rfl rfl rfl ?_
  refine c_aload (i := 0) dR_init_27 rfl ?_
  refine c_get (w := .int 1) (w' := .int 1) dR_init_28 fuR_21 (Nat.le_of_ble_eq_true rfl) rfl rfl rfl ?_
  refine c_imul (z := 8) dR_init_31 rfl ?_
  refine c_newi (N := 8) dR_init_32 ar_i (by decide) rfl (by decide) (Nat.le_of_ble_eq_true rfl) (Nat.le_of_ble_eq_true rfl) ?_
  refine c_put (w := .ref 21) (cc := (6, 4, [.int 8, .int 1, .ref 21, .int 0], z0, zn)) dR_init_34 fuR_24 ⟨_, _, _, _, rfl, rfl, rfl, rfl⟩ hc_6 (Nat.le_of_ble_eq_true rfl) rfl (Nat.le_of_ble_eq_true rfl) rfl rfl ?_
  refine c_aload (i := 0) dR_init_37 rfl ?_
  refine c_iconst (x := 0) dR_init_38 rfl ?_
  refine c_put (w := .int 0) (cc := (6, 4, [.int 8, .int 1, .ref 21, .int 0], z0, zn)) dR_init_39 fuR_28 ⟨_, _, _, _, rfl, rfl, rfl, rfl⟩ hc_6 (Nat.le_of_ble_eq_true rfl) rfl (Nat.le_of_ble_eq_true rfl) rfl rfl ?_
  exact c_ret dR_init_42 rfl rfl
def pf_11 (F : CF) : CF := wr F [(22, (6, 4, df_6, z0, zn)), (22, (6, 4, [.int 5, .int 0, .null, .int 0], z0, zn)), (22, (6, 4, [.int 5, .int 1, .null, .int 0], z0, zn)), (23, (20, 5, [], z0, zn)), (22, (6, 4, [.int 5, .int 1, .ref 23, .int 0], z0, zn)), (22, (6, 4, [.int 5, .int 1, .ref 23, .int 0], z0, zn))]
set_option maxRecDepth 40000 in
theorem kx_11 (G : GG) (d : Nat) (F : CF) : Kc G tR_init d 1 5 [.ref (gB G + 22), .int 5, .int 1] 23 (sF F 22 (6, 4, df_6, z0, zn)) 24 (pf_11 F) := by
  refine K_of_Vc (by decide) rfl (by simp [cat_i, cat_r]) (by simp [tR_init]) ?_
  refine c_aload (i := 0) dR_init_0 rfl ?_
  refine c_obj dR_init_1 mlR_3 (Nat.le_of_ble_eq_true rfl) ?_
  refine c_aload (i := 0) dR_init_4 rfl ?_
  refine c_iload (i := 1) dR_init_5 rfl ?_
  refine c_iconst (x := 0) dR_init_6 rfl ?_
  refine c_mmax (z := 5) dR_init_7 mlR_9 rfl (Nat.le_of_ble_eq_true rfl) (Nat.le_of_ble_eq_true rfl) (Nat.le_of_ble_eq_true rfl) ?_
  refine c_put (w := .int 5) (cc := (6, 4, [.int 5, .int 0, .null, .int 0], z0, zn)) dR_init_10 fuR_15 ⟨_, _, _, _, rfl, rfl, rfl, rfl⟩ hc_6 (Nat.le_of_ble_eq_true rfl) rfl (Nat.le_of_ble_eq_true rfl) rfl rfl ?_
  refine c_aload (i := 0) dR_init_13 rfl ?_
  refine c_iload (i := 2) dR_init_14 rfl ?_
  refine c_iconst (x := 1) dR_init_15 rfl ?_
  refine c_mmax (z := 1) dR_init_16 mlR_9 rfl (Nat.le_of_ble_eq_true rfl) (Nat.le_of_ble_eq_true rfl) (Nat.le_of_ble_eq_true rfl) ?_
  refine c_put (w := .int 1) (cc := (6, 4, [.int 5, .int 1, .null, .int 0], z0, zn)) dR_init_19 fuR_21 ⟨_, _, _, _, rfl, rfl, rfl, rfl⟩ hc_6 (Nat.le_of_ble_eq_true rfl) rfl (Nat.le_of_ble_eq_true rfl) rfl rfl ?_
  refine c_aload (i := 0) dR_init_22 rfl ?_
  refine c_aload (i := 0) dR_init_23 rfl ?_
  refine c_get (w := .int 5) (w' := .int 5) dR_init_24 fuR_15 (Nat.le_of_ble_eq_true rfl) rfl rfl rfl ?_
  refine c_aload (i := 0) dR_init_27 rfl ?_
  refine c_get (w := .int 1) (w' := .int 1) dR_init_28 fuR_21 (Nat.le_of_ble_eq_true rfl) rfl rfl rfl ?_
  refine c_imul (z := 5) dR_init_31 rfl ?_
  refine c_newi (N := 5) dR_init_32 ar_i (by decide) rfl (by decide) (Nat.le_of_ble_eq_true rfl) (Nat.le_of_ble_eq_true rfl) ?_
  refine c_put (w := .ref 23) (cc := (6, 4, [.int 5, .int 1, .ref 23, .int 0], z0, zn)) dR_init_34 fuR_24 ⟨_, _, _, _, rfl, rfl, rfl, rfl⟩ hc_6 (Nat.le_of_ble_eq_true rfl) rfl (Nat.le_of_ble_eq_true rfl) rfl rfl ?_
  refine c_aload (i := 0) dR_init_37 rfl ?_
  refine c_iconst (x := 0) dR_init_38 rfl ?_
  refine c_put (w := .int 0) (cc := (6, 4, [.int 5, .int 1, .ref 23, .int 0], z0, zn)) dR_init_39 fuR_28 ⟨_, _, _, _, rfl, rfl, rfl, rfl⟩ hc_6 (Nat.le_of_ble_eq_true rfl) rfl (Nat.le_of_ble_eq_true rfl) rfl rfl ?_
  exact c_ret dR_init_42 rfl rfl
def pf_12 (F : CF) : CF := wr F [(24, (6, 4, df_6, z0, zn)), (24, (6, 4, [.int 8, .int 0, .null, .int 0], z0, zn)), (24, (6, 4, [.int 8, .int 2, .null, .int 0], z0, zn)), (25, (20, 16, [], z0, zn)), (24, (6, 4, [.int 8, .int 2, .ref 25, .int 0], z0, zn)), (24, (6, 4, [.int 8, .int 2, .ref 25, .int 0], z0, zn))]
set_option maxRecDepth 40000 in
theorem kx_12 (G : GG) (d : Nat) (F : CF) : Kc G tR_init d 1 16 [.ref (gB G + 24), .int 8, .int 2] 25 (sF F 24 (6, 4, df_6, z0, zn)) 26 (pf_12 F) := by
  refine K_of_Vc (by decide) rfl (by simp [cat_i, cat_r]) (by simp [tR_init]) ?_
  refine c_aload (i := 0) dR_init_0 rfl ?_
  refine c_obj dR_init_1 mlR_3 (Nat.le_of_ble_eq_true rfl) ?_
  refine c_aload (i := 0) dR_init_4 rfl ?_
  refine c_iload (i := 1) dR_init_5 rfl ?_
  refine c_iconst (x := 0) dR_init_6 rfl ?_
  refine c_mmax (z := 8) dR_init_7 mlR_9 rfl (Nat.le_of_ble_eq_true rfl) (Nat.le_of_ble_eq_true rfl) (Nat.le_of_ble_eq_true rfl) ?_
  refine c_put (w := .int 8) (cc := (6, 4, [.int 8, .int 0, .null, .int 0], z0, zn)) dR_init_10 fuR_15 ⟨_, _, _, _, rfl, rfl, rfl, rfl⟩ hc_6 (Nat.le_of_ble_eq_true rfl) rfl (Nat.le_of_ble_eq_true rfl) rfl rfl ?_
  refine c_aload (i := 0) dR_init_13 rfl ?_
  refine c_iload (i := 2) dR_init_14 rfl ?_
  refine c_iconst (x := 1) dR_init_15 rfl ?_
  refine c_mmax (z := 2) dR_init_16 mlR_9 rfl (Nat.le_of_ble_eq_true rfl) (Nat.le_of_ble_eq_true rfl) (Nat.le_of_ble_eq_true rfl) ?_
  refine c_put (w := .int 2) (cc := (6, 4, [.int 8, .int 2, .null, .int 0], z0, zn)) dR_init_19 fuR_21 ⟨_, _, _, _, rfl, rfl, rfl, rfl⟩ hc_6 (Nat.le_of_ble_eq_true rfl) rfl (Nat.le_of_ble_eq_true rfl) rfl rfl ?_
  refine c_aload (i := 0) dR_init_22 rfl ?_
  refine c_aload (i := 0) dR_init_23 rfl ?_
  refine c_get (w := .int 8) (w' := .int 8) dR_init_24 fuR_15 (Nat.le_of_ble_eq_true rfl) rfl rfl rfl ?_
  refine c_aload (i := 0) dR_init_27 rfl ?_
  refine c_get (w := .int 2) (w' := .int 2) dR_init_28 fuR_21 (Nat.le_of_ble_eq_true rfl) rfl rfl rfl ?_
  refine c_imul (z := 16) dR_init_31 rfl ?_
  refine c_newi (N := 16) dR_init_32 ar_i (by decide) rfl (by decide) (Nat.le_of_ble_eq_true rfl) (Nat.le_of_ble_eq_true rfl) ?_
  refine c_put (w := .ref 25) (cc := (6, 4, [.int 8, .int 2, .ref 25, .int 0], z0, zn)) dR_init_34 fuR_24 ⟨_, _, _, _, rfl, rfl, rfl, rfl⟩ hc_6 (Nat.le_of_ble_eq_true rfl) rfl (Nat.le_of_ble_eq_true rfl) rfl rfl ?_
  refine c_aload (i := 0) dR_init_37 rfl ?_
  refine c_iconst (x := 0) dR_init_38 rfl ?_
  refine c_put (w := .int 0) (cc := (6, 4, [.int 8, .int 2, .ref 25, .int 0], z0, zn)) dR_init_39 fuR_28 ⟨_, _, _, _, rfl, rfl, rfl, rfl⟩ hc_6 (Nat.le_of_ble_eq_true rfl) rfl (Nat.le_of_ble_eq_true rfl) rfl rfl ?_
  exact c_ret dR_init_42 rfl rfl
def pf_13 (F : CF) : CF := wr F [(26, (6, 4, df_6, z0, zn)), (26, (6, 4, [.int 16, .int 0, .null, .int 0], z0, zn)), (26, (6, 4, [.int 16, .int 1, .null, .int 0], z0, zn)), (27, (20, 16, [], z0, zn)), (26, (6, 4, [.int 16, .int 1, .ref 27, .int 0], z0, zn)), (26, (6, 4, [.int 16, .int 1, .ref 27, .int 0], z0, zn))]
set_option maxRecDepth 40000 in
theorem kx_13 (G : GG) (d : Nat) (F : CF) : Kc G tR_init d 1 16 [.ref (gB G + 26), .int 16, .int 1] 27 (sF F 26 (6, 4, df_6, z0, zn)) 28 (pf_13 F) := by
  refine K_of_Vc (by decide) rfl (by simp [cat_i, cat_r]) (by simp [tR_init]) ?_
  refine c_aload (i := 0) dR_init_0 rfl ?_
  refine c_obj dR_init_1 mlR_3 (Nat.le_of_ble_eq_true rfl) ?_
  refine c_aload (i := 0) dR_init_4 rfl ?_
  refine c_iload (i := 1) dR_init_5 rfl ?_
  refine c_iconst (x := 0) dR_init_6 rfl ?_
  refine c_mmax (z := 16) dR_init_7 mlR_9 rfl (Nat.le_of_ble_eq_true rfl) (Nat.le_of_ble_eq_true rfl) (Nat.le_of_ble_eq_true rfl) ?_
  refine c_put (w := .int 16) (cc := (6, 4, [.int 16, .int 0, .null, .int 0], z0, zn)) dR_init_10 fuR_15 ⟨_, _, _, _, rfl, rfl, rfl, rfl⟩ hc_6 (Nat.le_of_ble_eq_true rfl) rfl (Nat.le_of_ble_eq_true rfl) rfl rfl ?_
  refine c_aload (i := 0) dR_init_13 rfl ?_
  refine c_iload (i := 2) dR_init_14 rfl ?_
  refine c_iconst (x := 1) dR_init_15 rfl ?_
  refine c_mmax (z := 1) dR_init_16 mlR_9 rfl (Nat.le_of_ble_eq_true rfl) (Nat.le_of_ble_eq_true rfl) (Nat.le_of_ble_eq_true rfl) ?_
  refine c_put (w := .int 1) (cc := (6, 4, [.int 16, .int 1, .null, .int 0], z0, zn)) dR_init_19 fuR_21 ⟨_, _, _, _, rfl, rfl, rfl, rfl⟩ hc_6 (Nat.le_of_ble_eq_true rfl) rfl (Nat.le_of_ble_eq_true rfl) rfl rfl ?_
  refine c_aload (i := 0) dR_init_22 rfl ?_
  refine c_aload (i := 0) dR_init_23 rfl ?_
  refine c_get (w := .int 16) (w' := .int 16) dR_init_24 fuR_15 (Nat.le_of_ble_eq_true rfl) rfl rfl rfl ?_
  refine c_aload (i := 0) dR_init_27 rfl ?_
  refine c_get (w := .int 1) (w' := .int 1) dR_init_28 fuR_21 (Nat.le_of_ble_eq_true rfl) rfl rfl rfl ?_
  refine c_imul (z := 16) dR_init_31 rfl ?_
  refine c_newi (N := 16) dR_init_32 ar_i (by decide) rfl (by decide) (Nat.le_of_ble_eq_true rfl) (Nat.le_of_ble_eq_true rfl) ?_
  refine c_put (w := .ref 27) (cc := (6, 4, [.int 16, .int 1, .ref 27, .int 0], z0, zn)) dR_init_34 fuR_24 ⟨_, _, _, _, rfl, rfl, rfl, rfl⟩ hc_6 (Nat.le_of_ble_eq_true rfl) rfl (Nat.le_of_ble_eq_true rfl) rfl rfl ?_
  refine c_aload (i := 0) dR_init_37 rfl ?_
  refine c_iconst (x := 0) dR_init_38 rfl ?_
  refine c_put (w := .int 0) (cc := (6, 4, [.int 16, .int 1, .ref 27, .int 0], z0, zn)) dR_init_39 fuR_28 ⟨_, _, _, _, rfl, rfl, rfl, rfl⟩ hc_6 (Nat.le_of_ble_eq_true rfl) rfl (Nat.le_of_ble_eq_true rfl) rfl rfl ?_
  exact c_ret dR_init_42 rfl rfl
def pf_14 (F : CF) : CF := wr F [(28, (6, 4, df_6, z0, zn)), (28, (6, 4, [.int 6, .int 0, .null, .int 0], z0, zn)), (28, (6, 4, [.int 6, .int 2, .null, .int 0], z0, zn)), (29, (20, 12, [], z0, zn)), (28, (6, 4, [.int 6, .int 2, .ref 29, .int 0], z0, zn)), (28, (6, 4, [.int 6, .int 2, .ref 29, .int 0], z0, zn))]
set_option maxRecDepth 40000 in
theorem kx_14 (G : GG) (d : Nat) (F : CF) : Kc G tR_init d 1 12 [.ref (gB G + 28), .int 6, .int 2] 29 (sF F 28 (6, 4, df_6, z0, zn)) 30 (pf_14 F) := by
  refine K_of_Vc (by decide) rfl (by simp [cat_i, cat_r]) (by simp [tR_init]) ?_
  refine c_aload (i := 0) dR_init_0 rfl ?_
  refine c_obj dR_init_1 mlR_3 (Nat.le_of_ble_eq_true rfl) ?_
  refine c_aload (i := 0) dR_init_4 rfl ?_
  refine c_iload (i := 1) dR_init_5 rfl ?_
  refine c_iconst (x := 0) dR_init_6 rfl ?_
  refine c_mmax (z := 6) dR_init_7 mlR_9 rfl (Nat.le_of_ble_eq_true rfl) (Nat.le_of_ble_eq_true rfl) (Nat.le_of_ble_eq_true rfl) ?_
  refine c_put (w := .int 6) (cc := (6, 4, [.int 6, .int 0, .null, .int 0], z0, zn)) dR_init_10 fuR_15 ⟨_, _, _, _, rfl, rfl, rfl, rfl⟩ hc_6 (Nat.le_of_ble_eq_true rfl) rfl (Nat.le_of_ble_eq_true rfl) rfl rfl ?_
  refine c_aload (i := 0) dR_init_13 rfl ?_
  refine c_iload (i := 2) dR_init_14 rfl ?_
  refine c_iconst (x := 1) dR_init_15 rfl ?_
  refine c_mmax (z := 2) dR_init_16 mlR_9 rfl (Nat.le_of_ble_eq_true rfl) (Nat.le_of_ble_eq_true rfl) (Nat.le_of_ble_eq_true rfl) ?_
  refine c_put (w := .int 2) (cc := (6, 4, [.int 6, .int 2, .null, .int 0], z0, zn)) dR_init_19 fuR_21 ⟨_, _, _, _, rfl, rfl, rfl, rfl⟩ hc_6 (Nat.le_of_ble_eq_true rfl) rfl (Nat.le_of_ble_eq_true rfl) rfl rfl ?_
  refine c_aload (i := 0) dR_init_22 rfl ?_
  refine c_aload (i := 0) dR_init_23 rfl ?_
  refine c_get (w := .int 6) (w' := .int 6) dR_init_24 fuR_15 (Nat.le_of_ble_eq_true rfl) rfl rfl rfl ?_
  refine c_aload (i := 0) dR_init_27 rfl ?_
  refine c_get (w := .int 2) (w' := .int 2) dR_init_28 fuR_21 (Nat.le_of_ble_eq_true rfl) rfl rfl rfl ?_
  refine c_imul (z := 12) dR_init_31 rfl ?_
  refine c_newi (N := 12) dR_init_32 ar_i (by decide) rfl (by decide) (Nat.le_of_ble_eq_true rfl) (Nat.le_of_ble_eq_true rfl) ?_
  refine c_put (w := .ref 29) (cc := (6, 4, [.int 6, .int 2, .ref 29, .int 0], z0, zn)) dR_init_34 fuR_24 ⟨_, _, _, _, rfl, rfl, rfl, rfl⟩ hc_6 (Nat.le_of_ble_eq_true rfl) rfl (Nat.le_of_ble_eq_true rfl) rfl rfl ?_
  refine c_aload (i := 0) dR_init_37 rfl ?_
  refine c_iconst (x := 0) dR_init_38 rfl ?_
  refine c_put (w := .int 0) (cc := (6, 4, [.int 6, .int 2, .ref 29, .int 0], z0, zn)) dR_init_39 fuR_28 ⟨_, _, _, _, rfl, rfl, rfl, rfl⟩ hc_6 (Nat.le_of_ble_eq_true rfl) rfl (Nat.le_of_ble_eq_true rfl) rfl rfl ?_
  exact c_ret dR_init_42 rfl rfl
def pf_15 (F : CF) : CF := wr F [(30, (6, 4, df_6, z0, zn)), (30, (6, 4, [.int 12, .int 0, .null, .int 0], z0, zn)), (30, (6, 4, [.int 12, .int 2, .null, .int 0], z0, zn)), (31, (20, 24, [], z0, zn)), (30, (6, 4, [.int 12, .int 2, .ref 31, .int 0], z0, zn)), (30, (6, 4, [.int 12, .int 2, .ref 31, .int 0], z0, zn))]
set_option maxRecDepth 40000 in
theorem kx_15 (G : GG) (d : Nat) (F : CF) : Kc G tR_init d 1 24 [.ref (gB G + 30), .int 12, .int 2] 31 (sF F 30 (6, 4, df_6, z0, zn)) 32 (pf_15 F) := by
  refine K_of_Vc (by decide) rfl (by simp [cat_i, cat_r]) (by simp [tR_init]) ?_
  refine c_aload (i := 0) dR_init_0 rfl ?_
  refine c_obj dR_init_1 mlR_3 (Nat.le_of_ble_eq_true rfl) ?_
  refine c_aload (i := 0) dR_init_4 rfl ?_
  refine c_iload (i := 1) dR_init_5 rfl ?_
  refine c_iconst (x := 0) dR_init_6 rfl ?_
  refine c_mmax (z := 12) dR_init_7 mlR_9 rfl (Nat.le_of_ble_eq_true rfl) (Nat.le_of_ble_eq_true rfl) (Nat.le_of_ble_eq_true rfl) ?_
  refine c_put (w := .int 12) (cc := (6, 4, [.int 12, .int 0, .null, .int 0], z0, zn)) dR_init_10 fuR_15 ⟨_, _, _, _, rfl, rfl, rfl, rfl⟩ hc_6 (Nat.le_of_ble_eq_true rfl) rfl (Nat.le_of_ble_eq_true rfl) rfl rfl ?_
  refine c_aload (i := 0) dR_init_13 rfl ?_
  refine c_iload (i := 2) dR_init_14 rfl ?_
  refine c_iconst (x := 1) dR_init_15 rfl ?_
  refine c_mmax (z := 2) dR_init_16 mlR_9 rfl (Nat.le_of_ble_eq_true rfl) (Nat.le_of_ble_eq_true rfl) (Nat.le_of_ble_eq_true rfl) ?_
  refine c_put (w := .int 2) (cc := (6, 4, [.int 12, .int 2, .null, .int 0], z0, zn)) dR_init_19 fuR_21 ⟨_, _, _, _, rfl, rfl, rfl, rfl⟩ hc_6 (Nat.le_of_ble_eq_true rfl) rfl (Nat.le_of_ble_eq_true rfl) rfl rfl ?_
  refine c_aload (i := 0) dR_init_22 rfl ?_
  refine c_aload (i := 0) dR_init_23 rfl ?_
  refine c_get (w := .int 12) (w' := .int 12) dR_init_24 fuR_15 (Nat.le_of_ble_eq_true rfl) rfl rfl rfl ?_
  refine c_aload (i := 0) dR_init_27 rfl ?_
  refine c_get (w := .int 2) (w' := .int 2) dR_init_28 fuR_21 (Nat.le_of_ble_eq_true rfl) rfl rfl rfl ?_
  refine c_imul (z := 24) dR_init_31 rfl ?_
  refine c_newi (N := 24) dR_init_32 ar_i (by decide) rfl (by decide) (Nat.le_of_ble_eq_true rfl) (Nat.le_of_ble_eq_true rfl) ?_
  refine c_put (w := .ref 31) (cc := (6, 4, [.int 12, .int 2, .ref 31, .int 0], z0, zn)) dR_init_34 fuR_24 ⟨_, _, _, _, rfl, rfl, rfl, rfl⟩ hc_6 (Nat.le_of_ble_eq_true rfl) rfl (Nat.le_of_ble_eq_true rfl) rfl rfl ?_
  refine c_aload (i := 0) dR_init_37 rfl ?_
  refine c_iconst (x := 0) dR_init_38 rfl ?_
  refine c_put (w := .int 0) (cc := (6, 4, [.int 12, .int 2, .ref 31, .int 0], z0, zn)) dR_init_39 fuR_28 ⟨_, _, _, _, rfl, rfl, rfl, rfl⟩ hc_6 (Nat.le_of_ble_eq_true rfl) rfl (Nat.le_of_ble_eq_true rfl) rfl rfl ?_
  exact c_ret dR_init_42 rfl rfl
def pf_16 (F : CF) : CF := wr F [(32, (6, 4, df_6, z0, zn)), (32, (6, 4, [.int 8, .int 0, .null, .int 0], z0, zn)), (32, (6, 4, [.int 8, .int 2, .null, .int 0], z0, zn)), (33, (20, 16, [], z0, zn)), (32, (6, 4, [.int 8, .int 2, .ref 33, .int 0], z0, zn)), (32, (6, 4, [.int 8, .int 2, .ref 33, .int 0], z0, zn))]
set_option maxRecDepth 40000 in
theorem kx_16 (G : GG) (d : Nat) (F : CF) : Kc G tR_init d 1 16 [.ref (gB G + 32), .int 8, .int 2] 33 (sF F 32 (6, 4, df_6, z0, zn)) 34 (pf_16 F) := by
  refine K_of_Vc (by decide) rfl (by simp [cat_i, cat_r]) (by simp [tR_init]) ?_
  refine c_aload (i := 0) dR_init_0 rfl ?_
  refine c_obj dR_init_1 mlR_3 (Nat.le_of_ble_eq_true rfl) ?_
  refine c_aload (i := 0) dR_init_4 rfl ?_
  refine c_iload (i := 1) dR_init_5 rfl ?_
  refine c_iconst (x := 0) dR_init_6 rfl ?_
  refine c_mmax (z := 8) dR_init_7 mlR_9 rfl (Nat.le_of_ble_eq_true rfl) (Nat.le_of_ble_eq_true rfl) (Nat.le_of_ble_eq_true rfl) ?_
  refine c_put (w := .int 8) (cc := (6, 4, [.int 8, .int 0, .null, .int 0], z0, zn)) dR_init_10 fuR_15 ⟨_, _, _, _, rfl, rfl, rfl, rfl⟩ hc_6 (Nat.le_of_ble_eq_true rfl) rfl (Nat.le_of_ble_eq_true rfl) rfl rfl ?_
  refine c_aload (i := 0) dR_init_13 rfl ?_
  refine c_iload (i := 2) dR_init_14 rfl ?_
  refine c_iconst (x := 1) dR_init_15 rfl ?_
  refine c_mmax (z := 2) dR_init_16 mlR_9 rfl (Nat.le_of_ble_eq_true rfl) (Nat.le_of_ble_eq_true rfl) (Nat.le_of_ble_eq_true rfl) ?_
  refine c_put (w := .int 2) (cc := (6, 4, [.int 8, .int 2, .null, .int 0], z0, zn)) dR_init_19 fuR_21 ⟨_, _, _, _, rfl, rfl, rfl, rfl⟩ hc_6 (Nat.le_of_ble_eq_true rfl) rfl (Nat.le_of_ble_eq_true rfl) rfl rfl ?_
  refine c_aload (i := 0) dR_init_22 rfl ?_
  refine c_aload (i := 0) dR_init_23 rfl ?_
  refine c_get (w := .int 8) (w' := .int 8) dR_init_24 fuR_15 (Nat.le_of_ble_eq_true rfl) rfl rfl rfl ?_
  refine c_aload (i := 0) dR_init_27 rfl ?_
  refine c_get (w := .int 2) (w' := .int 2) dR_init_28 fuR_21 (Nat.le_of_ble_eq_true rfl) rfl rfl rfl ?_
  refine c_imul (z := 16) dR_init_31 rfl ?_
  refine c_newi (N := 16) dR_init_32 ar_i (by decide) rfl (by decide) (Nat.le_of_ble_eq_true rfl) (Nat.le_of_ble_eq_true rfl) ?_
  refine c_put (w := .ref 33) (cc := (6, 4, [.int 8, .int 2, .ref 33, .int 0], z0, zn)) dR_init_34 fuR_24 ⟨_, _, _, _, rfl, rfl, rfl, rfl⟩ hc_6 (Nat.le_of_ble_eq_true rfl) rfl (Nat.le_of_ble_eq_true rfl) rfl rfl ?_
  refine c_aload (i := 0) dR_init_37 rfl ?_
  refine c_iconst (x := 0) dR_init_38 rfl ?_
  refine c_put (w := .int 0) (cc := (6, 4, [.int 8, .int 2, .ref 33, .int 0], z0, zn)) dR_init_39 fuR_28 ⟨_, _, _, _, rfl, rfl, rfl, rfl⟩ hc_6 (Nat.le_of_ble_eq_true rfl) rfl (Nat.le_of_ble_eq_true rfl) rfl rfl ?_
  exact c_ret dR_init_42 rfl rfl
def pf_17 (F : CF) : CF := wr F [(5, (11, 14, df_11, z0, zn)), (6, (6, 4, df_6, z0, zn)), (6, (6, 4, [.int 16, .int 0, .null, .int 0], z0, zn)), (6, (6, 4, [.int 16, .int 5, .null, .int 0], z0, zn)), (7, (20, 80, [], z0, zn)), (6, (6, 4, [.int 16, .int 5, .ref 7, .int 0], z0, zn)), (6, (6, 4, [.int 16, .int 5, .ref 7, .int 0], z0, zn)), (5, (11, 14, [.ref 6, .null, .null, .null, .null, .null, .null, .null, .null, .null, .null, .null, .null, .null], z0, zn)), (8, (6, 4, df_6, z0, zn)), (8, (6, 4, [.int 400, .int 0, .null, .int 0], z0, zn)), (8, (6, 4, [.int 400, .int 2, .null, .int 0], z0, zn)), (9, (20, 800, [], z0, zn)), (8, (6, 4, [.int 400, .int 2, .ref 9, .int 0], z0, zn)), (8, (6, 4, [.int 400, .int 2, .ref 9, .int 0], z0, zn)), (5, (11, 14, [.ref 6, .ref 8, .null, .null, .null, .null, .null, .null, .null, .null, .null, .null, .null, .null], z0, zn)), (10, (6, 4, df_6, z0, zn)), (10, (6, 4, [.int 16, .int 0, .null, .int 0], z0, zn)), (10, (6, 4, [.int 16, .int 5, .null, .int 0], z0, zn)), (11, (20, 80, [], z0, zn)), (10, (6, 4, [.int 16, .int 5, .ref 11, .int 0], z0, zn)), (10, (6, 4, [.int 16, .int 5, .ref 11, .int 0], z0, zn)), (5, (11, 14, [.ref 6, .ref 8, .ref 10, .null, .null, .null, .null, .null, .null, .null, .null, .null, .null, .null], z0, zn)), (12, (6, 4, df_6, z0, zn)), (12, (6, 4, [.int 16, .int 0, .null, .int 0], z0, zn)), (12, (6, 4, [.int 16, .int 5, .null, .int 0], z0, zn)), (13, (20, 80, [], z0, zn)), (12, (6, 4, [.int 16, .int 5, .ref 13, .int 0], z0, zn)), (12, (6, 4, [.int 16, .int 5, .ref 13, .int 0], z0, zn)), (5, (11, 14, [.ref 6, .ref 8, .ref 10, .ref 12, .null, .null, .null, .null, .null, .null, .null, .null, .null, .null], z0, zn)), (14, (6, 4, df_6, z0, zn)), (14, (6, 4, [.int 16, .int 0, .null, .int 0], z0, zn)), (14, (6, 4, [.int 16, .int 5, .null, .int 0], z0, zn)), (15, (20, 80, [], z0, zn)), (14, (6, 4, [.int 16, .int 5, .ref 15, .int 0], z0, zn)), (14, (6, 4, [.int 16, .int 5, .ref 15, .int 0], z0, zn)), (5, (11, 14, [.ref 6, .ref 8, .ref 10, .ref 12, .ref 14, .null, .null, .null, .null, .null, .null, .null, .null, .null], z0, zn)), (16, (6, 4, df_6, z0, zn)), (16, (6, 4, [.int 150, .int 0, .null, .int 0], z0, zn)), (16, (6, 4, [.int 150, .int 4, .null, .int 0], z0, zn)), (17, (20, 600, [], z0, zn)), (16, (6, 4, [.int 150, .int 4, .ref 17, .int 0], z0, zn)), (16, (6, 4, [.int 150, .int 4, .ref 17, .int 0], z0, zn)), (5, (11, 14, [.ref 6, .ref 8, .ref 10, .ref 12, .ref 14, .ref 16, .null, .null, .null, .null, .null, .null, .null, .null], z0, zn)), (18, (6, 4, df_6, z0, zn)), (18, (6, 4, [.int 9, .int 0, .null, .int 0], z0, zn)), (18, (6, 4, [.int 9, .int 1, .null, .int 0], z0, zn)), (19, (20, 9, [], z0, zn)), (18, (6, 4, [.int 9, .int 1, .ref 19, .int 0], z0, zn)), (18, (6, 4, [.int 9, .int 1, .ref 19, .int 0], z0, zn)), (5, (11, 14, [.ref 6, .ref 8, .ref 10, .ref 12, .ref 14, .ref 16, .ref 18, .null, .null, .null, .null, .null, .null, .null], z0, zn)), (20, (6, 4, df_6, z0, zn)), (20, (6, 4, [.int 8, .int 0, .null, .int 0], z0, zn)), (20, (6, 4, [.int 8, .int 1, .null, .int 0], z0, zn)), (21, (20, 8, [], z0, zn)), (20, (6, 4, [.int 8, .int 1, .ref 21, .int 0], z0, zn)), (20, (6, 4, [.int 8, .int 1, .ref 21, .int 0], z0, zn)), (5, (11, 14, [.ref 6, .ref 8, .ref 10, .ref 12, .ref 14, .ref 16, .ref 18, .ref 20, .null, .null, .null, .null, .null, .null], z0, zn)), (22, (6, 4, df_6, z0, zn)), (22, (6, 4, [.int 5, .int 0, .null, .int 0], z0, zn)), (22, (6, 4, [.int 5, .int 1, .null, .int 0], z0, zn)), (23, (20, 5, [], z0, zn)), (22, (6, 4, [.int 5, .int 1, .ref 23, .int 0], z0, zn)), (22, (6, 4, [.int 5, .int 1, .ref 23, .int 0], z0, zn)), (5, (11, 14, [.ref 6, .ref 8, .ref 10, .ref 12, .ref 14, .ref 16, .ref 18, .ref 20, .ref 22, .null, .null, .null, .null, .null], z0, zn)), (24, (6, 4, df_6, z0, zn)), (24, (6, 4, [.int 8, .int 0, .null, .int 0], z0, zn)), (24, (6, 4, [.int 8, .int 2, .null, .int 0], z0, zn)), (25, (20, 16, [], z0, zn)), (24, (6, 4, [.int 8, .int 2, .ref 25, .int 0], z0, zn)), (24, (6, 4, [.int 8, .int 2, .ref 25, .int 0], z0, zn)), (5, (11, 14, [.ref 6, .ref 8, .ref 10, .ref 12, .ref 14, .ref 16, .ref 18, .ref 20, .ref 22, .ref 24, .null, .null, .null, .null], z0, zn)), (26, (6, 4, df_6, z0, zn)), (26, (6, 4, [.int 16, .int 0, .null, .int 0], z0, zn)), (26, (6, 4, [.int 16, .int 1, .null, .int 0], z0, zn)), (27, (20, 16, [], z0, zn)), (26, (6, 4, [.int 16, .int 1, .ref 27, .int 0], z0, zn)), (26, (6, 4, [.int 16, .int 1, .ref 27, .int 0], z0, zn)), (5, (11, 14, [.ref 6, .ref 8, .ref 10, .ref 12, .ref 14, .ref 16, .ref 18, .ref 20, .ref 22, .ref 24, .ref 26, .null, .null, .null], z0, zn)), (28, (6, 4, df_6, z0, zn)), (28, (6, 4, [.int 6, .int 0, .null, .int 0], z0, zn)), (28, (6, 4, [.int 6, .int 2, .null, .int 0], z0, zn)), (29, (20, 12, [], z0, zn)), (28, (6, 4, [.int 6, .int 2, .ref 29, .int 0], z0, zn)), (28, (6, 4, [.int 6, .int 2, .ref 29, .int 0], z0, zn)), (5, (11, 14, [.ref 6, .ref 8, .ref 10, .ref 12, .ref 14, .ref 16, .ref 18, .ref 20, .ref 22, .ref 24, .ref 26, .ref 28, .null, .null], z0, zn)), (30, (6, 4, df_6, z0, zn)), (30, (6, 4, [.int 12, .int 0, .null, .int 0], z0, zn)), (30, (6, 4, [.int 12, .int 2, .null, .int 0], z0, zn)), (31, (20, 24, [], z0, zn)), (30, (6, 4, [.int 12, .int 2, .ref 31, .int 0], z0, zn)), (30, (6, 4, [.int 12, .int 2, .ref 31, .int 0], z0, zn)), (5, (11, 14, [.ref 6, .ref 8, .ref 10, .ref 12, .ref 14, .ref 16, .ref 18, .ref 20, .ref 22, .ref 24, .ref 26, .ref 28, .ref 30, .null], z0, zn)), (32, (6, 4, df_6, z0, zn)), (32, (6, 4, [.int 8, .int 0, .null, .int 0], z0, zn)), (32, (6, 4, [.int 8, .int 2, .null, .int 0], z0, zn)), (33, (20, 16, [], z0, zn)), (32, (6, 4, [.int 8, .int 2, .ref 33, .int 0], z0, zn)), (32, (6, 4, [.int 8, .int 2, .ref 33, .int 0], z0, zn)), (5, (11, 14, [.ref 6, .ref 8, .ref 10, .ref 12, .ref 14, .ref 16, .ref 18, .ref 20, .ref 22, .ref 24, .ref 26, .ref 28, .ref 30, .ref 32], z0, zn))]
set_option maxRecDepth 40000 in
theorem kx_17 (G : GG) (d : Nat) (F : CF) : Kc G tO_init (d + 1) 28 1882 [.ref (gB G + 5)] 6 (sF F 5 (11, 14, df_11, z0, zn)) 34 (pf_17 F) := by
  refine K_of_Vc (by decide) rfl (by simp [cat_i, cat_r]) (by simp [tO_init]) ?_
  refine c_aload (i := 0) dO_init_0 rfl ?_
  refine c_obj dO_init_1 mlO_3 (Nat.le_of_ble_eq_true rfl) ?_
  refine c_aload (i := 0) dO_init_4 rfl ?_
  refine c_new (ci := 6) (ty := ty_6) df_6 dO_init_5 clO_9 in_6 iz_6 rfl ty_ok_6 df_ok_6 rfl (Nat.le_of_ble_eq_true rfl) (Nat.le_of_ble_eq_true rfl) ?_
  refine c_dup dO_init_8 rfl ?_
  refine c_bipush (x := 16) dO_init_9 rfl ?_
  refine c_iconst (x := 5) dO_init_11 rfl ?_
  refine c_call (M' := tR_init) dO_init_12 mlO_11 okiR_init rfl rfl (Nat.le_of_ble_eq_true rfl) (Nat.le_of_ble_eq_true rfl) (Nat.le_of_ble_eq_true rfl) (kx_3 G d _) ?_
  refine c_put (w := .ref 6) (cc := (11, 14, [.ref 6, .null, .null, .null, .null, .null, .null, .null, .null, .null, .null, .null, .null, .null], z0, zn)) dO_init_15 fuO_14 ⟨_, _, _, _, rfl, rfl, rfl, rfl⟩ hc_11 (Nat.le_of_ble_eq_true rfl) rfl (Nat.le_of_ble_eq_true rfl) rfl rfl ?_
  refine c_aload (i := 0) dO_init_18 rfl ?_
  refine c_new (ci := 6) (ty := ty_6) df_6 dO_init_19 clO_9 in_6 iz_6 rfl ty_ok_6 df_ok_6 rfl (Nat.le_of_ble_eq_true rfl) (Nat.le_of_ble_eq_true rfl) ?_
  refine c_dup dO_init_22 rfl ?_
  refine c_sipush (x := 400) dO_init_23 rfl ?_
  refine c_iconst (x := 2) dO_init_26 rfl ?_
  refine c_call (M' := tR_init) dO_init_27 mlO_11 okiR_init rfl rfl (Nat.le_of_ble_eq_true rfl) (Nat.le_of_ble_eq_true rfl) (Nat.le_of_ble_eq_true rfl) (kx_4 G d _) ?_
  refine c_put (w := .ref 8) (cc := (11, 14, [.ref 6, .ref 8, .null, .null, .null, .null, .null, .null, .null, .null, .null, .null, .null, .null], z0, zn)) dO_init_30 fuO_20 ⟨_, _, _, _, rfl, rfl, rfl, rfl⟩ hc_11 (Nat.le_of_ble_eq_true rfl) rfl (Nat.le_of_ble_eq_true rfl) rfl rfl ?_
  refine c_aload (i := 0) dO_init_33 rfl ?_
  refine c_new (ci := 6) (ty := ty_6) df_6 dO_init_34 clO_9 in_6 iz_6 rfl ty_ok_6 df_ok_6 rfl (Nat.le_of_ble_eq_true rfl) (Nat.le_of_ble_eq_true rfl) ?_
  refine c_dup dO_init_37 rfl ?_
  refine c_bipush (x := 16) dO_init_38 rfl ?_
  refine c_iconst (x := 5) dO_init_40 rfl ?_
  refine c_call (M' := tR_init) dO_init_41 mlO_11 okiR_init rfl rfl (Nat.le_of_ble_eq_true rfl) (Nat.le_of_ble_eq_true rfl) (Nat.le_of_ble_eq_true rfl) (kx_5 G d _) ?_
  refine c_put (w := .ref 10) (cc := (11, 14, [.ref 6, .ref 8, .ref 10, .null, .null, .null, .null, .null, .null, .null, .null, .null, .null, .null], z0, zn)) dO_init_44 fuO_23 ⟨_, _, _, _, rfl, rfl, rfl, rfl⟩ hc_11 (Nat.le_of_ble_eq_true rfl) rfl (Nat.le_of_ble_eq_true rfl) rfl rfl ?_
  refine c_aload (i := 0) dO_init_47 rfl ?_
  refine c_new (ci := 6) (ty := ty_6) df_6 dO_init_48 clO_9 in_6 iz_6 rfl ty_ok_6 df_ok_6 rfl (Nat.le_of_ble_eq_true rfl) (Nat.le_of_ble_eq_true rfl) ?_
  refine c_dup dO_init_51 rfl ?_
  refine c_bipush (x := 16) dO_init_52 rfl ?_
  refine c_iconst (x := 5) dO_init_54 rfl ?_
  refine c_call (M' := tR_init) dO_init_55 mlO_11 okiR_init rfl rfl (Nat.le_of_ble_eq_true rfl) (Nat.le_of_ble_eq_true rfl) (Nat.le_of_ble_eq_true rfl) (kx_6 G d _) ?_
  refine c_put (w := .ref 12) (cc := (11, 14, [.ref 6, .ref 8, .ref 10, .ref 12, .null, .null, .null, .null, .null, .null, .null, .null, .null, .null], z0, zn)) dO_init_58 fuO_26 ⟨_, _, _, _, rfl, rfl, rfl, rfl⟩ hc_11 (Nat.le_of_ble_eq_true rfl) rfl (Nat.le_of_ble_eq_true rfl) rfl rfl ?_
  refine c_aload (i := 0) dO_init_61 rfl ?_
  refine c_new (ci := 6) (ty := ty_6) df_6 dO_init_62 clO_9 in_6 iz_6 rfl ty_ok_6 df_ok_6 rfl (Nat.le_of_ble_eq_true rfl) (Nat.le_of_ble_eq_true rfl) ?_
  refine c_dup dO_init_65 rfl ?_
  refine c_bipush (x := 16) dO_init_66 rfl ?_
  refine c_iconst (x := 5) dO_init_68 rfl ?_
  refine c_call (M' := tR_init) dO_init_69 mlO_11 okiR_init rfl rfl (Nat.le_of_ble_eq_true rfl) (Nat.le_of_ble_eq_true rfl) (Nat.le_of_ble_eq_true rfl) (kx_7 G d _) ?_
  refine c_put (w := .ref 14) (cc := (11, 14, [.ref 6, .ref 8, .ref 10, .ref 12, .ref 14, .null, .null, .null, .null, .null, .null, .null, .null, .null], z0, zn)) dO_init_72 fuO_29 ⟨_, _, _, _, rfl, rfl, rfl, rfl⟩ hc_11 (Nat.le_of_ble_eq_true rfl) rfl (Nat.le_of_ble_eq_true rfl) rfl rfl ?_
  refine c_aload (i := 0) dO_init_75 rfl ?_
  refine c_new (ci := 6) (ty := ty_6) df_6 dO_init_76 clO_9 in_6 iz_6 rfl ty_ok_6 df_ok_6 rfl (Nat.le_of_ble_eq_true rfl) (Nat.le_of_ble_eq_true rfl) ?_
  refine c_dup dO_init_79 rfl ?_
  refine c_sipush (x := 150) dO_init_80 rfl ?_
  refine c_iconst (x := 4) dO_init_83 rfl ?_
  refine c_call (M' := tR_init) dO_init_84 mlO_11 okiR_init rfl rfl (Nat.le_of_ble_eq_true rfl) (Nat.le_of_ble_eq_true rfl) (Nat.le_of_ble_eq_true rfl) (kx_8 G d _) ?_
  refine c_put (w := .ref 16) (cc := (11, 14, [.ref 6, .ref 8, .ref 10, .ref 12, .ref 14, .ref 16, .null, .null, .null, .null, .null, .null, .null, .null], z0, zn)) dO_init_87 fuO_32 ⟨_, _, _, _, rfl, rfl, rfl, rfl⟩ hc_11 (Nat.le_of_ble_eq_true rfl) rfl (Nat.le_of_ble_eq_true rfl) rfl rfl ?_
  refine c_aload (i := 0) dO_init_90 rfl ?_
  refine c_new (ci := 6) (ty := ty_6) df_6 dO_init_91 clO_9 in_6 iz_6 rfl ty_ok_6 df_ok_6 rfl (Nat.le_of_ble_eq_true rfl) (Nat.le_of_ble_eq_true rfl) ?_
  refine c_dup dO_init_94 rfl ?_
  refine c_bipush (x := 9) dO_init_95 rfl ?_
  refine c_iconst (x := 1) dO_init_97 rfl ?_
  refine c_call (M' := tR_init) dO_init_98 mlO_11 okiR_init rfl rfl (Nat.le_of_ble_eq_true rfl) (Nat.le_of_ble_eq_true rfl) (Nat.le_of_ble_eq_true rfl) (kx_9 G d _) ?_
  refine c_put (w := .ref 18) (cc := (11, 14, [.ref 6, .ref 8, .ref 10, .ref 12, .ref 14, .ref 16, .ref 18, .null, .null, .null, .null, .null, .null, .null], z0, zn)) dO_init_101 fuO_35 ⟨_, _, _, _, rfl, rfl, rfl, rfl⟩ hc_11 (Nat.le_of_ble_eq_true rfl) rfl (Nat.le_of_ble_eq_true rfl) rfl rfl ?_
  refine c_aload (i := 0) dO_init_104 rfl ?_
  refine c_new (ci := 6) (ty := ty_6) df_6 dO_init_105 clO_9 in_6 iz_6 rfl ty_ok_6 df_ok_6 rfl (Nat.le_of_ble_eq_true rfl) (Nat.le_of_ble_eq_true rfl) ?_
  refine c_dup dO_init_108 rfl ?_
  refine c_bipush (x := 8) dO_init_109 rfl ?_
  refine c_iconst (x := 1) dO_init_111 rfl ?_
  refine c_call (M' := tR_init) dO_init_112 mlO_11 okiR_init rfl rfl (Nat.le_of_ble_eq_true rfl) (Nat.le_of_ble_eq_true rfl) (Nat.le_of_ble_eq_true rfl) (kx_10 G d _) ?_
  refine c_put (w := .ref 20) (cc := (11, 14, [.ref 6, .ref 8, .ref 10, .ref 12, .ref 14, .ref 16, .ref 18, .ref 20, .null, .null, .null, .null, .null, .null], z0, zn)) dO_init_115 fuO_40 ⟨_, _, _, _, rfl, rfl, rfl, rfl⟩ hc_11 (Nat.le_of_ble_eq_true rfl) rfl (Nat.le_of_ble_eq_true rfl) rfl rfl ?_
  refine c_aload (i := 0) dO_init_118 rfl ?_
  refine c_new (ci := 6) (ty := ty_6) df_6 dO_init_119 clO_9 in_6 iz_6 rfl ty_ok_6 df_ok_6 rfl (Nat.le_of_ble_eq_true rfl) (Nat.le_of_ble_eq_true rfl) ?_
  refine c_dup dO_init_122 rfl ?_
  refine c_iconst (x := 5) dO_init_123 rfl ?_
  refine c_iconst (x := 1) dO_init_124 rfl ?_
  refine c_call (M' := tR_init) dO_init_125 mlO_11 okiR_init rfl rfl (Nat.le_of_ble_eq_true rfl) (Nat.le_of_ble_eq_true rfl) (Nat.le_of_ble_eq_true rfl) (kx_11 G d _) ?_
  refine c_put (w := .ref 22) (cc := (11, 14, [.ref 6, .ref 8, .ref 10, .ref 12, .ref 14, .ref 16, .ref 18, .ref 20, .ref 22, .null, .null, .null, .null, .null], z0, zn)) dO_init_128 fuO_43 ⟨_, _, _, _, rfl, rfl, rfl, rfl⟩ hc_11 (Nat.le_of_ble_eq_true rfl) rfl (Nat.le_of_ble_eq_true rfl) rfl rfl ?_
  refine c_aload (i := 0) dO_init_131 rfl ?_
  refine c_new (ci := 6) (ty := ty_6) df_6 dO_init_132 clO_9 in_6 iz_6 rfl ty_ok_6 df_ok_6 rfl (Nat.le_of_ble_eq_true rfl) (Nat.le_of_ble_eq_true rfl) ?_
  refine c_dup dO_init_135 rfl ?_
  refine c_bipush (x := 8) dO_init_136 rfl ?_
  refine c_iconst (x := 2) dO_init_138 rfl ?_
  refine c_call (M' := tR_init) dO_init_139 mlO_11 okiR_init rfl rfl (Nat.le_of_ble_eq_true rfl) (Nat.le_of_ble_eq_true rfl) (Nat.le_of_ble_eq_true rfl) (kx_12 G d _) ?_
  refine c_put (w := .ref 24) (cc := (11, 14, [.ref 6, .ref 8, .ref 10, .ref 12, .ref 14, .ref 16, .ref 18, .ref 20, .ref 22, .ref 24, .null, .null, .null, .null], z0, zn)) dO_init_142 fuO_46 ⟨_, _, _, _, rfl, rfl, rfl, rfl⟩ hc_11 (Nat.le_of_ble_eq_true rfl) rfl (Nat.le_of_ble_eq_true rfl) rfl rfl ?_
  refine c_aload (i := 0) dO_init_145 rfl ?_
  refine c_new (ci := 6) (ty := ty_6) df_6 dO_init_146 clO_9 in_6 iz_6 rfl ty_ok_6 df_ok_6 rfl (Nat.le_of_ble_eq_true rfl) (Nat.le_of_ble_eq_true rfl) ?_
  refine c_dup dO_init_149 rfl ?_
  refine c_bipush (x := 16) dO_init_150 rfl ?_
  refine c_iconst (x := 1) dO_init_152 rfl ?_
  refine c_call (M' := tR_init) dO_init_153 mlO_11 okiR_init rfl rfl (Nat.le_of_ble_eq_true rfl) (Nat.le_of_ble_eq_true rfl) (Nat.le_of_ble_eq_true rfl) (kx_13 G d _) ?_
  refine c_put (w := .ref 26) (cc := (11, 14, [.ref 6, .ref 8, .ref 10, .ref 12, .ref 14, .ref 16, .ref 18, .ref 20, .ref 22, .ref 24, .ref 26, .null, .null, .null], z0, zn)) dO_init_156 fuO_49 ⟨_, _, _, _, rfl, rfl, rfl, rfl⟩ hc_11 (Nat.le_of_ble_eq_true rfl) rfl (Nat.le_of_ble_eq_true rfl) rfl rfl ?_
  refine c_aload (i := 0) dO_init_159 rfl ?_
  refine c_new (ci := 6) (ty := ty_6) df_6 dO_init_160 clO_9 in_6 iz_6 rfl ty_ok_6 df_ok_6 rfl (Nat.le_of_ble_eq_true rfl) (Nat.le_of_ble_eq_true rfl) ?_
  refine c_dup dO_init_163 rfl ?_
  refine c_bipush (x := 6) dO_init_164 rfl ?_
  refine c_iconst (x := 2) dO_init_166 rfl ?_
  refine c_call (M' := tR_init) dO_init_167 mlO_11 okiR_init rfl rfl (Nat.le_of_ble_eq_true rfl) (Nat.le_of_ble_eq_true rfl) (Nat.le_of_ble_eq_true rfl) (kx_14 G d _) ?_
  refine c_put (w := .ref 28) (cc := (11, 14, [.ref 6, .ref 8, .ref 10, .ref 12, .ref 14, .ref 16, .ref 18, .ref 20, .ref 22, .ref 24, .ref 26, .ref 28, .null, .null], z0, zn)) dO_init_170 fuO_52 ⟨_, _, _, _, rfl, rfl, rfl, rfl⟩ hc_11 (Nat.le_of_ble_eq_true rfl) rfl (Nat.le_of_ble_eq_true rfl) rfl rfl ?_
  refine c_aload (i := 0) dO_init_173 rfl ?_
  refine c_new (ci := 6) (ty := ty_6) df_6 dO_init_174 clO_9 in_6 iz_6 rfl ty_ok_6 df_ok_6 rfl (Nat.le_of_ble_eq_true rfl) (Nat.le_of_ble_eq_true rfl) ?_
  refine c_dup dO_init_177 rfl ?_
  refine c_bipush (x := 12) dO_init_178 rfl ?_
  refine c_iconst (x := 2) dO_init_180 rfl ?_
  refine c_call (M' := tR_init) dO_init_181 mlO_11 okiR_init rfl rfl (Nat.le_of_ble_eq_true rfl) (Nat.le_of_ble_eq_true rfl) (Nat.le_of_ble_eq_true rfl) (kx_15 G d _) ?_
  refine c_put (w := .ref 30) (cc := (11, 14, [.ref 6, .ref 8, .ref 10, .ref 12, .ref 14, .ref 16, .ref 18, .ref 20, .ref 22, .ref 24, .ref 26, .ref 28, .ref 30, .null], z0, zn)) dO_init_184 fuO_55 ⟨_, _, _, _, rfl, rfl, rfl, rfl⟩ hc_11 (Nat.le_of_ble_eq_true rfl) rfl (Nat.le_of_ble_eq_true rfl) rfl rfl ?_
  refine c_aload (i := 0) dO_init_187 rfl ?_
  refine c_new (ci := 6) (ty := ty_6) df_6 dO_init_188 clO_9 in_6 iz_6 rfl ty_ok_6 df_ok_6 rfl (Nat.le_of_ble_eq_true rfl) (Nat.le_of_ble_eq_true rfl) ?_
  refine c_dup dO_init_191 rfl ?_
  refine c_bipush (x := 8) dO_init_192 rfl ?_
  refine c_iconst (x := 2) dO_init_194 rfl ?_
  refine c_call (M' := tR_init) dO_init_195 mlO_11 okiR_init rfl rfl (Nat.le_of_ble_eq_true rfl) (Nat.le_of_ble_eq_true rfl) (Nat.le_of_ble_eq_true rfl) (kx_16 G d _) ?_
  refine c_put (w := .ref 32) (cc := (11, 14, [.ref 6, .ref 8, .ref 10, .ref 12, .ref 14, .ref 16, .ref 18, .ref 20, .ref 22, .ref 24, .ref 26, .ref 28, .ref 30, .ref 32], z0, zn)) dO_init_198 fuO_58 ⟨_, _, _, _, rfl, rfl, rfl, rfl⟩ hc_11 (Nat.le_of_ble_eq_true rfl) rfl (Nat.le_of_ble_eq_true rfl) rfl rfl ?_
  exact c_ret dO_init_201 rfl rfl
def pf_18 (F : CF) : CF := wr F [(34, (3, 5, df_3, z0, zn)), (35, (20, 12, [], z0, zn)), (34, (3, 5, [.null, .null, .ref 35, .null, .int 0], z0, zn)), (36, (20, 64, [], z0, zn)), (34, (3, 5, [.null, .null, .ref 35, .ref 36, .int 0], z0, zn)), (34, (3, 5, [.ref 6, .null, .ref 35, .ref 36, .int 0], z0, zn)), (34, (3, 5, [.ref 6, .ref 8, .ref 35, .ref 36, .int 0], z0, zn))]
set_option maxRecDepth 40000 in
theorem kx_18 (G : GG) (d : Nat) (F : CF) : Kc G tW_init d 2 76 [.ref (gB G + 34), .ref (gB G + 6), .ref (gB G + 8)] 35 (sF F 34 (3, 5, df_3, z0, zn)) 37 (pf_18 F) := by
  refine K_of_Vc (by decide) rfl (by simp [cat_i, cat_r]) (by simp [tW_init]) ?_
  refine c_aload (i := 0) dW_init_0 rfl ?_
  refine c_obj dW_init_1 mlW_3 (Nat.le_of_ble_eq_true rfl) ?_
  refine c_aload (i := 0) dW_init_4 rfl ?_
  refine c_bipush (x := 12) dW_init_5 rfl ?_
  refine c_newi (N := 12) dW_init_7 ar_i (by decide) rfl (by decide) (Nat.le_of_ble_eq_true rfl) (Nat.le_of_ble_eq_true rfl) ?_
  refine c_put (w := .ref 35) (cc := (3, 5, [.null, .null, .ref 35, .null, .int 0], z0, zn)) dW_init_9 fuW_11 ⟨_, _, _, _, rfl, rfl, rfl, rfl⟩ hc_3 (Nat.le_of_ble_eq_true rfl) rfl (Nat.le_of_ble_eq_true rfl) rfl rfl ?_
  refine c_aload (i := 0) dW_init_12 rfl ?_
  refine c_bipush (x := 64) dW_init_13 rfl ?_
  refine c_newi (N := 64) dW_init_15 ar_i (by decide) rfl (by decide) (Nat.le_of_ble_eq_true rfl) (Nat.le_of_ble_eq_true rfl) ?_
  refine c_put (w := .ref 36) (cc := (3, 5, [.null, .null, .ref 35, .ref 36, .int 0], z0, zn)) dW_init_17 fuW_15 ⟨_, _, _, _, rfl, rfl, rfl, rfl⟩ hc_3 (Nat.le_of_ble_eq_true rfl) rfl (Nat.le_of_ble_eq_true rfl) rfl rfl ?_
  refine c_aload (i := 0) dW_init_20 rfl ?_
  refine c_aload (i := 1) dW_init_21 rfl ?_
  refine c_put (w := .ref 6) (cc := (3, 5, [.ref 6, .null, .ref 35, .ref 36, .int 0], z0, zn)) dW_init_22 fuW_18 ⟨_, _, _, _, rfl, rfl, rfl, rfl⟩ hc_3 (Nat.le_of_ble_eq_true rfl) rfl (Nat.le_of_ble_eq_true rfl) rfl rfl ?_
  refine c_aload (i := 0) dW_init_25 rfl ?_
  refine c_aload (i := 2) dW_init_26 rfl ?_
  refine c_put (w := .ref 8) (cc := (3, 5, [.ref 6, .ref 8, .ref 35, .ref 36, .int 0], z0, zn)) dW_init_27 fuW_22 ⟨_, _, _, _, rfl, rfl, rfl, rfl⟩ hc_3 (Nat.le_of_ble_eq_true rfl) rfl (Nat.le_of_ble_eq_true rfl) rfl rfl ?_
  exact c_ret dW_init_30 rfl rfl
def pf_19 (F : CF) : CF := wr F [(37, (1, 8, df_1, z0, zn)), (38, (20, 132, [], z0, zn)), (37, (1, 8, [.ref 38, .int 0, .int 0, .int 0, .int 0, .int 0, .int 0, .int 0], z0, zn))]
set_option maxRecDepth 40000 in
theorem kx_19 (G : GG) (d : Nat) (F : CF) : Kc G tB_init d 1 132 [.ref (gB G + 37)] 38 (sF F 37 (1, 8, df_1, z0, zn)) 39 (pf_19 F) := by
  refine K_of_Vc (by decide) rfl (by simp [cat_i, cat_r]) (by simp [tB_init]) ?_
  refine c_aload (i := 0) dB_init_0 rfl ?_
  refine c_obj dB_init_1 mlB_3 (Nat.le_of_ble_eq_true rfl) ?_
  refine c_aload (i := 0) dB_init_4 rfl ?_
  refine c_sipush (x := 132) dB_init_5 rfl ?_
  refine c_newi (N := 132) dB_init_8 ar_i (by decide) rfl (by decide) (Nat.le_of_ble_eq_true rfl) (Nat.le_of_ble_eq_true rfl) ?_
  refine c_put (w := .ref 38) (cc := (1, 8, [.ref 38, .int 0, .int 0, .int 0, .int 0, .int 0, .int 0, .int 0], z0, zn)) dB_init_10 fuB_11 ⟨_, _, _, _, rfl, rfl, rfl, rfl⟩ hc_1 (Nat.le_of_ble_eq_true rfl) rfl (Nat.le_of_ble_eq_true rfl) rfl rfl ?_
  exact c_ret dB_init_13 rfl rfl
def pf_20 (F : CF) : CF := wr F [(40, (6, 4, df_6, z0, zn)), (40, (6, 4, [.int 16, .int 0, .null, .int 0], z0, zn)), (40, (6, 4, [.int 16, .int 5, .null, .int 0], z0, zn)), (41, (20, 80, [], z0, zn)), (40, (6, 4, [.int 16, .int 5, .ref 41, .int 0], z0, zn)), (40, (6, 4, [.int 16, .int 5, .ref 41, .int 0], z0, zn))]
set_option maxRecDepth 40000 in
theorem kx_20 (G : GG) (d : Nat) (F : CF) : Kc G tR_init d 1 80 [.ref (gB G + 40), .int 16, .int 5] 41 (sF F 40 (6, 4, df_6, z0, zn)) 42 (pf_20 F) := by
  refine K_of_Vc (by decide) rfl (by simp [cat_i, cat_r]) (by simp [tR_init]) ?_
  refine c_aload (i := 0) dR_init_0 rfl ?_
  refine c_obj dR_init_1 mlR_3 (Nat.le_of_ble_eq_true rfl) ?_
  refine c_aload (i := 0) dR_init_4 rfl ?_
  refine c_iload (i := 1) dR_init_5 rfl ?_
  refine c_iconst (x := 0) dR_init_6 rfl ?_
  refine c_mmax (z := 16) dR_init_7 mlR_9 rfl (Nat.le_of_ble_eq_true rfl) (Nat.le_of_ble_eq_true rfl) (Nat.le_of_ble_eq_true rfl) ?_
  refine c_put (w := .int 16) (cc := (6, 4, [.int 16, .int 0, .null, .int 0], z0, zn)) dR_init_10 fuR_15 ⟨_, _, _, _, rfl, rfl, rfl, rfl⟩ hc_6 (Nat.le_of_ble_eq_true rfl) rfl (Nat.le_of_ble_eq_true rfl) rfl rfl ?_
  refine c_aload (i := 0) dR_init_13 rfl ?_
  refine c_iload (i := 2) dR_init_14 rfl ?_
  refine c_iconst (x := 1) dR_init_15 rfl ?_
  refine c_mmax (z := 5) dR_init_16 mlR_9 rfl (Nat.le_of_ble_eq_true rfl) (Nat.le_of_ble_eq_true rfl) (Nat.le_of_ble_eq_true rfl) ?_
  refine c_put (w := .int 5) (cc := (6, 4, [.int 16, .int 5, .null, .int 0], z0, zn)) dR_init_19 fuR_21 ⟨_, _, _, _, rfl, rfl, rfl, rfl⟩ hc_6 (Nat.le_of_ble_eq_true rfl) rfl (Nat.le_of_ble_eq_true rfl) rfl rfl ?_
  refine c_aload (i := 0) dR_init_22 rfl ?_
  refine c_aload (i := 0) dR_init_23 rfl ?_
  refine c_get (w := .int 16) (w' := .int 16) dR_init_24 fuR_15 (Nat.le_of_ble_eq_true rfl) rfl rfl rfl ?_
  refine c_aload (i := 0) dR_init_27 rfl ?_
  refine c_get (w := .int 5) (w' := .int 5) dR_init_28 fuR_21 (Nat.le_of_ble_eq_true rfl) rfl rfl rfl ?_
  refine c_imul (z := 80) dR_init_31 rfl ?_
  refine c_newi (N := 80) dR_init_32 ar_i (by decide) rfl (by decide) (Nat.le_of_ble_eq_true rfl) (Nat.le_of_ble_eq_true rfl) ?_
  refine c_put (w := .ref 41) (cc := (6, 4, [.int 16, .int 5, .ref 41, .int 0], z0, zn)) dR_init_34 fuR_24 ⟨_, _, _, _, rfl, rfl, rfl, rfl⟩ hc_6 (Nat.le_of_ble_eq_true rfl) rfl (Nat.le_of_ble_eq_true rfl) rfl rfl ?_
  refine c_aload (i := 0) dR_init_37 rfl ?_
  refine c_iconst (x := 0) dR_init_38 rfl ?_
  refine c_put (w := .int 0) (cc := (6, 4, [.int 16, .int 5, .ref 41, .int 0], z0, zn)) dR_init_39 fuR_28 ⟨_, _, _, _, rfl, rfl, rfl, rfl⟩ hc_6 (Nat.le_of_ble_eq_true rfl) rfl (Nat.le_of_ble_eq_true rfl) rfl rfl ?_
  exact c_ret dR_init_42 rfl rfl
def pf_21 (F : CF) : CF := wr F [(42, (6, 4, df_6, z0, zn)), (42, (6, 4, [.int 400, .int 0, .null, .int 0], z0, zn)), (42, (6, 4, [.int 400, .int 2, .null, .int 0], z0, zn)), (43, (20, 800, [], z0, zn)), (42, (6, 4, [.int 400, .int 2, .ref 43, .int 0], z0, zn)), (42, (6, 4, [.int 400, .int 2, .ref 43, .int 0], z0, zn))]
set_option maxRecDepth 40000 in
theorem kx_21 (G : GG) (d : Nat) (F : CF) : Kc G tR_init d 1 800 [.ref (gB G + 42), .int 400, .int 2] 43 (sF F 42 (6, 4, df_6, z0, zn)) 44 (pf_21 F) := by
  refine K_of_Vc (by decide) rfl (by simp [cat_i, cat_r]) (by simp [tR_init]) ?_
  refine c_aload (i := 0) dR_init_0 rfl ?_
  refine c_obj dR_init_1 mlR_3 (Nat.le_of_ble_eq_true rfl) ?_
  refine c_aload (i := 0) dR_init_4 rfl ?_
  refine c_iload (i := 1) dR_init_5 rfl ?_
  refine c_iconst (x := 0) dR_init_6 rfl ?_
  refine c_mmax (z := 400) dR_init_7 mlR_9 rfl (Nat.le_of_ble_eq_true rfl) (Nat.le_of_ble_eq_true rfl) (Nat.le_of_ble_eq_true rfl) ?_
  refine c_put (w := .int 400) (cc := (6, 4, [.int 400, .int 0, .null, .int 0], z0, zn)) dR_init_10 fuR_15 ⟨_, _, _, _, rfl, rfl, rfl, rfl⟩ hc_6 (Nat.le_of_ble_eq_true rfl) rfl (Nat.le_of_ble_eq_true rfl) rfl rfl ?_
  refine c_aload (i := 0) dR_init_13 rfl ?_
  refine c_iload (i := 2) dR_init_14 rfl ?_
  refine c_iconst (x := 1) dR_init_15 rfl ?_
  refine c_mmax (z := 2) dR_init_16 mlR_9 rfl (Nat.le_of_ble_eq_true rfl) (Nat.le_of_ble_eq_true rfl) (Nat.le_of_ble_eq_true rfl) ?_
  refine c_put (w := .int 2) (cc := (6, 4, [.int 400, .int 2, .null, .int 0], z0, zn)) dR_init_19 fuR_21 ⟨_, _, _, _, rfl, rfl, rfl, rfl⟩ hc_6 (Nat.le_of_ble_eq_true rfl) rfl (Nat.le_of_ble_eq_true rfl) rfl rfl ?_
  refine c_aload (i := 0) dR_init_22 rfl ?_
  refine c_aload (i := 0) dR_init_23 rfl ?_
  refine c_get (w := .int 400) (w' := .int 400) dR_init_24 fuR_15 (Nat.le_of_ble_eq_true rfl) rfl rfl rfl ?_
  refine c_aload (i := 0) dR_init_27 rfl ?_
  refine c_get (w := .int 2) (w' := .int 2) dR_init_28 fuR_21 (Nat.le_of_ble_eq_true rfl) rfl rfl rfl ?_
  refine c_imul (z := 800) dR_init_31 rfl ?_
  refine c_newi (N := 800) dR_init_32 ar_i (by decide) rfl (by decide) (Nat.le_of_ble_eq_true rfl) (Nat.le_of_ble_eq_true rfl) ?_
  refine c_put (w := .ref 43) (cc := (6, 4, [.int 400, .int 2, .ref 43, .int 0], z0, zn)) dR_init_34 fuR_24 ⟨_, _, _, _, rfl, rfl, rfl, rfl⟩ hc_6 (Nat.le_of_ble_eq_true rfl) rfl (Nat.le_of_ble_eq_true rfl) rfl rfl ?_
  refine c_aload (i := 0) dR_init_37 rfl ?_
  refine c_iconst (x := 0) dR_init_38 rfl ?_
  refine c_put (w := .int 0) (cc := (6, 4, [.int 400, .int 2, .ref 43, .int 0], z0, zn)) dR_init_39 fuR_28 ⟨_, _, _, _, rfl, rfl, rfl, rfl⟩ hc_6 (Nat.le_of_ble_eq_true rfl) rfl (Nat.le_of_ble_eq_true rfl) rfl rfl ?_
  exact c_ret dR_init_42 rfl rfl
def pf_22 (F : CF) : CF := wr F [(44, (6, 4, df_6, z0, zn)), (44, (6, 4, [.int 16, .int 0, .null, .int 0], z0, zn)), (44, (6, 4, [.int 16, .int 5, .null, .int 0], z0, zn)), (45, (20, 80, [], z0, zn)), (44, (6, 4, [.int 16, .int 5, .ref 45, .int 0], z0, zn)), (44, (6, 4, [.int 16, .int 5, .ref 45, .int 0], z0, zn))]
set_option maxRecDepth 40000 in
theorem kx_22 (G : GG) (d : Nat) (F : CF) : Kc G tR_init d 1 80 [.ref (gB G + 44), .int 16, .int 5] 45 (sF F 44 (6, 4, df_6, z0, zn)) 46 (pf_22 F) := by
  refine K_of_Vc (by decide) rfl (by simp [cat_i, cat_r]) (by simp [tR_init]) ?_
  refine c_aload (i := 0) dR_init_0 rfl ?_
  refine c_obj dR_init_1 mlR_3 (Nat.le_of_ble_eq_true rfl) ?_
  refine c_aload (i := 0) dR_init_4 rfl ?_
  refine c_iload (i := 1) dR_init_5 rfl ?_
  refine c_iconst (x := 0) dR_init_6 rfl ?_
  refine c_mmax (z := 16) dR_init_7 mlR_9 rfl (Nat.le_of_ble_eq_true rfl) (Nat.le_of_ble_eq_true rfl) (Nat.le_of_ble_eq_true rfl) ?_
  refine c_put (w := .int 16) (cc := (6, 4, [.int 16, .int 0, .null, .int 0], z0, zn)) dR_init_10 fuR_15 ⟨_, _, _, _, rfl, rfl, rfl, rfl⟩ hc_6 (Nat.le_of_ble_eq_true rfl) rfl (Nat.le_of_ble_eq_true rfl) rfl rfl ?_
  refine c_aload (i := 0) dR_init_13 rfl ?_
  refine c_iload (i := 2) dR_init_14 rfl ?_
  refine c_iconst (x := 1) dR_init_15 rfl ?_
  refine c_mmax (z := 5) dR_init_16 mlR_9 rfl (Nat.le_of_ble_eq_true rfl) (Nat.le_of_ble_eq_true rfl) (Nat.le_of_ble_eq_true rfl) ?_
  refine c_put (w := .int 5) (cc := (6, 4, [.int 16, .int 5, .null, .int 0], z0, zn)) dR_init_19 fuR_21 ⟨_, _, _, _, rfl, rfl, rfl, rfl⟩ hc_6 (Nat.le_of_ble_eq_true rfl) rfl (Nat.le_of_ble_eq_true rfl) rfl rfl ?_
  refine c_aload (i := 0) dR_init_22 rfl ?_
  refine c_aload (i := 0) dR_init_23 rfl ?_
  refine c_get (w := .int 16) (w' := .int 16) dR_init_24 fuR_15 (Nat.le_of_ble_eq_true rfl) rfl rfl rfl ?_
  refine c_aload (i := 0) dR_init_27 rfl ?_
  refine c_get (w := .int 5) (w' := .int 5) dR_init_28 fuR_21 (Nat.le_of_ble_eq_true rfl) rfl rfl rfl ?_
  refine c_imul (z := 80) dR_init_31 rfl ?_
  refine c_newi (N := 80) dR_init_32 ar_i (by decide) rfl (by decide) (Nat.le_of_ble_eq_true rfl) (Nat.le_of_ble_eq_true rfl) ?_
  refine c_put (w := .ref 45) (cc := (6, 4, [.int 16, .int 5, .ref 45, .int 0], z0, zn)) dR_init_34 fuR_24 ⟨_, _, _, _, rfl, rfl, rfl, rfl⟩ hc_6 (Nat.le_of_ble_eq_true rfl) rfl (Nat.le_of_ble_eq_true rfl) rfl rfl ?_
  refine c_aload (i := 0) dR_init_37 rfl ?_
  refine c_iconst (x := 0) dR_init_38 rfl ?_
  refine c_put (w := .int 0) (cc := (6, 4, [.int 16, .int 5, .ref 45, .int 0], z0, zn)) dR_init_39 fuR_28 ⟨_, _, _, _, rfl, rfl, rfl, rfl⟩ hc_6 (Nat.le_of_ble_eq_true rfl) rfl (Nat.le_of_ble_eq_true rfl) rfl rfl ?_
  exact c_ret dR_init_42 rfl rfl
def pf_23 (F : CF) : CF := wr F [(46, (6, 4, df_6, z0, zn)), (46, (6, 4, [.int 16, .int 0, .null, .int 0], z0, zn)), (46, (6, 4, [.int 16, .int 5, .null, .int 0], z0, zn)), (47, (20, 80, [], z0, zn)), (46, (6, 4, [.int 16, .int 5, .ref 47, .int 0], z0, zn)), (46, (6, 4, [.int 16, .int 5, .ref 47, .int 0], z0, zn))]
set_option maxRecDepth 40000 in
theorem kx_23 (G : GG) (d : Nat) (F : CF) : Kc G tR_init d 1 80 [.ref (gB G + 46), .int 16, .int 5] 47 (sF F 46 (6, 4, df_6, z0, zn)) 48 (pf_23 F) := by
  refine K_of_Vc (by decide) rfl (by simp [cat_i, cat_r]) (by simp [tR_init]) ?_
  refine c_aload (i := 0) dR_init_0 rfl ?_
  refine c_obj dR_init_1 mlR_3 (Nat.le_of_ble_eq_true rfl) ?_
  refine c_aload (i := 0) dR_init_4 rfl ?_
  refine c_iload (i := 1) dR_init_5 rfl ?_
  refine c_iconst (x := 0) dR_init_6 rfl ?_
  refine c_mmax (z := 16) dR_init_7 mlR_9 rfl (Nat.le_of_ble_eq_true rfl) (Nat.le_of_ble_eq_true rfl) (Nat.le_of_ble_eq_true rfl) ?_
  refine c_put (w := .int 16) (cc := (6, 4, [.int 16, .int 0, .null, .int 0], z0, zn)) dR_init_10 fuR_15 ⟨_, _, _, _, rfl, rfl, rfl, rfl⟩ hc_6 (Nat.le_of_ble_eq_true rfl) rfl (Nat.le_of_ble_eq_true rfl) rfl rfl ?_
  refine c_aload (i := 0) dR_init_13 rfl ?_
  refine c_iload (i := 2) dR_init_14 rfl ?_
  refine c_iconst (x := 1) dR_init_15 rfl ?_
  refine c_mmax (z := 5) dR_init_16 mlR_9 rfl (Nat.le_of_ble_eq_true rfl) (Nat.le_of_ble_eq_true rfl) (Nat.le_of_ble_eq_true rfl) ?_
  refine c_put (w := .int 5) (cc := (6, 4, [.int 16, .int 5, .null, .int 0], z0, zn)) dR_init_19 fuR_21 ⟨_, _, _, _, rfl, rfl, rfl, rfl⟩ hc_6 (Nat.le_of_ble_eq_true rfl) rfl (Nat.le_of_ble_eq_true rfl) rfl rfl ?_
  refine c_aload (i := 0) dR_init_22 rfl ?_
  refine c_aload (i := 0) dR_init_23 rfl ?_
  refine c_get (w := .int 16) (w' := .int 16) dR_init_24 fuR_15 (Nat.le_of_ble_eq_true rfl) rfl rfl rfl ?_
  refine c_aload (i := 0) dR_init_27 rfl ?_
  refine c_get (w := .int 5) (w' := .int 5) dR_init_28 fuR_21 (Nat.le_of_ble_eq_true rfl) rfl rfl rfl ?_
  refine c_imul (z := 80) dR_init_31 rfl ?_
  refine c_newi (N := 80) dR_init_32 ar_i (by decide) rfl (by decide) (Nat.le_of_ble_eq_true rfl) (Nat.le_of_ble_eq_true rfl) ?_
  refine c_put (w := .ref 47) (cc := (6, 4, [.int 16, .int 5, .ref 47, .int 0], z0, zn)) dR_init_34 fuR_24 ⟨_, _, _, _, rfl, rfl, rfl, rfl⟩ hc_6 (Nat.le_of_ble_eq_true rfl) rfl (Nat.le_of_ble_eq_true rfl) rfl rfl ?_
  refine c_aload (i := 0) dR_init_37 rfl ?_
  refine c_iconst (x := 0) dR_init_38 rfl ?_
  refine c_put (w := .int 0) (cc := (6, 4, [.int 16, .int 5, .ref 47, .int 0], z0, zn)) dR_init_39 fuR_28 ⟨_, _, _, _, rfl, rfl, rfl, rfl⟩ hc_6 (Nat.le_of_ble_eq_true rfl) rfl (Nat.le_of_ble_eq_true rfl) rfl rfl ?_
  exact c_ret dR_init_42 rfl rfl
def pf_24 (F : CF) : CF := wr F [(48, (6, 4, df_6, z0, zn)), (48, (6, 4, [.int 16, .int 0, .null, .int 0], z0, zn)), (48, (6, 4, [.int 16, .int 5, .null, .int 0], z0, zn)), (49, (20, 80, [], z0, zn)), (48, (6, 4, [.int 16, .int 5, .ref 49, .int 0], z0, zn)), (48, (6, 4, [.int 16, .int 5, .ref 49, .int 0], z0, zn))]
set_option maxRecDepth 40000 in
theorem kx_24 (G : GG) (d : Nat) (F : CF) : Kc G tR_init d 1 80 [.ref (gB G + 48), .int 16, .int 5] 49 (sF F 48 (6, 4, df_6, z0, zn)) 50 (pf_24 F) := by
  refine K_of_Vc (by decide) rfl (by simp [cat_i, cat_r]) (by simp [tR_init]) ?_
  refine c_aload (i := 0) dR_init_0 rfl ?_
  refine c_obj dR_init_1 mlR_3 (Nat.le_of_ble_eq_true rfl) ?_
  refine c_aload (i := 0) dR_init_4 rfl ?_
  refine c_iload (i := 1) dR_init_5 rfl ?_
  refine c_iconst (x := 0) dR_init_6 rfl ?_
  refine c_mmax (z := 16) dR_init_7 mlR_9 rfl (Nat.le_of_ble_eq_true rfl) (Nat.le_of_ble_eq_true rfl) (Nat.le_of_ble_eq_true rfl) ?_
  refine c_put (w := .int 16) (cc := (6, 4, [.int 16, .int 0, .null, .int 0], z0, zn)) dR_init_10 fuR_15 ⟨_, _, _, _, rfl, rfl, rfl, rfl⟩ hc_6 (Nat.le_of_ble_eq_true rfl) rfl (Nat.le_of_ble_eq_true rfl) rfl rfl ?_
  refine c_aload (i := 0) dR_init_13 rfl ?_
  refine c_iload (i := 2) dR_init_14 rfl ?_
  refine c_iconst (x := 1) dR_init_15 rfl ?_
  refine c_mmax (z := 5) dR_init_16 mlR_9 rfl (Nat.le_of_ble_eq_true rfl) (Nat.le_of_ble_eq_true rfl) (Nat.le_of_ble_eq_true rfl) ?_
  refine c_put (w := .int 5) (cc := (6, 4, [.int 16, .int 5, .null, .int 0], z0, zn)) dR_init_19 fuR_21 ⟨_, _, _, _, rfl, rfl, rfl, rfl⟩ hc_6 (Nat.le_of_ble_eq_true rfl) rfl (Nat.le_of_ble_eq_true rfl) rfl rfl ?_
  refine c_aload (i := 0) dR_init_22 rfl ?_
  refine c_aload (i := 0) dR_init_23 rfl ?_
  refine c_get (w := .int 16) (w' := .int 16) dR_init_24 fuR_15 (Nat.le_of_ble_eq_true rfl) rfl rfl rfl ?_
  refine c_aload (i := 0) dR_init_27 rfl ?_
  refine c_get (w := .int 5) (w' := .int 5) dR_init_28 fuR_21 (Nat.le_of_ble_eq_true rfl) rfl rfl rfl ?_
  refine c_imul (z := 80) dR_init_31 rfl ?_
  refine c_newi (N := 80) dR_init_32 ar_i (by decide) rfl (by decide) (Nat.le_of_ble_eq_true rfl) (Nat.le_of_ble_eq_true rfl) ?_
  refine c_put (w := .ref 49) (cc := (6, 4, [.int 16, .int 5, .ref 49, .int 0], z0, zn)) dR_init_34 fuR_24 ⟨_, _, _, _, rfl, rfl, rfl, rfl⟩ hc_6 (Nat.le_of_ble_eq_true rfl) rfl (Nat.le_of_ble_eq_true rfl) rfl rfl ?_
  refine c_aload (i := 0) dR_init_37 rfl ?_
  refine c_iconst (x := 0) dR_init_38 rfl ?_
  refine c_put (w := .int 0) (cc := (6, 4, [.int 16, .int 5, .ref 49, .int 0], z0, zn)) dR_init_39 fuR_28 ⟨_, _, _, _, rfl, rfl, rfl, rfl⟩ hc_6 (Nat.le_of_ble_eq_true rfl) rfl (Nat.le_of_ble_eq_true rfl) rfl rfl ?_
  exact c_ret dR_init_42 rfl rfl
def pf_25 (F : CF) : CF := wr F [(50, (6, 4, df_6, z0, zn)), (50, (6, 4, [.int 150, .int 0, .null, .int 0], z0, zn)), (50, (6, 4, [.int 150, .int 4, .null, .int 0], z0, zn)), (51, (20, 600, [], z0, zn)), (50, (6, 4, [.int 150, .int 4, .ref 51, .int 0], z0, zn)), (50, (6, 4, [.int 150, .int 4, .ref 51, .int 0], z0, zn))]
set_option maxRecDepth 40000 in
theorem kx_25 (G : GG) (d : Nat) (F : CF) : Kc G tR_init d 1 600 [.ref (gB G + 50), .int 150, .int 4] 51 (sF F 50 (6, 4, df_6, z0, zn)) 52 (pf_25 F) := by
  refine K_of_Vc (by decide) rfl (by simp [cat_i, cat_r]) (by simp [tR_init]) ?_
  refine c_aload (i := 0) dR_init_0 rfl ?_
  refine c_obj dR_init_1 mlR_3 (Nat.le_of_ble_eq_true rfl) ?_
  refine c_aload (i := 0) dR_init_4 rfl ?_
  refine c_iload (i := 1) dR_init_5 rfl ?_
  refine c_iconst (x := 0) dR_init_6 rfl ?_
  refine c_mmax (z := 150) dR_init_7 mlR_9 rfl (Nat.le_of_ble_eq_true rfl) (Nat.le_of_ble_eq_true rfl) (Nat.le_of_ble_eq_true rfl) ?_
  refine c_put (w := .int 150) (cc := (6, 4, [.int 150, .int 0, .null, .int 0], z0, zn)) dR_init_10 fuR_15 ⟨_, _, _, _, rfl, rfl, rfl, rfl⟩ hc_6 (Nat.le_of_ble_eq_true rfl) rfl (Nat.le_of_ble_eq_true rfl) rfl rfl ?_
  refine c_aload (i := 0) dR_init_13 rfl ?_
  refine c_iload (i := 2) dR_init_14 rfl ?_
  refine c_iconst (x := 1) dR_init_15 rfl ?_
  refine c_mmax (z := 4) dR_init_16 mlR_9 rfl (Nat.le_of_ble_eq_true rfl) (Nat.le_of_ble_eq_true rfl) (Nat.le_of_ble_eq_true rfl) ?_
  refine c_put (w := .int 4) (cc := (6, 4, [.int 150, .int 4, .null, .int 0], z0, zn)) dR_init_19 fuR_21 ⟨_, _, _, _, rfl, rfl, rfl, rfl⟩ hc_6 (Nat.le_of_ble_eq_true rfl) rfl (Nat.le_of_ble_eq_true rfl) rfl rfl ?_
  refine c_aload (i := 0) dR_init_22 rfl ?_
  refine c_aload (i := 0) dR_init_23 rfl ?_
  refine c_get (w := .int 150) (w' := .int 150) dR_init_24 fuR_15 (Nat.le_of_ble_eq_true rfl) rfl rfl rfl ?_
  refine c_aload (i := 0) dR_init_27 rfl ?_
  refine c_get (w := .int 4) (w' := .int 4) dR_init_28 fuR_21 (Nat.le_of_ble_eq_true rfl) rfl rfl rfl ?_
  refine c_imul (z := 600) dR_init_31 rfl ?_
  refine c_newi (N := 600) dR_init_32 ar_i (by decide) rfl (by decide) (Nat.le_of_ble_eq_true rfl) (Nat.le_of_ble_eq_true rfl) ?_
  refine c_put (w := .ref 51) (cc := (6, 4, [.int 150, .int 4, .ref 51, .int 0], z0, zn)) dR_init_34 fuR_24 ⟨_, _, _, _, rfl, rfl, rfl, rfl⟩ hc_6 (Nat.le_of_ble_eq_true rfl) rfl (Nat.le_of_ble_eq_true rfl) rfl rfl ?_
  refine c_aload (i := 0) dR_init_37 rfl ?_
  refine c_iconst (x := 0) dR_init_38 rfl ?_
  refine c_put (w := .int 0) (cc := (6, 4, [.int 150, .int 4, .ref 51, .int 0], z0, zn)) dR_init_39 fuR_28 ⟨_, _, _, _, rfl, rfl, rfl, rfl⟩ hc_6 (Nat.le_of_ble_eq_true rfl) rfl (Nat.le_of_ble_eq_true rfl) rfl rfl ?_
  exact c_ret dR_init_42 rfl rfl
def pf_26 (F : CF) : CF := wr F [(52, (6, 4, df_6, z0, zn)), (52, (6, 4, [.int 9, .int 0, .null, .int 0], z0, zn)), (52, (6, 4, [.int 9, .int 1, .null, .int 0], z0, zn)), (53, (20, 9, [], z0, zn)), (52, (6, 4, [.int 9, .int 1, .ref 53, .int 0], z0, zn)), (52, (6, 4, [.int 9, .int 1, .ref 53, .int 0], z0, zn))]
set_option maxRecDepth 40000 in
theorem kx_26 (G : GG) (d : Nat) (F : CF) : Kc G tR_init d 1 9 [.ref (gB G + 52), .int 9, .int 1] 53 (sF F 52 (6, 4, df_6, z0, zn)) 54 (pf_26 F) := by
  refine K_of_Vc (by decide) rfl (by simp [cat_i, cat_r]) (by simp [tR_init]) ?_
  refine c_aload (i := 0) dR_init_0 rfl ?_
  refine c_obj dR_init_1 mlR_3 (Nat.le_of_ble_eq_true rfl) ?_
  refine c_aload (i := 0) dR_init_4 rfl ?_
  refine c_iload (i := 1) dR_init_5 rfl ?_
  refine c_iconst (x := 0) dR_init_6 rfl ?_
  refine c_mmax (z := 9) dR_init_7 mlR_9 rfl (Nat.le_of_ble_eq_true rfl) (Nat.le_of_ble_eq_true rfl) (Nat.le_of_ble_eq_true rfl) ?_
  refine c_put (w := .int 9) (cc := (6, 4, [.int 9, .int 0, .null, .int 0], z0, zn)) dR_init_10 fuR_15 ⟨_, _, _, _, rfl, rfl, rfl, rfl⟩ hc_6 (Nat.le_of_ble_eq_true rfl) rfl (Nat.le_of_ble_eq_true rfl) rfl rfl ?_
  refine c_aload (i := 0) dR_init_13 rfl ?_
  refine c_iload (i := 2) dR_init_14 rfl ?_
  refine c_iconst (x := 1) dR_init_15 rfl ?_
  refine c_mmax (z := 1) dR_init_16 mlR_9 rfl (Nat.le_of_ble_eq_true rfl) (Nat.le_of_ble_eq_true rfl) (Nat.le_of_ble_eq_true rfl) ?_
  refine c_put (w := .int 1) (cc := (6, 4, [.int 9, .int 1, .null, .int 0], z0, zn)) dR_init_19 fuR_21 ⟨_, _, _, _, rfl, rfl, rfl, rfl⟩ hc_6 (Nat.le_of_ble_eq_true rfl) rfl (Nat.le_of_ble_eq_true rfl) rfl rfl ?_
  refine c_aload (i := 0) dR_init_22 rfl ?_
  refine c_aload (i := 0) dR_init_23 rfl ?_
  refine c_get (w := .int 9) (w' := .int 9) dR_init_24 fuR_15 (Nat.le_of_ble_eq_true rfl) rfl rfl rfl ?_
  refine c_aload (i := 0) dR_init_27 rfl ?_
  refine c_get (w := .int 1) (w' := .int 1) dR_init_28 fuR_21 (Nat.le_of_ble_eq_true rfl) rfl rfl rfl ?_
  refine c_imul (z := 9) dR_init_31 rfl ?_
  refine c_newi (N := 9) dR_init_32 ar_i (by decide) rfl (by decide) (Nat.le_of_ble_eq_true rfl) (Nat.le_of_ble_eq_true rfl) ?_
  refine c_put (w := .ref 53) (cc := (6, 4, [.int 9, .int 1, .ref 53, .int 0], z0, zn)) dR_init_34 fuR_24 ⟨_, _, _, _, rfl, rfl, rfl, rfl⟩ hc_6 (Nat.le_of_ble_eq_true rfl) rfl (Nat.le_of_ble_eq_true rfl) rfl rfl ?_
  refine c_aload (i := 0) dR_init_37 rfl ?_
  refine c_iconst (x := 0) dR_init_38 rfl ?_
  refine c_put (w := .int 0) (cc := (6, 4, [.int 9, .int 1, .ref 53, .int 0], z0, zn)) dR_init_39 fuR_28 ⟨_, _, _, _, rfl, rfl, rfl, rfl⟩ hc_6 (Nat.le_of_ble_eq_true rfl) rfl (Nat.le_of_ble_eq_true rfl) rfl rfl ?_
  exact c_ret dR_init_42 rfl rfl
def pf_27 (F : CF) : CF := wr F [(54, (6, 4, df_6, z0, zn)), (54, (6, 4, [.int 8, .int 0, .null, .int 0], z0, zn)), (54, (6, 4, [.int 8, .int 1, .null, .int 0], z0, zn)), (55, (20, 8, [], z0, zn)), (54, (6, 4, [.int 8, .int 1, .ref 55, .int 0], z0, zn)), (54, (6, 4, [.int 8, .int 1, .ref 55, .int 0], z0, zn))]
set_option maxRecDepth 40000 in
theorem kx_27 (G : GG) (d : Nat) (F : CF) : Kc G tR_init d 1 8 [.ref (gB G + 54), .int 8, .int 1] 55 (sF F 54 (6, 4, df_6, z0, zn)) 56 (pf_27 F) := by
  refine K_of_Vc (by decide) rfl (by simp [cat_i, cat_r]) (by simp [tR_init]) ?_
  refine c_aload (i := 0) dR_init_0 rfl ?_
  refine c_obj dR_init_1 mlR_3 (Nat.le_of_ble_eq_true rfl) ?_
  refine c_aload (i := 0) dR_init_4 rfl ?_
  refine c_iload (i := 1) dR_init_5 rfl ?_
  refine c_iconst (x := 0) dR_init_6 rfl ?_
  refine c_mmax (z := 8) dR_init_7 mlR_9 rfl (Nat.le_of_ble_eq_true rfl) (Nat.le_of_ble_eq_true rfl) (Nat.le_of_ble_eq_true rfl) ?_
  refine c_put (w := .int 8) (cc := (6, 4, [.int 8, .int 0, .null, .int 0], z0, zn)) dR_init_10 fuR_15 ⟨_, _, _, _, rfl, rfl, rfl, rfl⟩ hc_6 (Nat.le_of_ble_eq_true rfl) rfl (Nat.le_of_ble_eq_true rfl) rfl rfl ?_
  refine c_aload (i := 0) dR_init_13 rfl ?_
  refine c_iload (i := 2) dR_init_14 rfl ?_
  refine c_iconst (x := 1) dR_init_15 rfl ?_
  refine c_mmax (z := 1) dR_init_16 mlR_9 rfl (Nat.le_of_ble_eq_true rfl) (Nat.le_of_ble_eq_true rfl) (Nat.le_of_ble_eq_true rfl) ?_
  refine c_put (w := .int 1) (cc := (6, 4, [.int 8, .int 1, .null, .int 0], z0, zn)) dR_init_19 fuR_21 ⟨_, _, _, _, rfl, rfl, rfl, rfl⟩ hc_6 (Nat.le_of_ble_eq_true rfl) rfl (Nat.le_of_ble_eq_true rfl) rfl rfl ?_
  refine c_aload (i := 0) dR_init_22 rfl ?_
  refine c_aload (i := 0) dR_init_23 rfl ?_
  refine c_get (w := .int 8) (w' := .int 8) dR_init_24 fuR_15 (Nat.le_of_ble_eq_true rfl) rfl rfl rfl ?_
  refine c_aload (i := 0) dR_init_27 rfl ?_
  refine c_get (w := .int 1) (w' := .int 1) dR_init_28 fuR_21 (Nat.le_of_ble_eq_true rfl) rfl rfl rfl ?_
  refine c_imul (z := 8) dR_init_31 rfl ?_
  refine c_newi (N := 8) dR_init_32 ar_i (by decide) rfl (by decide) (Nat.le_of_ble_eq_true rfl) (Nat.le_of_ble_eq_true rfl) ?_
  refine c_put (w := .ref 55) (cc := (6, 4, [.int 8, .int 1, .ref 55, .int 0], z0, zn)) dR_init_34 fuR_24 ⟨_, _, _, _, rfl, rfl, rfl, rfl⟩ hc_6 (Nat.le_of_ble_eq_true rfl) rfl (Nat.le_of_ble_eq_true rfl) rfl rfl ?_
  refine c_aload (i := 0) dR_init_37 rfl ?_
  refine c_iconst (x := 0) dR_init_38 rfl ?_
  refine c_put (w := .int 0) (cc := (6, 4, [.int 8, .int 1, .ref 55, .int 0], z0, zn)) dR_init_39 fuR_28 ⟨_, _, _, _, rfl, rfl, rfl, rfl⟩ hc_6 (Nat.le_of_ble_eq_true rfl) rfl (Nat.le_of_ble_eq_true rfl) rfl rfl ?_
  exact c_ret dR_init_42 rfl rfl
def pf_28 (F : CF) : CF := wr F [(56, (6, 4, df_6, z0, zn)), (56, (6, 4, [.int 5, .int 0, .null, .int 0], z0, zn)), (56, (6, 4, [.int 5, .int 1, .null, .int 0], z0, zn)), (57, (20, 5, [], z0, zn)), (56, (6, 4, [.int 5, .int 1, .ref 57, .int 0], z0, zn)), (56, (6, 4, [.int 5, .int 1, .ref 57, .int 0], z0, zn))]
set_option maxRecDepth 40000 in
theorem kx_28 (G : GG) (d : Nat) (F : CF) : Kc G tR_init d 1 5 [.ref (gB G + 56), .int 5, .int 1] 57 (sF F 56 (6, 4, df_6, z0, zn)) 58 (pf_28 F) := by
  refine K_of_Vc (by decide) rfl (by simp [cat_i, cat_r]) (by simp [tR_init]) ?_
  refine c_aload (i := 0) dR_init_0 rfl ?_
  refine c_obj dR_init_1 mlR_3 (Nat.le_of_ble_eq_true rfl) ?_
  refine c_aload (i := 0) dR_init_4 rfl ?_
  refine c_iload (i := 1) dR_init_5 rfl ?_
  refine c_iconst (x := 0) dR_init_6 rfl ?_
  refine c_mmax (z := 5) dR_init_7 mlR_9 rfl (Nat.le_of_ble_eq_true rfl) (Nat.le_of_ble_eq_true rfl) (Nat.le_of_ble_eq_true rfl) ?_
  refine c_put (w := .int 5) (cc := (6, 4, [.int 5, .int 0, .null, .int 0], z0, zn)) dR_init_10 fuR_15 ⟨_, _, _, _, rfl, rfl, rfl, rfl⟩ hc_6 (Nat.le_of_ble_eq_true rfl) rfl (Nat.le_of_ble_eq_true rfl) rfl rfl ?_
  refine c_aload (i := 0) dR_init_13 rfl ?_
  refine c_iload (i := 2) dR_init_14 rfl ?_
  refine c_iconst (x := 1) dR_init_15 rfl ?_
  refine c_mmax (z := 1) dR_init_16 mlR_9 rfl (Nat.le_of_ble_eq_true rfl) (Nat.le_of_ble_eq_true rfl) (Nat.le_of_ble_eq_true rfl) ?_
  refine c_put (w := .int 1) (cc := (6, 4, [.int 5, .int 1, .null, .int 0], z0, zn)) dR_init_19 fuR_21 ⟨_, _, _, _, rfl, rfl, rfl, rfl⟩ hc_6 (Nat.le_of_ble_eq_true rfl) rfl (Nat.le_of_ble_eq_true rfl) rfl rfl ?_
  refine c_aload (i := 0) dR_init_22 rfl ?_
  refine c_aload (i := 0) dR_init_23 rfl ?_
  refine c_get (w := .int 5) (w' := .int 5) dR_init_24 fuR_15 (Nat.le_of_ble_eq_true rfl) rfl rfl rfl ?_
  refine c_aload (i := 0) dR_init_27 rfl ?_
  refine c_get (w := .int 1) (w' := .int 1) dR_init_28 fuR_21 (Nat.le_of_ble_eq_true rfl) rfl rfl rfl ?_
  refine c_imul (z := 5) dR_init_31 rfl ?_
  refine c_newi (N := 5) dR_init_32 ar_i (by decide) rfl (by decide) (Nat.le_of_ble_eq_true rfl) (Nat.le_of_ble_eq_true rfl) ?_
  refine c_put (w := .ref 57) (cc := (6, 4, [.int 5, .int 1, .ref 57, .int 0], z0, zn)) dR_init_34 fuR_24 ⟨_, _, _, _, rfl, rfl, rfl, rfl⟩ hc_6 (Nat.le_of_ble_eq_true rfl) rfl (Nat.le_of_ble_eq_true rfl) rfl rfl ?_
  refine c_aload (i := 0) dR_init_37 rfl ?_
  refine c_iconst (x := 0) dR_init_38 rfl ?_
  refine c_put (w := .int 0) (cc := (6, 4, [.int 5, .int 1, .ref 57, .int 0], z0, zn)) dR_init_39 fuR_28 ⟨_, _, _, _, rfl, rfl, rfl, rfl⟩ hc_6 (Nat.le_of_ble_eq_true rfl) rfl (Nat.le_of_ble_eq_true rfl) rfl rfl ?_
  exact c_ret dR_init_42 rfl rfl
def pf_29 (F : CF) : CF := wr F [(58, (6, 4, df_6, z0, zn)), (58, (6, 4, [.int 8, .int 0, .null, .int 0], z0, zn)), (58, (6, 4, [.int 8, .int 2, .null, .int 0], z0, zn)), (59, (20, 16, [], z0, zn)), (58, (6, 4, [.int 8, .int 2, .ref 59, .int 0], z0, zn)), (58, (6, 4, [.int 8, .int 2, .ref 59, .int 0], z0, zn))]
set_option maxRecDepth 40000 in
theorem kx_29 (G : GG) (d : Nat) (F : CF) : Kc G tR_init d 1 16 [.ref (gB G + 58), .int 8, .int 2] 59 (sF F 58 (6, 4, df_6, z0, zn)) 60 (pf_29 F) := by
  refine K_of_Vc (by decide) rfl (by simp [cat_i, cat_r]) (by simp [tR_init]) ?_
  refine c_aload (i := 0) dR_init_0 rfl ?_
  refine c_obj dR_init_1 mlR_3 (Nat.le_of_ble_eq_true rfl) ?_
  refine c_aload (i := 0) dR_init_4 rfl ?_
  refine c_iload (i := 1) dR_init_5 rfl ?_
  refine c_iconst (x := 0) dR_init_6 rfl ?_
  refine c_mmax (z := 8) dR_init_7 mlR_9 rfl (Nat.le_of_ble_eq_true rfl) (Nat.le_of_ble_eq_true rfl) (Nat.le_of_ble_eq_true rfl) ?_
  refine c_put (w := .int 8) (cc := (6, 4, [.int 8, .int 0, .null, .int 0], z0, zn)) dR_init_10 fuR_15 ⟨_, _, _, _, rfl, rfl, rfl, rfl⟩ hc_6 (Nat.le_of_ble_eq_true rfl) rfl (Nat.le_of_ble_eq_true rfl) rfl rfl ?_
  refine c_aload (i := 0) dR_init_13 rfl ?_
  refine c_iload (i := 2) dR_init_14 rfl ?_
  refine c_iconst (x := 1) dR_init_15 rfl ?_
  refine c_mmax (z := 2) dR_init_16 mlR_9 rfl (Nat.le_of_ble_eq_true rfl) (Nat.le_of_ble_eq_true rfl) (Nat.le_of_ble_eq_true rfl) ?_
  refine c_put (w := .int 2) (cc := (6, 4, [.int 8, .int 2, .null, .int 0], z0, zn)) dR_init_19 fuR_21 ⟨_, _, _, _, rfl, rfl, rfl, rfl⟩ hc_6 (Nat.le_of_ble_eq_true rfl) rfl (Nat.le_of_ble_eq_true rfl) rfl rfl ?_
  refine c_aload (i := 0) dR_init_22 rfl ?_
  refine c_aload (i := 0) dR_init_23 rfl ?_
  refine c_get (w := .int 8) (w' := .int 8) dR_init_24 fuR_15 (Nat.le_of_ble_eq_true rfl) rfl rfl rfl ?_
  refine c_aload (i := 0) dR_init_27 rfl ?_
  refine c_get (w := .int 2) (w' := .int 2) dR_init_28 fuR_21 (Nat.le_of_ble_eq_true rfl) rfl rfl rfl ?_
  refine c_imul (z := 16) dR_init_31 rfl ?_
  refine c_newi (N := 16) dR_init_32 ar_i (by decide) rfl (by decide) (Nat.le_of_ble_eq_true rfl) (Nat.le_of_ble_eq_true rfl) ?_
  refine c_put (w := .ref 59) (cc := (6, 4, [.int 8, .int 2, .ref 59, .int 0], z0, zn)) dR_init_34 fuR_24 ⟨_, _, _, _, rfl, rfl, rfl, rfl⟩ hc_6 (Nat.le_of_ble_eq_true rfl) rfl (Nat.le_of_ble_eq_true rfl) rfl rfl ?_
  refine c_aload (i := 0) dR_init_37 rfl ?_
  refine c_iconst (x := 0) dR_init_38 rfl ?_
  refine c_put (w := .int 0) (cc := (6, 4, [.int 8, .int 2, .ref 59, .int 0], z0, zn)) dR_init_39 fuR_28 ⟨_, _, _, _, rfl, rfl, rfl, rfl⟩ hc_6 (Nat.le_of_ble_eq_true rfl) rfl (Nat.le_of_ble_eq_true rfl) rfl rfl ?_
  exact c_ret dR_init_42 rfl rfl
def pf_30 (F : CF) : CF := wr F [(60, (6, 4, df_6, z0, zn)), (60, (6, 4, [.int 16, .int 0, .null, .int 0], z0, zn)), (60, (6, 4, [.int 16, .int 1, .null, .int 0], z0, zn)), (61, (20, 16, [], z0, zn)), (60, (6, 4, [.int 16, .int 1, .ref 61, .int 0], z0, zn)), (60, (6, 4, [.int 16, .int 1, .ref 61, .int 0], z0, zn))]
set_option maxRecDepth 40000 in
theorem kx_30 (G : GG) (d : Nat) (F : CF) : Kc G tR_init d 1 16 [.ref (gB G + 60), .int 16, .int 1] 61 (sF F 60 (6, 4, df_6, z0, zn)) 62 (pf_30 F) := by
  refine K_of_Vc (by decide) rfl (by simp [cat_i, cat_r]) (by simp [tR_init]) ?_
  refine c_aload (i := 0) dR_init_0 rfl ?_
  refine c_obj dR_init_1 mlR_3 (Nat.le_of_ble_eq_true rfl) ?_
  refine c_aload (i := 0) dR_init_4 rfl ?_
  refine c_iload (i := 1) dR_init_5 rfl ?_
  refine c_iconst (x := 0) dR_init_6 rfl ?_
  refine c_mmax (z := 16) dR_init_7 mlR_9 rfl (Nat.le_of_ble_eq_true rfl) (Nat.le_of_ble_eq_true rfl) (Nat.le_of_ble_eq_true rfl) ?_
  refine c_put (w := .int 16) (cc := (6, 4, [.int 16, .int 0, .null, .int 0], z0, zn)) dR_init_10 fuR_15 ⟨_, _, _, _, rfl, rfl, rfl, rfl⟩ hc_6 (Nat.le_of_ble_eq_true rfl) rfl (Nat.le_of_ble_eq_true rfl) rfl rfl ?_
  refine c_aload (i := 0) dR_init_13 rfl ?_
  refine c_iload (i := 2) dR_init_14 rfl ?_
  refine c_iconst (x := 1) dR_init_15 rfl ?_
  refine c_mmax (z := 1) dR_init_16 mlR_9 rfl (Nat.le_of_ble_eq_true rfl) (Nat.le_of_ble_eq_true rfl) (Nat.le_of_ble_eq_true rfl) ?_
  refine c_put (w := .int 1) (cc := (6, 4, [.int 16, .int 1, .null, .int 0], z0, zn)) dR_init_19 fuR_21 ⟨_, _, _, _, rfl, rfl, rfl, rfl⟩ hc_6 (Nat.le_of_ble_eq_true rfl) rfl (Nat.le_of_ble_eq_true rfl) rfl rfl ?_
  refine c_aload (i := 0) dR_init_22 rfl ?_
  refine c_aload (i := 0) dR_init_23 rfl ?_
  refine c_get (w := .int 16) (w' := .int 16) dR_init_24 fuR_15 (Nat.le_of_ble_eq_true rfl) rfl rfl rfl ?_
  refine c_aload (i := 0) dR_init_27 rfl ?_
  refine c_get (w := .int 1) (w' := .int 1) dR_init_28 fuR_21 (Nat.le_of_ble_eq_true rfl) rfl rfl rfl ?_
  refine c_imul (z := 16) dR_init_31 rfl ?_
  refine c_newi (N := 16) dR_init_32 ar_i (by decide) rfl (by decide) (Nat.le_of_ble_eq_true rfl) (Nat.le_of_ble_eq_true rfl) ?_
  refine c_put (w := .ref 61) (cc := (6, 4, [.int 16, .int 1, .ref 61, .int 0], z0, zn)) dR_init_34 fuR_24 ⟨_, _, _, _, rfl, rfl, rfl, rfl⟩ hc_6 (Nat.le_of_ble_eq_true rfl) rfl (Nat.le_of_ble_eq_true rfl) rfl rfl ?_
  refine c_aload (i := 0) dR_init_37 rfl ?_
  refine c_iconst (x := 0) dR_init_38 rfl ?_
  refine c_put (w := .int 0) (cc := (6, 4, [.int 16, .int 1, .ref 61, .int 0], z0, zn)) dR_init_39 fuR_28 ⟨_, _, _, _, rfl, rfl, rfl, rfl⟩ hc_6 (Nat.le_of_ble_eq_true rfl) rfl (Nat.le_of_ble_eq_true rfl) rfl rfl ?_
  exact c_ret dR_init_42 rfl rfl
def pf_31 (F : CF) : CF := wr F [(62, (6, 4, df_6, z0, zn)), (62, (6, 4, [.int 6, .int 0, .null, .int 0], z0, zn)), (62, (6, 4, [.int 6, .int 2, .null, .int 0], z0, zn)), (63, (20, 12, [], z0, zn)), (62, (6, 4, [.int 6, .int 2, .ref 63, .int 0], z0, zn)), (62, (6, 4, [.int 6, .int 2, .ref 63, .int 0], z0, zn))]
set_option maxRecDepth 40000 in
theorem kx_31 (G : GG) (d : Nat) (F : CF) : Kc G tR_init d 1 12 [.ref (gB G + 62), .int 6, .int 2] 63 (sF F 62 (6, 4, df_6, z0, zn)) 64 (pf_31 F) := by
  refine K_of_Vc (by decide) rfl (by simp [cat_i, cat_r]) (by simp [tR_init]) ?_
  refine c_aload (i := 0) dR_init_0 rfl ?_
  refine c_obj dR_init_1 mlR_3 (Nat.le_of_ble_eq_true rfl) ?_
  refine c_aload (i := 0) dR_init_4 rfl ?_
  refine c_iload (i := 1) dR_init_5 rfl ?_
  refine c_iconst (x := 0) dR_init_6 rfl ?_
  refine c_mmax (z := 6) dR_init_7 mlR_9 rfl (Nat.le_of_ble_eq_true rfl) (Nat.le_of_ble_eq_true rfl) (Nat.le_of_ble_eq_true rfl) ?_
  refine c_put (w := .int 6) (cc := (6, 4, [.int 6, .int 0, .null, .int 0], z0, zn)) dR_init_10 fuR_15 ⟨_, _, _, _, rfl, rfl, rfl, rfl⟩ hc_6 (Nat.le_of_ble_eq_true rfl) rfl (Nat.le_of_ble_eq_true rfl) rfl rfl ?_
  refine c_aload (i := 0) dR_init_13 rfl ?_
  refine c_iload (i := 2) dR_init_14 rfl ?_
  refine c_iconst (x := 1) dR_init_15 rfl ?_
  refine c_mmax (z := 2) dR_init_16 mlR_9 rfl (Nat.le_of_ble_eq_true rfl) (Nat.le_of_ble_eq_true rfl) (Nat.le_of_ble_eq_true rfl) ?_
  refine c_put (w := .int 2) (cc := (6, 4, [.int 6, .int 2, .null, .int 0], z0, zn)) dR_init_19 fuR_21 ⟨_, _, _, _, rfl, rfl, rfl, rfl⟩ hc_6 (Nat.le_of_ble_eq_true rfl) rfl (Nat.le_of_ble_eq_true rfl) rfl rfl ?_
  refine c_aload (i := 0) dR_init_22 rfl ?_
  refine c_aload (i := 0) dR_init_23 rfl ?_
  refine c_get (w := .int 6) (w' := .int 6) dR_init_24 fuR_15 (Nat.le_of_ble_eq_true rfl) rfl rfl rfl ?_
  refine c_aload (i := 0) dR_init_27 rfl ?_
  refine c_get (w := .int 2) (w' := .int 2) dR_init_28 fuR_21 (Nat.le_of_ble_eq_true rfl) rfl rfl rfl ?_
  refine c_imul (z := 12) dR_init_31 rfl ?_
  refine c_newi (N := 12) dR_init_32 ar_i (by decide) rfl (by decide) (Nat.le_of_ble_eq_true rfl) (Nat.le_of_ble_eq_true rfl) ?_
  refine c_put (w := .ref 63) (cc := (6, 4, [.int 6, .int 2, .ref 63, .int 0], z0, zn)) dR_init_34 fuR_24 ⟨_, _, _, _, rfl, rfl, rfl, rfl⟩ hc_6 (Nat.le_of_ble_eq_true rfl) rfl (Nat.le_of_ble_eq_true rfl) rfl rfl ?_
  refine c_aload (i := 0) dR_init_37 rfl ?_
  refine c_iconst (x := 0) dR_init_38 rfl ?_
  refine c_put (w := .int 0) (cc := (6, 4, [.int 6, .int 2, .ref 63, .int 0], z0, zn)) dR_init_39 fuR_28 ⟨_, _, _, _, rfl, rfl, rfl, rfl⟩ hc_6 (Nat.le_of_ble_eq_true rfl) rfl (Nat.le_of_ble_eq_true rfl) rfl rfl ?_
  exact c_ret dR_init_42 rfl rfl
def pf_32 (F : CF) : CF := wr F [(64, (6, 4, df_6, z0, zn)), (64, (6, 4, [.int 12, .int 0, .null, .int 0], z0, zn)), (64, (6, 4, [.int 12, .int 2, .null, .int 0], z0, zn)), (65, (20, 24, [], z0, zn)), (64, (6, 4, [.int 12, .int 2, .ref 65, .int 0], z0, zn)), (64, (6, 4, [.int 12, .int 2, .ref 65, .int 0], z0, zn))]
set_option maxRecDepth 40000 in
theorem kx_32 (G : GG) (d : Nat) (F : CF) : Kc G tR_init d 1 24 [.ref (gB G + 64), .int 12, .int 2] 65 (sF F 64 (6, 4, df_6, z0, zn)) 66 (pf_32 F) := by
  refine K_of_Vc (by decide) rfl (by simp [cat_i, cat_r]) (by simp [tR_init]) ?_
  refine c_aload (i := 0) dR_init_0 rfl ?_
  refine c_obj dR_init_1 mlR_3 (Nat.le_of_ble_eq_true rfl) ?_
  refine c_aload (i := 0) dR_init_4 rfl ?_
  refine c_iload (i := 1) dR_init_5 rfl ?_
  refine c_iconst (x := 0) dR_init_6 rfl ?_
  refine c_mmax (z := 12) dR_init_7 mlR_9 rfl (Nat.le_of_ble_eq_true rfl) (Nat.le_of_ble_eq_true rfl) (Nat.le_of_ble_eq_true rfl) ?_
  refine c_put (w := .int 12) (cc := (6, 4, [.int 12, .int 0, .null, .int 0], z0, zn)) dR_init_10 fuR_15 ⟨_, _, _, _, rfl, rfl, rfl, rfl⟩ hc_6 (Nat.le_of_ble_eq_true rfl) rfl (Nat.le_of_ble_eq_true rfl) rfl rfl ?_
  refine c_aload (i := 0) dR_init_13 rfl ?_
  refine c_iload (i := 2) dR_init_14 rfl ?_
  refine c_iconst (x := 1) dR_init_15 rfl ?_
  refine c_mmax (z := 2) dR_init_16 mlR_9 rfl (Nat.le_of_ble_eq_true rfl) (Nat.le_of_ble_eq_true rfl) (Nat.le_of_ble_eq_true rfl) ?_
  refine c_put (w := .int 2) (cc := (6, 4, [.int 12, .int 2, .null, .int 0], z0, zn)) dR_init_19 fuR_21 ⟨_, _, _, _, rfl, rfl, rfl, rfl⟩ hc_6 (Nat.le_of_ble_eq_true rfl) rfl (Nat.le_of_ble_eq_true rfl) rfl rfl ?_
  refine c_aload (i := 0) dR_init_22 rfl ?_
  refine c_aload (i := 0) dR_init_23 rfl ?_
  refine c_get (w := .int 12) (w' := .int 12) dR_init_24 fuR_15 (Nat.le_of_ble_eq_true rfl) rfl rfl rfl ?_
  refine c_aload (i := 0) dR_init_27 rfl ?_
  refine c_get (w := .int 2) (w' := .int 2) dR_init_28 fuR_21 (Nat.le_of_ble_eq_true rfl) rfl rfl rfl ?_
  refine c_imul (z := 24) dR_init_31 rfl ?_
  refine c_newi (N := 24) dR_init_32 ar_i (by decide) rfl (by decide) (Nat.le_of_ble_eq_true rfl) (Nat.le_of_ble_eq_true rfl) ?_
  refine c_put (w := .ref 65) (cc := (6, 4, [.int 12, .int 2, .ref 65, .int 0], z0, zn)) dR_init_34 fuR_24 ⟨_, _, _, _, rfl, rfl, rfl, rfl⟩ hc_6 (Nat.le_of_ble_eq_true rfl) rfl (Nat.le_of_ble_eq_true rfl) rfl rfl ?_
  refine c_aload (i := 0) dR_init_37 rfl ?_
  refine c_iconst (x := 0) dR_init_38 rfl ?_
  refine c_put (w := .int 0) (cc := (6, 4, [.int 12, .int 2, .ref 65, .int 0], z0, zn)) dR_init_39 fuR_28 ⟨_, _, _, _, rfl, rfl, rfl, rfl⟩ hc_6 (Nat.le_of_ble_eq_true rfl) rfl (Nat.le_of_ble_eq_true rfl) rfl rfl ?_
  exact c_ret dR_init_42 rfl rfl
def pf_33 (F : CF) : CF := wr F [(66, (6, 4, df_6, z0, zn)), (66, (6, 4, [.int 8, .int 0, .null, .int 0], z0, zn)), (66, (6, 4, [.int 8, .int 2, .null, .int 0], z0, zn)), (67, (20, 16, [], z0, zn)), (66, (6, 4, [.int 8, .int 2, .ref 67, .int 0], z0, zn)), (66, (6, 4, [.int 8, .int 2, .ref 67, .int 0], z0, zn))]
set_option maxRecDepth 40000 in
theorem kx_33 (G : GG) (d : Nat) (F : CF) : Kc G tR_init d 1 16 [.ref (gB G + 66), .int 8, .int 2] 67 (sF F 66 (6, 4, df_6, z0, zn)) 68 (pf_33 F) := by
  refine K_of_Vc (by decide) rfl (by simp [cat_i, cat_r]) (by simp [tR_init]) ?_
  refine c_aload (i := 0) dR_init_0 rfl ?_
  refine c_obj dR_init_1 mlR_3 (Nat.le_of_ble_eq_true rfl) ?_
  refine c_aload (i := 0) dR_init_4 rfl ?_
  refine c_iload (i := 1) dR_init_5 rfl ?_
  refine c_iconst (x := 0) dR_init_6 rfl ?_
  refine c_mmax (z := 8) dR_init_7 mlR_9 rfl (Nat.le_of_ble_eq_true rfl) (Nat.le_of_ble_eq_true rfl) (Nat.le_of_ble_eq_true rfl) ?_
  refine c_put (w := .int 8) (cc := (6, 4, [.int 8, .int 0, .null, .int 0], z0, zn)) dR_init_10 fuR_15 ⟨_, _, _, _, rfl, rfl, rfl, rfl⟩ hc_6 (Nat.le_of_ble_eq_true rfl) rfl (Nat.le_of_ble_eq_true rfl) rfl rfl ?_
  refine c_aload (i := 0) dR_init_13 rfl ?_
  refine c_iload (i := 2) dR_init_14 rfl ?_
  refine c_iconst (x := 1) dR_init_15 rfl ?_
  refine c_mmax (z := 2) dR_init_16 mlR_9 rfl (Nat.le_of_ble_eq_true rfl) (Nat.le_of_ble_eq_true rfl) (Nat.le_of_ble_eq_true rfl) ?_
  refine c_put (w := .int 2) (cc := (6, 4, [.int 8, .int 2, .null, .int 0], z0, zn)) dR_init_19 fuR_21 ⟨_, _, _, _, rfl, rfl, rfl, rfl⟩ hc_6 (Nat.le_of_ble_eq_true rfl) rfl (Nat.le_of_ble_eq_true rfl) rfl rfl ?_
  refine c_aload (i := 0) dR_init_22 rfl ?_
  refine c_aload (i := 0) dR_init_23 rfl ?_
  refine c_get (w := .int 8) (w' := .int 8) dR_init_24 fuR_15 (Nat.le_of_ble_eq_true rfl) rfl rfl rfl ?_
  refine c_aload (i := 0) dR_init_27 rfl ?_
  refine c_get (w := .int 2) (w' := .int 2) dR_init_28 fuR_21 (Nat.le_of_ble_eq_true rfl) rfl rfl rfl ?_
  refine c_imul (z := 16) dR_init_31 rfl ?_
  refine c_newi (N := 16) dR_init_32 ar_i (by decide) rfl (by decide) (Nat.le_of_ble_eq_true rfl) (Nat.le_of_ble_eq_true rfl) ?_
  refine c_put (w := .ref 67) (cc := (6, 4, [.int 8, .int 2, .ref 67, .int 0], z0, zn)) dR_init_34 fuR_24 ⟨_, _, _, _, rfl, rfl, rfl, rfl⟩ hc_6 (Nat.le_of_ble_eq_true rfl) rfl (Nat.le_of_ble_eq_true rfl) rfl rfl ?_
  refine c_aload (i := 0) dR_init_37 rfl ?_
  refine c_iconst (x := 0) dR_init_38 rfl ?_
  refine c_put (w := .int 0) (cc := (6, 4, [.int 8, .int 2, .ref 67, .int 0], z0, zn)) dR_init_39 fuR_28 ⟨_, _, _, _, rfl, rfl, rfl, rfl⟩ hc_6 (Nat.le_of_ble_eq_true rfl) rfl (Nat.le_of_ble_eq_true rfl) rfl rfl ?_
  exact c_ret dR_init_42 rfl rfl
def pf_34 (F : CF) : CF := wr F [(39, (11, 14, df_11, z0, zn)), (40, (6, 4, df_6, z0, zn)), (40, (6, 4, [.int 16, .int 0, .null, .int 0], z0, zn)), (40, (6, 4, [.int 16, .int 5, .null, .int 0], z0, zn)), (41, (20, 80, [], z0, zn)), (40, (6, 4, [.int 16, .int 5, .ref 41, .int 0], z0, zn)), (40, (6, 4, [.int 16, .int 5, .ref 41, .int 0], z0, zn)), (39, (11, 14, [.ref 40, .null, .null, .null, .null, .null, .null, .null, .null, .null, .null, .null, .null, .null], z0, zn)), (42, (6, 4, df_6, z0, zn)), (42, (6, 4, [.int 400, .int 0, .null, .int 0], z0, zn)), (42, (6, 4, [.int 400, .int 2, .null, .int 0], z0, zn)), (43, (20, 800, [], z0, zn)), (42, (6, 4, [.int 400, .int 2, .ref 43, .int 0], z0, zn)), (42, (6, 4, [.int 400, .int 2, .ref 43, .int 0], z0, zn)), (39, (11, 14, [.ref 40, .ref 42, .null, .null, .null, .null, .null, .null, .null, .null, .null, .null, .null, .null], z0, zn)), (44, (6, 4, df_6, z0, zn)), (44, (6, 4, [.int 16, .int 0, .null, .int 0], z0, zn)), (44, (6, 4, [.int 16, .int 5, .null, .int 0], z0, zn)), (45, (20, 80, [], z0, zn)), (44, (6, 4, [.int 16, .int 5, .ref 45, .int 0], z0, zn)), (44, (6, 4, [.int 16, .int 5, .ref 45, .int 0], z0, zn)), (39, (11, 14, [.ref 40, .ref 42, .ref 44, .null, .null, .null, .null, .null, .null, .null, .null, .null, .null, .null], z0, zn)), (46, (6, 4, df_6, z0, zn)), (46, (6, 4, [.int 16, .int 0, .null, .int 0], z0, zn)), (46, (6, 4, [.int 16, .int 5, .null, .int 0], z0, zn)), (47, (20, 80, [], z0, zn)), (46, (6, 4, [.int 16, .int 5, .ref 47, .int 0], z0, zn)), (46, (6, 4, [.int 16, .int 5, .ref 47, .int 0], z0, zn)), (39, (11, 14, [.ref 40, .ref 42, .ref 44, .ref 46, .null, .null, .null, .null, .null, .null, .null, .null, .null, .null], z0, zn)), (48, (6, 4, df_6, z0, zn)), (48, (6, 4, [.int 16, .int 0, .null, .int 0], z0, zn)), (48, (6, 4, [.int 16, .int 5, .null, .int 0], z0, zn)), (49, (20, 80, [], z0, zn)), (48, (6, 4, [.int 16, .int 5, .ref 49, .int 0], z0, zn)), (48, (6, 4, [.int 16, .int 5, .ref 49, .int 0], z0, zn)), (39, (11, 14, [.ref 40, .ref 42, .ref 44, .ref 46, .ref 48, .null, .null, .null, .null, .null, .null, .null, .null, .null], z0, zn)), (50, (6, 4, df_6, z0, zn)), (50, (6, 4, [.int 150, .int 0, .null, .int 0], z0, zn)), (50, (6, 4, [.int 150, .int 4, .null, .int 0], z0, zn)), (51, (20, 600, [], z0, zn)), (50, (6, 4, [.int 150, .int 4, .ref 51, .int 0], z0, zn)), (50, (6, 4, [.int 150, .int 4, .ref 51, .int 0], z0, zn)), (39, (11, 14, [.ref 40, .ref 42, .ref 44, .ref 46, .ref 48, .ref 50, .null, .null, .null, .null, .null, .null, .null, .null], z0, zn)), (52, (6, 4, df_6, z0, zn)), (52, (6, 4, [.int 9, .int 0, .null, .int 0], z0, zn)), (52, (6, 4, [.int 9, .int 1, .null, .int 0], z0, zn)), (53, (20, 9, [], z0, zn)), (52, (6, 4, [.int 9, .int 1, .ref 53, .int 0], z0, zn)), (52, (6, 4, [.int 9, .int 1, .ref 53, .int 0], z0, zn)), (39, (11, 14, [.ref 40, .ref 42, .ref 44, .ref 46, .ref 48, .ref 50, .ref 52, .null, .null, .null, .null, .null, .null, .null], z0, zn)), (54, (6, 4, df_6, z0, zn)), (54, (6, 4, [.int 8, .int 0, .null, .int 0], z0, zn)), (54, (6, 4, [.int 8, .int 1, .null, .int 0], z0, zn)), (55, (20, 8, [], z0, zn)), (54, (6, 4, [.int 8, .int 1, .ref 55, .int 0], z0, zn)), (54, (6, 4, [.int 8, .int 1, .ref 55, .int 0], z0, zn)), (39, (11, 14, [.ref 40, .ref 42, .ref 44, .ref 46, .ref 48, .ref 50, .ref 52, .ref 54, .null, .null, .null, .null, .null, .null], z0, zn)), (56, (6, 4, df_6, z0, zn)), (56, (6, 4, [.int 5, .int 0, .null, .int 0], z0, zn)), (56, (6, 4, [.int 5, .int 1, .null, .int 0], z0, zn)), (57, (20, 5, [], z0, zn)), (56, (6, 4, [.int 5, .int 1, .ref 57, .int 0], z0, zn)), (56, (6, 4, [.int 5, .int 1, .ref 57, .int 0], z0, zn)), (39, (11, 14, [.ref 40, .ref 42, .ref 44, .ref 46, .ref 48, .ref 50, .ref 52, .ref 54, .ref 56, .null, .null, .null, .null, .null], z0, zn)), (58, (6, 4, df_6, z0, zn)), (58, (6, 4, [.int 8, .int 0, .null, .int 0], z0, zn)), (58, (6, 4, [.int 8, .int 2, .null, .int 0], z0, zn)), (59, (20, 16, [], z0, zn)), (58, (6, 4, [.int 8, .int 2, .ref 59, .int 0], z0, zn)), (58, (6, 4, [.int 8, .int 2, .ref 59, .int 0], z0, zn)), (39, (11, 14, [.ref 40, .ref 42, .ref 44, .ref 46, .ref 48, .ref 50, .ref 52, .ref 54, .ref 56, .ref 58, .null, .null, .null, .null], z0, zn)), (60, (6, 4, df_6, z0, zn)), (60, (6, 4, [.int 16, .int 0, .null, .int 0], z0, zn)), (60, (6, 4, [.int 16, .int 1, .null, .int 0], z0, zn)), (61, (20, 16, [], z0, zn)), (60, (6, 4, [.int 16, .int 1, .ref 61, .int 0], z0, zn)), (60, (6, 4, [.int 16, .int 1, .ref 61, .int 0], z0, zn)), (39, (11, 14, [.ref 40, .ref 42, .ref 44, .ref 46, .ref 48, .ref 50, .ref 52, .ref 54, .ref 56, .ref 58, .ref 60, .null, .null, .null], z0, zn)), (62, (6, 4, df_6, z0, zn)), (62, (6, 4, [.int 6, .int 0, .null, .int 0], z0, zn)), (62, (6, 4, [.int 6, .int 2, .null, .int 0], z0, zn)), (63, (20, 12, [], z0, zn)), (62, (6, 4, [.int 6, .int 2, .ref 63, .int 0], z0, zn)), (62, (6, 4, [.int 6, .int 2, .ref 63, .int 0], z0, zn)), (39, (11, 14, [.ref 40, .ref 42, .ref 44, .ref 46, .ref 48, .ref 50, .ref 52, .ref 54, .ref 56, .ref 58, .ref 60, .ref 62, .null, .null], z0, zn)), (64, (6, 4, df_6, z0, zn)), (64, (6, 4, [.int 12, .int 0, .null, .int 0], z0, zn)), (64, (6, 4, [.int 12, .int 2, .null, .int 0], z0, zn)), (65, (20, 24, [], z0, zn)), (64, (6, 4, [.int 12, .int 2, .ref 65, .int 0], z0, zn)), (64, (6, 4, [.int 12, .int 2, .ref 65, .int 0], z0, zn)), (39, (11, 14, [.ref 40, .ref 42, .ref 44, .ref 46, .ref 48, .ref 50, .ref 52, .ref 54, .ref 56, .ref 58, .ref 60, .ref 62, .ref 64, .null], z0, zn)), (66, (6, 4, df_6, z0, zn)), (66, (6, 4, [.int 8, .int 0, .null, .int 0], z0, zn)), (66, (6, 4, [.int 8, .int 2, .null, .int 0], z0, zn)), (67, (20, 16, [], z0, zn)), (66, (6, 4, [.int 8, .int 2, .ref 67, .int 0], z0, zn)), (66, (6, 4, [.int 8, .int 2, .ref 67, .int 0], z0, zn)), (39, (11, 14, [.ref 40, .ref 42, .ref 44, .ref 46, .ref 48, .ref 50, .ref 52, .ref 54, .ref 56, .ref 58, .ref 60, .ref 62, .ref 64, .ref 66], z0, zn))]
set_option maxRecDepth 40000 in
theorem kx_34 (G : GG) (d : Nat) (F : CF) : Kc G tO_init (d + 1) 28 1882 [.ref (gB G + 39)] 40 (sF F 39 (11, 14, df_11, z0, zn)) 68 (pf_34 F) := by
  refine K_of_Vc (by decide) rfl (by simp [cat_i, cat_r]) (by simp [tO_init]) ?_
  refine c_aload (i := 0) dO_init_0 rfl ?_
  refine c_obj dO_init_1 mlO_3 (Nat.le_of_ble_eq_true rfl) ?_
  refine c_aload (i := 0) dO_init_4 rfl ?_
  refine c_new (ci := 6) (ty := ty_6) df_6 dO_init_5 clO_9 in_6 iz_6 rfl ty_ok_6 df_ok_6 rfl (Nat.le_of_ble_eq_true rfl) (Nat.le_of_ble_eq_true rfl) ?_
  refine c_dup dO_init_8 rfl ?_
  refine c_bipush (x := 16) dO_init_9 rfl ?_
  refine c_iconst (x := 5) dO_init_11 rfl ?_
  refine c_call (M' := tR_init) dO_init_12 mlO_11 okiR_init rfl rfl (Nat.le_of_ble_eq_true rfl) (Nat.le_of_ble_eq_true rfl) (Nat.le_of_ble_eq_true rfl) (kx_20 G d _) ?_
  refine c_put (w := .ref 40) (cc := (11, 14, [.ref 40, .null, .null, .null, .null, .null, .null, .null, .null, .null, .null, .null, .null, .null], z0, zn)) dO_init_15 fuO_14 ⟨_, _, _, _, rfl, rfl, rfl, rfl⟩ hc_11 (Nat.le_of_ble_eq_true rfl) rfl (Nat.le_of_ble_eq_true rfl) rfl rfl ?_
  refine c_aload (i := 0) dO_init_18 rfl ?_
  refine c_new (ci := 6) (ty := ty_6) df_6 dO_init_19 clO_9 in_6 iz_6 rfl ty_ok_6 df_ok_6 rfl (Nat.le_of_ble_eq_true rfl) (Nat.le_of_ble_eq_true rfl) ?_
  refine c_dup dO_init_22 rfl ?_
  refine c_sipush (x := 400) dO_init_23 rfl ?_
  refine c_iconst (x := 2) dO_init_26 rfl ?_
  refine c_call (M' := tR_init) dO_init_27 mlO_11 okiR_init rfl rfl (Nat.le_of_ble_eq_true rfl) (Nat.le_of_ble_eq_true rfl) (Nat.le_of_ble_eq_true rfl) (kx_21 G d _) ?_
  refine c_put (w := .ref 42) (cc := (11, 14, [.ref 40, .ref 42, .null, .null, .null, .null, .null, .null, .null, .null, .null, .null, .null, .null], z0, zn)) dO_init_30 fuO_20 ⟨_, _, _, _, rfl, rfl, rfl, rfl⟩ hc_11 (Nat.le_of_ble_eq_true rfl) rfl (Nat.le_of_ble_eq_true rfl) rfl rfl ?_
  refine c_aload (i := 0) dO_init_33 rfl ?_
  refine c_new (ci := 6) (ty := ty_6) df_6 dO_init_34 clO_9 in_6 iz_6 rfl ty_ok_6 df_ok_6 rfl (Nat.le_of_ble_eq_true rfl) (Nat.le_of_ble_eq_true rfl) ?_
  refine c_dup dO_init_37 rfl ?_
  refine c_bipush (x := 16) dO_init_38 rfl ?_
  refine c_iconst (x := 5) dO_init_40 rfl ?_
  refine c_call (M' := tR_init) dO_init_41 mlO_11 okiR_init rfl rfl (Nat.le_of_ble_eq_true rfl) (Nat.le_of_ble_eq_true rfl) (Nat.le_of_ble_eq_true rfl) (kx_22 G d _) ?_
  refine c_put (w := .ref 44) (cc := (11, 14, [.ref 40, .ref 42, .ref 44, .null, .null, .null, .null, .null, .null, .null, .null, .null, .null, .null], z0, zn)) dO_init_44 fuO_23 ⟨_, _, _, _, rfl, rfl, rfl, rfl⟩ hc_11 (Nat.le_of_ble_eq_true rfl) rfl (Nat.le_of_ble_eq_true rfl) rfl rfl ?_
  refine c_aload (i := 0) dO_init_47 rfl ?_
  refine c_new (ci := 6) (ty := ty_6) df_6 dO_init_48 clO_9 in_6 iz_6 rfl ty_ok_6 df_ok_6 rfl (Nat.le_of_ble_eq_true rfl) (Nat.le_of_ble_eq_true rfl) ?_
  refine c_dup dO_init_51 rfl ?_
  refine c_bipush (x := 16) dO_init_52 rfl ?_
  refine c_iconst (x := 5) dO_init_54 rfl ?_
  refine c_call (M' := tR_init) dO_init_55 mlO_11 okiR_init rfl rfl (Nat.le_of_ble_eq_true rfl) (Nat.le_of_ble_eq_true rfl) (Nat.le_of_ble_eq_true rfl) (kx_23 G d _) ?_
  refine c_put (w := .ref 46) (cc := (11, 14, [.ref 40, .ref 42, .ref 44, .ref 46, .null, .null, .null, .null, .null, .null, .null, .null, .null, .null], z0, zn)) dO_init_58 fuO_26 ⟨_, _, _, _, rfl, rfl, rfl, rfl⟩ hc_11 (Nat.le_of_ble_eq_true rfl) rfl (Nat.le_of_ble_eq_true rfl) rfl rfl ?_
  refine c_aload (i := 0) dO_init_61 rfl ?_
  refine c_new (ci := 6) (ty := ty_6) df_6 dO_init_62 clO_9 in_6 iz_6 rfl ty_ok_6 df_ok_6 rfl (Nat.le_of_ble_eq_true rfl) (Nat.le_of_ble_eq_true rfl) ?_
  refine c_dup dO_init_65 rfl ?_
  refine c_bipush (x := 16) dO_init_66 rfl ?_
  refine c_iconst (x := 5) dO_init_68 rfl ?_
  refine c_call (M' := tR_init) dO_init_69 mlO_11 okiR_init rfl rfl (Nat.le_of_ble_eq_true rfl) (Nat.le_of_ble_eq_true rfl) (Nat.le_of_ble_eq_true rfl) (kx_24 G d _) ?_
  refine c_put (w := .ref 48) (cc := (11, 14, [.ref 40, .ref 42, .ref 44, .ref 46, .ref 48, .null, .null, .null, .null, .null, .null, .null, .null, .null], z0, zn)) dO_init_72 fuO_29 ⟨_, _, _, _, rfl, rfl, rfl, rfl⟩ hc_11 (Nat.le_of_ble_eq_true rfl) rfl (Nat.le_of_ble_eq_true rfl) rfl rfl ?_
  refine c_aload (i := 0) dO_init_75 rfl ?_
  refine c_new (ci := 6) (ty := ty_6) df_6 dO_init_76 clO_9 in_6 iz_6 rfl ty_ok_6 df_ok_6 rfl (Nat.le_of_ble_eq_true rfl) (Nat.le_of_ble_eq_true rfl) ?_
  refine c_dup dO_init_79 rfl ?_
  refine c_sipush (x := 150) dO_init_80 rfl ?_
  refine c_iconst (x := 4) dO_init_83 rfl ?_
  refine c_call (M' := tR_init) dO_init_84 mlO_11 okiR_init rfl rfl (Nat.le_of_ble_eq_true rfl) (Nat.le_of_ble_eq_true rfl) (Nat.le_of_ble_eq_true rfl) (kx_25 G d _) ?_
  refine c_put (w := .ref 50) (cc := (11, 14, [.ref 40, .ref 42, .ref 44, .ref 46, .ref 48, .ref 50, .null, .null, .null, .null, .null, .null, .null, .null], z0, zn)) dO_init_87 fuO_32 ⟨_, _, _, _, rfl, rfl, rfl, rfl⟩ hc_11 (Nat.le_of_ble_eq_true rfl) rfl (Nat.le_of_ble_eq_true rfl) rfl rfl ?_
  refine c_aload (i := 0) dO_init_90 rfl ?_
  refine c_new (ci := 6) (ty := ty_6) df_6 dO_init_91 clO_9 in_6 iz_6 rfl ty_ok_6 df_ok_6 rfl (Nat.le_of_ble_eq_true rfl) (Nat.le_of_ble_eq_true rfl) ?_
  refine c_dup dO_init_94 rfl ?_
  refine c_bipush (x := 9) dO_init_95 rfl ?_
  refine c_iconst (x := 1) dO_init_97 rfl ?_
  refine c_call (M' := tR_init) dO_init_98 mlO_11 okiR_init rfl rfl (Nat.le_of_ble_eq_true rfl) (Nat.le_of_ble_eq_true rfl) (Nat.le_of_ble_eq_true rfl) (kx_26 G d _) ?_
  refine c_put (w := .ref 52) (cc := (11, 14, [.ref 40, .ref 42, .ref 44, .ref 46, .ref 48, .ref 50, .ref 52, .null, .null, .null, .null, .null, .null, .null], z0, zn)) dO_init_101 fuO_35 ⟨_, _, _, _, rfl, rfl, rfl, rfl⟩ hc_11 (Nat.le_of_ble_eq_true rfl) rfl (Nat.le_of_ble_eq_true rfl) rfl rfl ?_
  refine c_aload (i := 0) dO_init_104 rfl ?_
  refine c_new (ci := 6) (ty := ty_6) df_6 dO_init_105 clO_9 in_6 iz_6 rfl ty_ok_6 df_ok_6 rfl (Nat.le_of_ble_eq_true rfl) (Nat.le_of_ble_eq_true rfl) ?_
  refine c_dup dO_init_108 rfl ?_
  refine c_bipush (x := 8) dO_init_109 rfl ?_
  refine c_iconst (x := 1) dO_init_111 rfl ?_
  refine c_call (M' := tR_init) dO_init_112 mlO_11 okiR_init rfl rfl (Nat.le_of_ble_eq_true rfl) (Nat.le_of_ble_eq_true rfl) (Nat.le_of_ble_eq_true rfl) (kx_27 G d _) ?_
  refine c_put (w := .ref 54) (cc := (11, 14, [.ref 40, .ref 42, .ref 44, .ref 46, .ref 48, .ref 50, .ref 52, .ref 54, .null, .null, .null, .null, .null, .null], z0, zn)) dO_init_115 fuO_40 ⟨_, _, _, _, rfl, rfl, rfl, rfl⟩ hc_11 (Nat.le_of_ble_eq_true rfl) rfl (Nat.le_of_ble_eq_true rfl) rfl rfl ?_
  refine c_aload (i := 0) dO_init_118 rfl ?_
  refine c_new (ci := 6) (ty := ty_6) df_6 dO_init_119 clO_9 in_6 iz_6 rfl ty_ok_6 df_ok_6 rfl (Nat.le_of_ble_eq_true rfl) (Nat.le_of_ble_eq_true rfl) ?_
  refine c_dup dO_init_122 rfl ?_
  refine c_iconst (x := 5) dO_init_123 rfl ?_
  refine c_iconst (x := 1) dO_init_124 rfl ?_
  refine c_call (M' := tR_init) dO_init_125 mlO_11 okiR_init rfl rfl (Nat.le_of_ble_eq_true rfl) (Nat.le_of_ble_eq_true rfl) (Nat.le_of_ble_eq_true rfl) (kx_28 G d _) ?_
  refine c_put (w := .ref 56) (cc := (11, 14, [.ref 40, .ref 42, .ref 44, .ref 46, .ref 48, .ref 50, .ref 52, .ref 54, .ref 56, .null, .null, .null, .null, .null], z0, zn)) dO_init_128 fuO_43 ⟨_, _, _, _, rfl, rfl, rfl, rfl⟩ hc_11 (Nat.le_of_ble_eq_true rfl) rfl (Nat.le_of_ble_eq_true rfl) rfl rfl ?_
  refine c_aload (i := 0) dO_init_131 rfl ?_
  refine c_new (ci := 6) (ty := ty_6) df_6 dO_init_132 clO_9 in_6 iz_6 rfl ty_ok_6 df_ok_6 rfl (Nat.le_of_ble_eq_true rfl) (Nat.le_of_ble_eq_true rfl) ?_
  refine c_dup dO_init_135 rfl ?_
  refine c_bipush (x := 8) dO_init_136 rfl ?_
  refine c_iconst (x := 2) dO_init_138 rfl ?_
  refine c_call (M' := tR_init) dO_init_139 mlO_11 okiR_init rfl rfl (Nat.le_of_ble_eq_true rfl) (Nat.le_of_ble_eq_true rfl) (Nat.le_of_ble_eq_true rfl) (kx_29 G d _) ?_
  refine c_put (w := .ref 58) (cc := (11, 14, [.ref 40, .ref 42, .ref 44, .ref 46, .ref 48, .ref 50, .ref 52, .ref 54, .ref 56, .ref 58, .null, .null, .null, .null], z0, zn)) dO_init_142 fuO_46 ⟨_, _, _, _, rfl, rfl, rfl, rfl⟩ hc_11 (Nat.le_of_ble_eq_true rfl) rfl (Nat.le_of_ble_eq_true rfl) rfl rfl ?_
  refine c_aload (i := 0) dO_init_145 rfl ?_
  refine c_new (ci := 6) (ty := ty_6) df_6 dO_init_146 clO_9 in_6 iz_6 rfl ty_ok_6 df_ok_6 rfl (Nat.le_of_ble_eq_true rfl) (Nat.le_of_ble_eq_true rfl) ?_
  refine c_dup dO_init_149 rfl ?_
  refine c_bipush (x := 16) dO_init_150 rfl ?_
  refine c_iconst (x := 1) dO_init_152 rfl ?_
  refine c_call (M' := tR_init) dO_init_153 mlO_11 okiR_init rfl rfl (Nat.le_of_ble_eq_true rfl) (Nat.le_of_ble_eq_true rfl) (Nat.le_of_ble_eq_true rfl) (kx_30 G d _) ?_
  refine c_put (w := .ref 60) (cc := (11, 14, [.ref 40, .ref 42, .ref 44, .ref 46, .ref 48, .ref 50, .ref 52, .ref 54, .ref 56, .ref 58, .ref 60, .null, .null, .null], z0, zn)) dO_init_156 fuO_49 ⟨_, _, _, _, rfl, rfl, rfl, rfl⟩ hc_11 (Nat.le_of_ble_eq_true rfl) rfl (Nat.le_of_ble_eq_true rfl) rfl rfl ?_
  refine c_aload (i := 0) dO_init_159 rfl ?_
  refine c_new (ci := 6) (ty := ty_6) df_6 dO_init_160 clO_9 in_6 iz_6 rfl ty_ok_6 df_ok_6 rfl (Nat.le_of_ble_eq_true rfl) (Nat.le_of_ble_eq_true rfl) ?_
  refine c_dup dO_init_163 rfl ?_
  refine c_bipush (x := 6) dO_init_164 rfl ?_
  refine c_iconst (x := 2) dO_init_166 rfl ?_
  refine c_call (M' := tR_init) dO_init_167 mlO_11 okiR_init rfl rfl (Nat.le_of_ble_eq_true rfl) (Nat.le_of_ble_eq_true rfl) (Nat.le_of_ble_eq_true rfl) (kx_31 G d _) ?_
  refine c_put (w := .ref 62) (cc := (11, 14, [.ref 40, .ref 42, .ref 44, .ref 46, .ref 48, .ref 50, .ref 52, .ref 54, .ref 56, .ref 58, .ref 60, .ref 62, .null, .null], z0, zn)) dO_init_170 fuO_52 ⟨_, _, _, _, rfl, rfl, rfl, rfl⟩ hc_11 (Nat.le_of_ble_eq_true rfl) rfl (Nat.le_of_ble_eq_true rfl) rfl rfl ?_
  refine c_aload (i := 0) dO_init_173 rfl ?_
  refine c_new (ci := 6) (ty := ty_6) df_6 dO_init_174 clO_9 in_6 iz_6 rfl ty_ok_6 df_ok_6 rfl (Nat.le_of_ble_eq_true rfl) (Nat.le_of_ble_eq_true rfl) ?_
  refine c_dup dO_init_177 rfl ?_
  refine c_bipush (x := 12) dO_init_178 rfl ?_
  refine c_iconst (x := 2) dO_init_180 rfl ?_
  refine c_call (M' := tR_init) dO_init_181 mlO_11 okiR_init rfl rfl (Nat.le_of_ble_eq_true rfl) (Nat.le_of_ble_eq_true rfl) (Nat.le_of_ble_eq_true rfl) (kx_32 G d _) ?_
  refine c_put (w := .ref 64) (cc := (11, 14, [.ref 40, .ref 42, .ref 44, .ref 46, .ref 48, .ref 50, .ref 52, .ref 54, .ref 56, .ref 58, .ref 60, .ref 62, .ref 64, .null], z0, zn)) dO_init_184 fuO_55 ⟨_, _, _, _, rfl, rfl, rfl, rfl⟩ hc_11 (Nat.le_of_ble_eq_true rfl) rfl (Nat.le_of_ble_eq_true rfl) rfl rfl ?_
  refine c_aload (i := 0) dO_init_187 rfl ?_
  refine c_new (ci := 6) (ty := ty_6) df_6 dO_init_188 clO_9 in_6 iz_6 rfl ty_ok_6 df_ok_6 rfl (Nat.le_of_ble_eq_true rfl) (Nat.le_of_ble_eq_true rfl) ?_
  refine c_dup dO_init_191 rfl ?_
  refine c_bipush (x := 8) dO_init_192 rfl ?_
  refine c_iconst (x := 2) dO_init_194 rfl ?_
  refine c_call (M' := tR_init) dO_init_195 mlO_11 okiR_init rfl rfl (Nat.le_of_ble_eq_true rfl) (Nat.le_of_ble_eq_true rfl) (Nat.le_of_ble_eq_true rfl) (kx_33 G d _) ?_
  refine c_put (w := .ref 66) (cc := (11, 14, [.ref 40, .ref 42, .ref 44, .ref 46, .ref 48, .ref 50, .ref 52, .ref 54, .ref 56, .ref 58, .ref 60, .ref 62, .ref 64, .ref 66], z0, zn)) dO_init_198 fuO_58 ⟨_, _, _, _, rfl, rfl, rfl, rfl⟩ hc_11 (Nat.le_of_ble_eq_true rfl) rfl (Nat.le_of_ble_eq_true rfl) rfl rfl ?_
  exact c_ret dO_init_201 rfl rfl
def pf_35 (F : CF) : CF := wr F [(68, (7, 4, df_7, z0, zn)), (68, (7, 4, [.ref 1, .null, .null, .int 0], z0, zn)), (68, (7, 4, [.ref 1, .ref 5, .null, .int 0], z0, zn)), (68, (7, 4, [.ref 1, .ref 5, .ref 34, .int 0], z0, zn)), (68, (7, 4, [.ref 1, .ref 5, .ref 34, .int 1], z0, zn))]
set_option maxRecDepth 40000 in
theorem kx_35 (G : GG) (d : Nat) (F : CF) : Kc G tS_init d 0 0 [.ref (gB G + 68), .ref (gB G + 1), .ref (gB G + 5), .ref (gB G + 34), .int 1] 69 (sF F 68 (7, 4, df_7, z0, zn)) 69 (pf_35 F) := by
  refine K_of_Vc (by decide) rfl (by simp [cat_i, cat_r]) (by simp [tS_init]) ?_
  refine c_aload (i := 0) dS_init_0 rfl ?_
  refine c_obj dS_init_1 mlS_3 (Nat.le_of_ble_eq_true rfl) ?_
  refine c_aload (i := 0) dS_init_4 rfl ?_
  refine c_aload (i := 1) dS_init_5 rfl ?_
  refine c_put (w := .ref 1) (cc := (7, 4, [.ref 1, .null, .null, .int 0], z0, zn)) dS_init_6 fuS_9 ⟨_, _, _, _, rfl, rfl, rfl, rfl⟩ hc_7 (Nat.le_of_ble_eq_true rfl) rfl (Nat.le_of_ble_eq_true rfl) rfl rfl ?_
  refine c_aload (i := 0) dS_init_9 rfl ?_
  refine c_aload (i := 2) dS_init_10 rfl ?_
  refine c_put (w := .ref 5) (cc := (7, 4, [.ref 1, .ref 5, .null, .int 0], z0, zn)) dS_init_11 fuS_15 ⟨_, _, _, _, rfl, rfl, rfl, rfl⟩ hc_7 (Nat.le_of_ble_eq_true rfl) rfl (Nat.le_of_ble_eq_true rfl) rfl rfl ?_
  refine c_aload (i := 0) dS_init_14 rfl ?_
  refine c_aload (i := 3) dS_init_15 rfl ?_
  refine c_put (w := .ref 34) (cc := (7, 4, [.ref 1, .ref 5, .ref 34, .int 0], z0, zn)) dS_init_16 fuS_19 ⟨_, _, _, _, rfl, rfl, rfl, rfl⟩ hc_7 (Nat.le_of_ble_eq_true rfl) rfl (Nat.le_of_ble_eq_true rfl) rfl rfl ?_
  refine c_aload (i := 0) dS_init_19 rfl ?_
  refine c_iload (i := 4) dS_init_20 rfl ?_
  refine c_put (w := .int 1) (cc := (7, 4, [.ref 1, .ref 5, .ref 34, .int 1], z0, zn)) dS_init_22 fuS_23 ⟨_, _, _, _, rfl, rfl, rfl, rfl⟩ hc_7 (Nat.le_of_ble_eq_true rfl) rfl (Nat.le_of_ble_eq_true rfl) rfl rfl ?_
  exact c_ret dS_init_25 rfl rfl
def pf_36 (F : CF) : CF := wr F [(69, (7, 4, df_7, z0, zn)), (69, (7, 4, [.ref 3, .null, .null, .int 0], z0, zn)), (69, (7, 4, [.ref 3, .ref 5, .null, .int 0], z0, zn)), (69, (7, 4, [.ref 3, .ref 5, .ref 34, .int 0], z0, zn)), (69, (7, 4, [.ref 3, .ref 5, .ref 34, .int 0], z0, zn))]
set_option maxRecDepth 40000 in
theorem kx_36 (G : GG) (d : Nat) (F : CF) : Kc G tS_init d 0 0 [.ref (gB G + 69), .ref (gB G + 3), .ref (gB G + 5), .ref (gB G + 34), .int 0] 70 (sF F 69 (7, 4, df_7, z0, zn)) 70 (pf_36 F) := by
  refine K_of_Vc (by decide) rfl (by simp [cat_i, cat_r]) (by simp [tS_init]) ?_
  refine c_aload (i := 0) dS_init_0 rfl ?_
  refine c_obj dS_init_1 mlS_3 (Nat.le_of_ble_eq_true rfl) ?_
  refine c_aload (i := 0) dS_init_4 rfl ?_
  refine c_aload (i := 1) dS_init_5 rfl ?_
  refine c_put (w := .ref 3) (cc := (7, 4, [.ref 3, .null, .null, .int 0], z0, zn)) dS_init_6 fuS_9 ⟨_, _, _, _, rfl, rfl, rfl, rfl⟩ hc_7 (Nat.le_of_ble_eq_true rfl) rfl (Nat.le_of_ble_eq_true rfl) rfl rfl ?_
  refine c_aload (i := 0) dS_init_9 rfl ?_
  refine c_aload (i := 2) dS_init_10 rfl ?_
  refine c_put (w := .ref 5) (cc := (7, 4, [.ref 3, .ref 5, .null, .int 0], z0, zn)) dS_init_11 fuS_15 ⟨_, _, _, _, rfl, rfl, rfl, rfl⟩ hc_7 (Nat.le_of_ble_eq_true rfl) rfl (Nat.le_of_ble_eq_true rfl) rfl rfl ?_
  refine c_aload (i := 0) dS_init_14 rfl ?_
  refine c_aload (i := 3) dS_init_15 rfl ?_
  refine c_put (w := .ref 34) (cc := (7, 4, [.ref 3, .ref 5, .ref 34, .int 0], z0, zn)) dS_init_16 fuS_19 ⟨_, _, _, _, rfl, rfl, rfl, rfl⟩ hc_7 (Nat.le_of_ble_eq_true rfl) rfl (Nat.le_of_ble_eq_true rfl) rfl rfl ?_
  refine c_aload (i := 0) dS_init_19 rfl ?_
  refine c_iload (i := 4) dS_init_20 rfl ?_
  refine c_put (w := .int 0) (cc := (7, 4, [.ref 3, .ref 5, .ref 34, .int 0], z0, zn)) dS_init_22 fuS_23 ⟨_, _, _, _, rfl, rfl, rfl, rfl⟩ hc_7 (Nat.le_of_ble_eq_true rfl) rfl (Nat.le_of_ble_eq_true rfl) rfl rfl ?_
  exact c_ret dS_init_25 rfl rfl
def pf_37 (F : CF) : CF := wr F [(73, (1, 8, df_1, z0, zn)), (74, (20, 132, [], z0, zn)), (73, (1, 8, [.ref 74, .int 0, .int 0, .int 0, .int 0, .int 0, .int 0, .int 0], z0, zn))]
set_option maxRecDepth 40000 in
theorem kx_37 (G : GG) (d : Nat) (F : CF) : Kc G tB_init d 1 132 [.ref (gB G + 73)] 74 (sF F 73 (1, 8, df_1, z0, zn)) 75 (pf_37 F) := by
  refine K_of_Vc (by decide) rfl (by simp [cat_i, cat_r]) (by simp [tB_init]) ?_
  refine c_aload (i := 0) dB_init_0 rfl ?_
  refine c_obj dB_init_1 mlB_3 (Nat.le_of_ble_eq_true rfl) ?_
  refine c_aload (i := 0) dB_init_4 rfl ?_
  refine c_sipush (x := 132) dB_init_5 rfl ?_
  refine c_newi (N := 132) dB_init_8 ar_i (by decide) rfl (by decide) (Nat.le_of_ble_eq_true rfl) (Nat.le_of_ble_eq_true rfl) ?_
  refine c_put (w := .ref 74) (cc := (1, 8, [.ref 74, .int 0, .int 0, .int 0, .int 0, .int 0, .int 0, .int 0], z0, zn)) dB_init_10 fuB_11 ⟨_, _, _, _, rfl, rfl, rfl, rfl⟩ hc_1 (Nat.le_of_ble_eq_true rfl) rfl (Nat.le_of_ble_eq_true rfl) rfl rfl ?_
  exact c_ret dB_init_13 rfl rfl
def rz_1 : Nat → Option Nat := va_up zn 0 (some 73)
def pf_38 (F : CF) : CF := wr F [(75, (1, 8, df_1, z0, zn)), (76, (20, 132, [], z0, zn)), (75, (1, 8, [.ref 76, .int 0, .int 0, .int 0, .int 0, .int 0, .int 0, .int 0], z0, zn))]
set_option maxRecDepth 40000 in
theorem kx_38 (G : GG) (d : Nat) (F : CF) : Kc G tB_init d 1 132 [.ref (gB G + 75)] 76 (sF F 75 (1, 8, df_1, z0, zn)) 77 (pf_38 F) := by
  refine K_of_Vc (by decide) rfl (by simp [cat_i, cat_r]) (by simp [tB_init]) ?_
  refine c_aload (i := 0) dB_init_0 rfl ?_
  refine c_obj dB_init_1 mlB_3 (Nat.le_of_ble_eq_true rfl) ?_
  refine c_aload (i := 0) dB_init_4 rfl ?_
  refine c_sipush (x := 132) dB_init_5 rfl ?_
  refine c_newi (N := 132) dB_init_8 ar_i (by decide) rfl (by decide) (Nat.le_of_ble_eq_true rfl) (Nat.le_of_ble_eq_true rfl) ?_
  refine c_put (w := .ref 76) (cc := (1, 8, [.ref 76, .int 0, .int 0, .int 0, .int 0, .int 0, .int 0, .int 0], z0, zn)) dB_init_10 fuB_11 ⟨_, _, _, _, rfl, rfl, rfl, rfl⟩ hc_1 (Nat.le_of_ble_eq_true rfl) rfl (Nat.le_of_ble_eq_true rfl) rfl rfl ?_
  exact c_ret dB_init_13 rfl rfl
def rz_2 : Nat → Option Nat := va_up rz_1 1 (some 75)
def pf_39 (F : CF) : CF := wr F [(77, (1, 8, df_1, z0, zn)), (78, (20, 132, [], z0, zn)), (77, (1, 8, [.ref 78, .int 0, .int 0, .int 0, .int 0, .int 0, .int 0, .int 0], z0, zn))]
set_option maxRecDepth 40000 in
theorem kx_39 (G : GG) (d : Nat) (F : CF) : Kc G tB_init d 1 132 [.ref (gB G + 77)] 78 (sF F 77 (1, 8, df_1, z0, zn)) 79 (pf_39 F) := by
  refine K_of_Vc (by decide) rfl (by simp [cat_i, cat_r]) (by simp [tB_init]) ?_
  refine c_aload (i := 0) dB_init_0 rfl ?_
  refine c_obj dB_init_1 mlB_3 (Nat.le_of_ble_eq_true rfl) ?_
  refine c_aload (i := 0) dB_init_4 rfl ?_
  refine c_sipush (x := 132) dB_init_5 rfl ?_
  refine c_newi (N := 132) dB_init_8 ar_i (by decide) rfl (by decide) (Nat.le_of_ble_eq_true rfl) (Nat.le_of_ble_eq_true rfl) ?_
  refine c_put (w := .ref 78) (cc := (1, 8, [.ref 78, .int 0, .int 0, .int 0, .int 0, .int 0, .int 0, .int 0], z0, zn)) dB_init_10 fuB_11 ⟨_, _, _, _, rfl, rfl, rfl, rfl⟩ hc_1 (Nat.le_of_ble_eq_true rfl) rfl (Nat.le_of_ble_eq_true rfl) rfl rfl ?_
  exact c_ret dB_init_13 rfl rfl
def rz_3 : Nat → Option Nat := va_up rz_2 2 (some 77)
def pf_40 (F : CF) : CF := wr F [(79, (1, 8, df_1, z0, zn)), (80, (20, 132, [], z0, zn)), (79, (1, 8, [.ref 80, .int 0, .int 0, .int 0, .int 0, .int 0, .int 0, .int 0], z0, zn))]
set_option maxRecDepth 40000 in
theorem kx_40 (G : GG) (d : Nat) (F : CF) : Kc G tB_init d 1 132 [.ref (gB G + 79)] 80 (sF F 79 (1, 8, df_1, z0, zn)) 81 (pf_40 F) := by
  refine K_of_Vc (by decide) rfl (by simp [cat_i, cat_r]) (by simp [tB_init]) ?_
  refine c_aload (i := 0) dB_init_0 rfl ?_
  refine c_obj dB_init_1 mlB_3 (Nat.le_of_ble_eq_true rfl) ?_
  refine c_aload (i := 0) dB_init_4 rfl ?_
  refine c_sipush (x := 132) dB_init_5 rfl ?_
  refine c_newi (N := 132) dB_init_8 ar_i (by decide) rfl (by decide) (Nat.le_of_ble_eq_true rfl) (Nat.le_of_ble_eq_true rfl) ?_
  refine c_put (w := .ref 80) (cc := (1, 8, [.ref 80, .int 0, .int 0, .int 0, .int 0, .int 0, .int 0, .int 0], z0, zn)) dB_init_10 fuB_11 ⟨_, _, _, _, rfl, rfl, rfl, rfl⟩ hc_1 (Nat.le_of_ble_eq_true rfl) rfl (Nat.le_of_ble_eq_true rfl) rfl rfl ?_
  exact c_ret dB_init_13 rfl rfl
def rz_4 : Nat → Option Nat := va_up rz_3 3 (some 79)
def pf_41 (F : CF) : CF := wr F [(81, (1, 8, df_1, z0, zn)), (82, (20, 132, [], z0, zn)), (81, (1, 8, [.ref 82, .int 0, .int 0, .int 0, .int 0, .int 0, .int 0, .int 0], z0, zn))]
set_option maxRecDepth 40000 in
theorem kx_41 (G : GG) (d : Nat) (F : CF) : Kc G tB_init d 1 132 [.ref (gB G + 81)] 82 (sF F 81 (1, 8, df_1, z0, zn)) 83 (pf_41 F) := by
  refine K_of_Vc (by decide) rfl (by simp [cat_i, cat_r]) (by simp [tB_init]) ?_
  refine c_aload (i := 0) dB_init_0 rfl ?_
  refine c_obj dB_init_1 mlB_3 (Nat.le_of_ble_eq_true rfl) ?_
  refine c_aload (i := 0) dB_init_4 rfl ?_
  refine c_sipush (x := 132) dB_init_5 rfl ?_
  refine c_newi (N := 132) dB_init_8 ar_i (by decide) rfl (by decide) (Nat.le_of_ble_eq_true rfl) (Nat.le_of_ble_eq_true rfl) ?_
  refine c_put (w := .ref 82) (cc := (1, 8, [.ref 82, .int 0, .int 0, .int 0, .int 0, .int 0, .int 0, .int 0], z0, zn)) dB_init_10 fuB_11 ⟨_, _, _, _, rfl, rfl, rfl, rfl⟩ hc_1 (Nat.le_of_ble_eq_true rfl) rfl (Nat.le_of_ble_eq_true rfl) rfl rfl ?_
  exact c_ret dB_init_13 rfl rfl
def rz_5 : Nat → Option Nat := va_up rz_4 4 (some 81)
def pf_42 (F : CF) : CF := wr F [(83, (1, 8, df_1, z0, zn)), (84, (20, 132, [], z0, zn)), (83, (1, 8, [.ref 84, .int 0, .int 0, .int 0, .int 0, .int 0, .int 0, .int 0], z0, zn))]
set_option maxRecDepth 40000 in
theorem kx_42 (G : GG) (d : Nat) (F : CF) : Kc G tB_init d 1 132 [.ref (gB G + 83)] 84 (sF F 83 (1, 8, df_1, z0, zn)) 85 (pf_42 F) := by
  refine K_of_Vc (by decide) rfl (by simp [cat_i, cat_r]) (by simp [tB_init]) ?_
  refine c_aload (i := 0) dB_init_0 rfl ?_
  refine c_obj dB_init_1 mlB_3 (Nat.le_of_ble_eq_true rfl) ?_
  refine c_aload (i := 0) dB_init_4 rfl ?_
  refine c_sipush (x := 132) dB_init_5 rfl ?_
  refine c_newi (N := 132) dB_init_8 ar_i (by decide) rfl (by decide) (Nat.le_of_ble_eq_true rfl) (Nat.le_of_ble_eq_true rfl) ?_
  refine c_put (w := .ref 84) (cc := (1, 8, [.ref 84, .int 0, .int 0, .int 0, .int 0, .int 0, .int 0, .int 0], z0, zn)) dB_init_10 fuB_11 ⟨_, _, _, _, rfl, rfl, rfl, rfl⟩ hc_1 (Nat.le_of_ble_eq_true rfl) rfl (Nat.le_of_ble_eq_true rfl) rfl rfl ?_
  exact c_ret dB_init_13 rfl rfl
def rz_6 : Nat → Option Nat := va_up rz_5 5 (some 83)
def pf_43 (F : CF) : CF := wr F [(70, (4, 4, df_4, z0, zn)), (71, (22, 6, [], z0, zn)), (70, (4, 4, [.ref 71, .null, .int 0, .int 0], z0, zn)), (72, (20, 6, [], z0, zn)), (70, (4, 4, [.ref 71, .ref 72, .int 0, .int 0], z0, zn)), (73, (1, 8, df_1, z0, zn)), (74, (20, 132, [], z0, zn)), (73, (1, 8, [.ref 74, .int 0, .int 0, .int 0, .int 0, .int 0, .int 0, .int 0], z0, zn)), (71, (22, 6, [], z0, rz_1)), (75, (1, 8, df_1, z0, zn)), (76, (20, 132, [], z0, zn)), (75, (1, 8, [.ref 76, .int 0, .int 0, .int 0, .int 0, .int 0, .int 0, .int 0], z0, zn)), (71, (22, 6, [], z0, rz_2)), (77, (1, 8, df_1, z0, zn)), (78, (20, 132, [], z0, zn)), (77, (1, 8, [.ref 78, .int 0, .int 0, .int 0, .int 0, .int 0, .int 0, .int 0], z0, zn)), (71, (22, 6, [], z0, rz_3)), (79, (1, 8, df_1, z0, zn)), (80, (20, 132, [], z0, zn)), (79, (1, 8, [.ref 80, .int 0, .int 0, .int 0, .int 0, .int 0, .int 0, .int 0], z0, zn)), (71, (22, 6, [], z0, rz_4)), (81, (1, 8, df_1, z0, zn)), (82, (20, 132, [], z0, zn)), (81, (1, 8, [.ref 82, .int 0, .int 0, .int 0, .int 0, .int 0, .int 0, .int 0], z0, zn)), (71, (22, 6, [], z0, rz_5)), (83, (1, 8, df_1, z0, zn)), (84, (20, 132, [], z0, zn)), (83, (1, 8, [.ref 84, .int 0, .int 0, .int 0, .int 0, .int 0, .int 0, .int 0], z0, zn)), (71, (22, 6, [], z0, rz_6))]
set_option maxRecDepth 40000 in
theorem kx_43 (G : GG) (d : Nat) (F : CF) : Kc G tP_init (d + 1) 14 852 [.ref (gB G + 70)] 71 (sF F 70 (4, 4, df_4, z0, zn)) 85 (pf_43 F) := by
  refine K_of_Vc (by decide) rfl (by simp [cat_i, cat_r]) (by simp [tP_init]) ?_
  refine c_aload (i := 0) dP_init_0 rfl ?_
  refine c_obj dP_init_1 mlP_1 (Nat.le_of_ble_eq_true rfl) ?_
  refine c_aload (i := 0) dP_init_4 rfl ?_
  refine c_bipush (x := 6) dP_init_5 rfl ?_
  refine c_anew (N := 6) dP_init_7 clP_9 (by decide) rfl (by decide) (Nat.le_of_ble_eq_true rfl) (Nat.le_of_ble_eq_true rfl) ?_
  refine c_put (w := .ref 71) (cc := (4, 4, [.ref 71, .null, .int 0, .int 0], z0, zn)) dP_init_10 fuP_11 ⟨_, _, _, _, rfl, rfl, rfl, rfl⟩ hc_4 (Nat.le_of_ble_eq_true rfl) rfl (Nat.le_of_ble_eq_true rfl) rfl rfl ?_
  refine c_aload (i := 0) dP_init_13 rfl ?_
  refine c_bipush (x := 6) dP_init_14 rfl ?_
  refine c_newi (N := 6) dP_init_16 ar_i (by decide) rfl (by decide) (Nat.le_of_ble_eq_true rfl) (Nat.le_of_ble_eq_true rfl) ?_
  refine c_put (w := .ref 72) (cc := (4, 4, [.ref 71, .ref 72, .int 0, .int 0], z0, zn)) dP_init_18 fuP_15 ⟨_, _, _, _, rfl, rfl, rfl, rfl⟩ hc_4 (Nat.le_of_ble_eq_true rfl) rfl (Nat.le_of_ble_eq_true rfl) rfl rfl ?_
  refine c_iconst (x := 0) dP_init_21 rfl ?_
  refine c_istore (i := 1) dP_init_22 (by decide) rfl ?_
  refine c_iload (i := 1) dP_init_23 rfl ?_
  refine c_bipush (x := 6) dP_init_24 rfl ?_
  refine c_ge_f dP_init_26 (by decide) ?_
  refine c_aload (i := 0) dP_init_29 rfl ?_
  refine c_get (w := .ref 71) (w' := .ref (gB G + 71)) dP_init_30 fuP_11 (Nat.le_of_ble_eq_true rfl) rfl rfl rfl ?_
  refine c_iload (i := 1) dP_init_33 rfl ?_
  refine c_new (ci := 1) (ty := ty_1) df_1 dP_init_34 clP_9 in_1 iz_1 rfl ty_ok_1 df_ok_1 rfl (Nat.le_of_ble_eq_true rfl) (Nat.le_of_ble_eq_true rfl) ?_
  refine c_dup dP_init_37 rfl ?_
  refine c_callN (M' := tB_init) dP_init_38 mlP_19 okiB_init rfl rfl (Nat.le_of_ble_eq_true rfl) (Nat.le_of_ble_eq_true rfl) (Nat.le_of_ble_eq_true rfl) (kx_37 G d _) ?_
  refine c_aast (N := 6) (cc := (22, 6, [], z0, rz_1)) dP_init_41 (Nat.le_of_ble_eq_true rfl) (Nat.le_of_ble_eq_true rfl) rfl rfl rfl (by unfold vp_in; decide) rfl ?_
  refine c_iinc (i := 1) (y := 1) dP_init_42 rfl rfl (by decide) rfl ?_
  refine c_goto dP_init_45 ?_
  refine c_iload (i := 1) dP_init_23 rfl ?_
  refine c_bipush (x := 6) dP_init_24 rfl ?_
  refine c_ge_f dP_init_26 (by decide) ?_
  refine c_aload (i := 0) dP_init_29 rfl ?_
  refine c_get (w := .ref 71) (w' := .ref (gB G + 71)) dP_init_30 fuP_11 (Nat.le_of_ble_eq_true rfl) rfl rfl rfl ?_
  refine c_iload (i := 1) dP_init_33 rfl ?_
  refine c_new (ci := 1) (ty := ty_1) df_1 dP_init_34 clP_9 in_1 iz_1 rfl ty_ok_1 df_ok_1 rfl (Nat.le_of_ble_eq_true rfl) (Nat.le_of_ble_eq_true rfl) ?_
  refine c_dup dP_init_37 rfl ?_
  refine c_callN (M' := tB_init) dP_init_38 mlP_19 okiB_init rfl rfl (Nat.le_of_ble_eq_true rfl) (Nat.le_of_ble_eq_true rfl) (Nat.le_of_ble_eq_true rfl) (kx_38 G d _) ?_
  refine c_aast (N := 6) (cc := (22, 6, [], z0, rz_2)) dP_init_41 (Nat.le_of_ble_eq_true rfl) (Nat.le_of_ble_eq_true rfl) rfl rfl rfl (by unfold vp_in; decide) rfl ?_
  refine c_iinc (i := 1) (y := 2) dP_init_42 rfl rfl (by decide) rfl ?_
  refine c_goto dP_init_45 ?_
  refine c_iload (i := 1) dP_init_23 rfl ?_
  refine c_bipush (x := 6) dP_init_24 rfl ?_
  refine c_ge_f dP_init_26 (by decide) ?_
  refine c_aload (i := 0) dP_init_29 rfl ?_
  refine c_get (w := .ref 71) (w' := .ref (gB G + 71)) dP_init_30 fuP_11 (Nat.le_of_ble_eq_true rfl) rfl rfl rfl ?_
  refine c_iload (i := 1) dP_init_33 rfl ?_
  refine c_new (ci := 1) (ty := ty_1) df_1 dP_init_34 clP_9 in_1 iz_1 rfl ty_ok_1 df_ok_1 rfl (Nat.le_of_ble_eq_true rfl) (Nat.le_of_ble_eq_true rfl) ?_
  refine c_dup dP_init_37 rfl ?_
  refine c_callN (M' := tB_init) dP_init_38 mlP_19 okiB_init rfl rfl (Nat.le_of_ble_eq_true rfl) (Nat.le_of_ble_eq_true rfl) (Nat.le_of_ble_eq_true rfl) (kx_39 G d _) ?_
  refine c_aast (N := 6) (cc := (22, 6, [], z0, rz_3)) dP_init_41 (Nat.le_of_ble_eq_true rfl) (Nat.le_of_ble_eq_true rfl) rfl rfl rfl (by unfold vp_in; decide) rfl ?_
  refine c_iinc (i := 1) (y := 3) dP_init_42 rfl rfl (by decide) rfl ?_
  refine c_goto dP_init_45 ?_
  refine c_iload (i := 1) dP_init_23 rfl ?_
  refine c_bipush (x := 6) dP_init_24 rfl ?_
  refine c_ge_f dP_init_26 (by decide) ?_
  refine c_aload (i := 0) dP_init_29 rfl ?_
  refine c_get (w := .ref 71) (w' := .ref (gB G + 71)) dP_init_30 fuP_11 (Nat.le_of_ble_eq_true rfl) rfl rfl rfl ?_
  refine c_iload (i := 1) dP_init_33 rfl ?_
  refine c_new (ci := 1) (ty := ty_1) df_1 dP_init_34 clP_9 in_1 iz_1 rfl ty_ok_1 df_ok_1 rfl (Nat.le_of_ble_eq_true rfl) (Nat.le_of_ble_eq_true rfl) ?_
  refine c_dup dP_init_37 rfl ?_
  refine c_callN (M' := tB_init) dP_init_38 mlP_19 okiB_init rfl rfl (Nat.le_of_ble_eq_true rfl) (Nat.le_of_ble_eq_true rfl) (Nat.le_of_ble_eq_true rfl) (kx_40 G d _) ?_
  refine c_aast (N := 6) (cc := (22, 6, [], z0, rz_4)) dP_init_41 (Nat.le_of_ble_eq_true rfl) (Nat.le_of_ble_eq_true rfl) rfl rfl rfl (by unfold vp_in; decide) rfl ?_
  refine c_iinc (i := 1) (y := 4) dP_init_42 rfl rfl (by decide) rfl ?_
  refine c_goto dP_init_45 ?_
  refine c_iload (i := 1) dP_init_23 rfl ?_
  refine c_bipush (x := 6) dP_init_24 rfl ?_
  refine c_ge_f dP_init_26 (by decide) ?_
  refine c_aload (i := 0) dP_init_29 rfl ?_
  refine c_get (w := .ref 71) (w' := .ref (gB G + 71)) dP_init_30 fuP_11 (Nat.le_of_ble_eq_true rfl) rfl rfl rfl ?_
  refine c_iload (i := 1) dP_init_33 rfl ?_
  refine c_new (ci := 1) (ty := ty_1) df_1 dP_init_34 clP_9 in_1 iz_1 rfl ty_ok_1 df_ok_1 rfl (Nat.le_of_ble_eq_true rfl) (Nat.le_of_ble_eq_true rfl) ?_
  refine c_dup dP_init_37 rfl ?_
  refine c_callN (M' := tB_init) dP_init_38 mlP_19 okiB_init rfl rfl (Nat.le_of_ble_eq_true rfl) (Nat.le_of_ble_eq_true rfl) (Nat.le_of_ble_eq_true rfl) (kx_41 G d _) ?_
  refine c_aast (N := 6) (cc := (22, 6, [], z0, rz_5)) dP_init_41 (Nat.le_of_ble_eq_true rfl) (Nat.le_of_ble_eq_true rfl) rfl rfl rfl (by unfold vp_in; decide) rfl ?_
  refine c_iinc (i := 1) (y := 5) dP_init_42 rfl rfl (by decide) rfl ?_
  refine c_goto dP_init_45 ?_
  refine c_iload (i := 1) dP_init_23 rfl ?_
  refine c_bipush (x := 6) dP_init_24 rfl ?_
  refine c_ge_f dP_init_26 (by decide) ?_
  refine c_aload (i := 0) dP_init_29 rfl ?_
  refine c_get (w := .ref 71) (w' := .ref (gB G + 71)) dP_init_30 fuP_11 (Nat.le_of_ble_eq_true rfl) rfl rfl rfl ?_
  refine c_iload (i := 1) dP_init_33 rfl ?_
  refine c_new (ci := 1) (ty := ty_1) df_1 dP_init_34 clP_9 in_1 iz_1 rfl ty_ok_1 df_ok_1 rfl (Nat.le_of_ble_eq_true rfl) (Nat.le_of_ble_eq_true rfl) ?_
  refine c_dup dP_init_37 rfl ?_
  refine c_callN (M' := tB_init) dP_init_38 mlP_19 okiB_init rfl rfl (Nat.le_of_ble_eq_true rfl) (Nat.le_of_ble_eq_true rfl) (Nat.le_of_ble_eq_true rfl) (kx_42 G d _) ?_
  refine c_aast (N := 6) (cc := (22, 6, [], z0, rz_6)) dP_init_41 (Nat.le_of_ble_eq_true rfl) (Nat.le_of_ble_eq_true rfl) rfl rfl rfl (by unfold vp_in; decide) rfl ?_
  refine c_iinc (i := 1) (y := 6) dP_init_42 rfl rfl (by decide) rfl ?_
  refine c_goto dP_init_45 ?_
  refine c_iload (i := 1) dP_init_23 rfl ?_
  refine c_bipush (x := 6) dP_init_24 rfl ?_
  refine c_ge_t dP_init_26 (by decide) ?_
  exact c_ret dP_init_48 rfl rfl
def pf_44 (F : CF) : CF := wr F [(85, (10, 6, df_10, z0, zn)), (86, (21, 400, [], z0, zn)), (85, (10, 6, [.ref 86, .null, .null, .null, .int 0, .int 0], z0, zn)), (87, (20, 401, [], z0, zn)), (85, (10, 6, [.ref 86, .ref 87, .null, .null, .int 0, .int 0], z0, zn)), (88, (20, 401, [], z0, zn)), (85, (10, 6, [.ref 86, .ref 87, .ref 88, .null, .int 0, .int 0], z0, zn)), (89, (20, 401, [], z0, zn)), (85, (10, 6, [.ref 86, .ref 87, .ref 88, .ref 89, .int 0, .int 0], z0, zn))]
set_option maxRecDepth 40000 in
theorem kx_44 (G : GG) (d : Nat) (F : CF) : Kc G tA_init d 4 1603 [.ref (gB G + 85)] 86 (sF F 85 (10, 6, df_10, z0, zn)) 90 (pf_44 F) := by
  refine K_of_Vc (by decide) rfl (by simp [cat_i, cat_r]) (by simp [tA_init]) ?_
  refine c_aload (i := 0) dA_init_0 rfl ?_
  refine c_obj dA_init_1 mlA_3 (Nat.le_of_ble_eq_true rfl) ?_
  refine c_aload (i := 0) dA_init_4 rfl ?_
  refine c_sipush (x := 400) dA_init_5 rfl ?_
  refine c_newb (N := 400) dA_init_8 ar_b (by decide) rfl (by decide) (Nat.le_of_ble_eq_true rfl) (Nat.le_of_ble_eq_true rfl) ?_
  refine c_put (w := .ref 86) (cc := (10, 6, [.ref 86, .null, .null, .null, .int 0, .int 0], z0, zn)) dA_init_10 fuA_9 ⟨_, _, _, _, rfl, rfl, rfl, rfl⟩ hc_10 (Nat.le_of_ble_eq_true rfl) rfl (Nat.le_of_ble_eq_true rfl) rfl rfl ?_
  refine c_aload (i := 0) dA_init_13 rfl ?_
  refine c_sipush (x := 401) dA_init_14 rfl ?_
  refine c_newi (N := 401) dA_init_17 ar_i (by decide) rfl (by decide) (Nat.le_of_ble_eq_true rfl) (Nat.le_of_ble_eq_true rfl) ?_
  refine c_put (w := .ref 87) (cc := (10, 6, [.ref 86, .ref 87, .null, .null, .int 0, .int 0], z0, zn)) dA_init_19 fuA_15 ⟨_, _, _, _, rfl, rfl, rfl, rfl⟩ hc_10 (Nat.le_of_ble_eq_true rfl) rfl (Nat.le_of_ble_eq_true rfl) rfl rfl ?_
  refine c_aload (i := 0) dA_init_22 rfl ?_
  refine c_sipush (x := 401) dA_init_23 rfl ?_
  refine c_newi (N := 401) dA_init_26 ar_i (by decide) rfl (by decide) (Nat.le_of_ble_eq_true rfl) (Nat.le_of_ble_eq_true rfl) ?_
  refine c_put (w := .ref 88) (cc := (10, 6, [.ref 86, .ref 87, .ref 88, .null, .int 0, .int 0], z0, zn)) dA_init_28 fuA_19 ⟨_, _, _, _, rfl, rfl, rfl, rfl⟩ hc_10 (Nat.le_of_ble_eq_true rfl) rfl (Nat.le_of_ble_eq_true rfl) rfl rfl ?_
  refine c_aload (i := 0) dA_init_31 rfl ?_
  refine c_sipush (x := 401) dA_init_32 rfl ?_
  refine c_newi (N := 401) dA_init_35 ar_i (by decide) rfl (by decide) (Nat.le_of_ble_eq_true rfl) (Nat.le_of_ble_eq_true rfl) ?_
  refine c_put (w := .ref 89) (cc := (10, 6, [.ref 86, .ref 87, .ref 88, .ref 89, .int 0, .int 0], z0, zn)) dA_init_37 fuA_22 ⟨_, _, _, _, rfl, rfl, rfl, rfl⟩ hc_10 (Nat.le_of_ble_eq_true rfl) rfl (Nat.le_of_ble_eq_true rfl) rfl rfl ?_
  exact c_ret dA_init_40 rfl rfl
def pf_45 (F : CF) : CF := wr F [(91, (6, 4, df_6, z0, zn)), (91, (6, 4, [.int 16, .int 0, .null, .int 0], z0, zn)), (91, (6, 4, [.int 16, .int 5, .null, .int 0], z0, zn)), (92, (20, 80, [], z0, zn)), (91, (6, 4, [.int 16, .int 5, .ref 92, .int 0], z0, zn)), (91, (6, 4, [.int 16, .int 5, .ref 92, .int 0], z0, zn))]
set_option maxRecDepth 40000 in
theorem kx_45 (G : GG) (d : Nat) (F : CF) : Kc G tR_init d 1 80 [.ref (gB G + 91), .int 16, .int 5] 92 (sF F 91 (6, 4, df_6, z0, zn)) 93 (pf_45 F) := by
  refine K_of_Vc (by decide) rfl (by simp [cat_i, cat_r]) (by simp [tR_init]) ?_
  refine c_aload (i := 0) dR_init_0 rfl ?_
  refine c_obj dR_init_1 mlR_3 (Nat.le_of_ble_eq_true rfl) ?_
  refine c_aload (i := 0) dR_init_4 rfl ?_
  refine c_iload (i := 1) dR_init_5 rfl ?_
  refine c_iconst (x := 0) dR_init_6 rfl ?_
  refine c_mmax (z := 16) dR_init_7 mlR_9 rfl (Nat.le_of_ble_eq_true rfl) (Nat.le_of_ble_eq_true rfl) (Nat.le_of_ble_eq_true rfl) ?_
  refine c_put (w := .int 16) (cc := (6, 4, [.int 16, .int 0, .null, .int 0], z0, zn)) dR_init_10 fuR_15 ⟨_, _, _, _, rfl, rfl, rfl, rfl⟩ hc_6 (Nat.le_of_ble_eq_true rfl) rfl (Nat.le_of_ble_eq_true rfl) rfl rfl ?_
  refine c_aload (i := 0) dR_init_13 rfl ?_
  refine c_iload (i := 2) dR_init_14 rfl ?_
  refine c_iconst (x := 1) dR_init_15 rfl ?_
  refine c_mmax (z := 5) dR_init_16 mlR_9 rfl (Nat.le_of_ble_eq_true rfl) (Nat.le_of_ble_eq_true rfl) (Nat.le_of_ble_eq_true rfl) ?_
  refine c_put (w := .int 5) (cc := (6, 4, [.int 16, .int 5, .null, .int 0], z0, zn)) dR_init_19 fuR_21 ⟨_, _, _, _, rfl, rfl, rfl, rfl⟩ hc_6 (Nat.le_of_ble_eq_true rfl) rfl (Nat.le_of_ble_eq_true rfl) rfl rfl ?_
  refine c_aload (i := 0) dR_init_22 rfl ?_
  refine c_aload (i := 0) dR_init_23 rfl ?_
  refine c_get (w := .int 16) (w' := .int 16) dR_init_24 fuR_15 (Nat.le_of_ble_eq_true rfl) rfl rfl rfl ?_
  refine c_aload (i := 0) dR_init_27 rfl ?_
  refine c_get (w := .int 5) (w' := .int 5) dR_init_28 fuR_21 (Nat.le_of_ble_eq_true rfl) rfl rfl rfl ?_
  refine c_imul (z := 80) dR_init_31 rfl ?_
  refine c_newi (N := 80) dR_init_32 ar_i (by decide) rfl (by decide) (Nat.le_of_ble_eq_true rfl) (Nat.le_of_ble_eq_true rfl) ?_
  refine c_put (w := .ref 92) (cc := (6, 4, [.int 16, .int 5, .ref 92, .int 0], z0, zn)) dR_init_34 fuR_24 ⟨_, _, _, _, rfl, rfl, rfl, rfl⟩ hc_6 (Nat.le_of_ble_eq_true rfl) rfl (Nat.le_of_ble_eq_true rfl) rfl rfl ?_
  refine c_aload (i := 0) dR_init_37 rfl ?_
  refine c_iconst (x := 0) dR_init_38 rfl ?_
  refine c_put (w := .int 0) (cc := (6, 4, [.int 16, .int 5, .ref 92, .int 0], z0, zn)) dR_init_39 fuR_28 ⟨_, _, _, _, rfl, rfl, rfl, rfl⟩ hc_6 (Nat.le_of_ble_eq_true rfl) rfl (Nat.le_of_ble_eq_true rfl) rfl rfl ?_
  exact c_ret dR_init_42 rfl rfl
def pf_46 (F : CF) : CF := wr F [(93, (6, 4, df_6, z0, zn)), (93, (6, 4, [.int 400, .int 0, .null, .int 0], z0, zn)), (93, (6, 4, [.int 400, .int 2, .null, .int 0], z0, zn)), (94, (20, 800, [], z0, zn)), (93, (6, 4, [.int 400, .int 2, .ref 94, .int 0], z0, zn)), (93, (6, 4, [.int 400, .int 2, .ref 94, .int 0], z0, zn))]
set_option maxRecDepth 40000 in
theorem kx_46 (G : GG) (d : Nat) (F : CF) : Kc G tR_init d 1 800 [.ref (gB G + 93), .int 400, .int 2] 94 (sF F 93 (6, 4, df_6, z0, zn)) 95 (pf_46 F) := by
  refine K_of_Vc (by decide) rfl (by simp [cat_i, cat_r]) (by simp [tR_init]) ?_
  refine c_aload (i := 0) dR_init_0 rfl ?_
  refine c_obj dR_init_1 mlR_3 (Nat.le_of_ble_eq_true rfl) ?_
  refine c_aload (i := 0) dR_init_4 rfl ?_
  refine c_iload (i := 1) dR_init_5 rfl ?_
  refine c_iconst (x := 0) dR_init_6 rfl ?_
  refine c_mmax (z := 400) dR_init_7 mlR_9 rfl (Nat.le_of_ble_eq_true rfl) (Nat.le_of_ble_eq_true rfl) (Nat.le_of_ble_eq_true rfl) ?_
  refine c_put (w := .int 400) (cc := (6, 4, [.int 400, .int 0, .null, .int 0], z0, zn)) dR_init_10 fuR_15 ⟨_, _, _, _, rfl, rfl, rfl, rfl⟩ hc_6 (Nat.le_of_ble_eq_true rfl) rfl (Nat.le_of_ble_eq_true rfl) rfl rfl ?_
  refine c_aload (i := 0) dR_init_13 rfl ?_
  refine c_iload (i := 2) dR_init_14 rfl ?_
  refine c_iconst (x := 1) dR_init_15 rfl ?_
  refine c_mmax (z := 2) dR_init_16 mlR_9 rfl (Nat.le_of_ble_eq_true rfl) (Nat.le_of_ble_eq_true rfl) (Nat.le_of_ble_eq_true rfl) ?_
  refine c_put (w := .int 2) (cc := (6, 4, [.int 400, .int 2, .null, .int 0], z0, zn)) dR_init_19 fuR_21 ⟨_, _, _, _, rfl, rfl, rfl, rfl⟩ hc_6 (Nat.le_of_ble_eq_true rfl) rfl (Nat.le_of_ble_eq_true rfl) rfl rfl ?_
  refine c_aload (i := 0) dR_init_22 rfl ?_
  refine c_aload (i := 0) dR_init_23 rfl ?_
  refine c_get (w := .int 400) (w' := .int 400) dR_init_24 fuR_15 (Nat.le_of_ble_eq_true rfl) rfl rfl rfl ?_
  refine c_aload (i := 0) dR_init_27 rfl ?_
  refine c_get (w := .int 2) (w' := .int 2) dR_init_28 fuR_21 (Nat.le_of_ble_eq_true rfl) rfl rfl rfl ?_
  refine c_imul (z := 800) dR_init_31 rfl ?_
  refine c_newi (N := 800) dR_init_32 ar_i (by decide) rfl (by decide) (Nat.le_of_ble_eq_true rfl) (Nat.le_of_ble_eq_true rfl) ?_
  refine c_put (w := .ref 94) (cc := (6, 4, [.int 400, .int 2, .ref 94, .int 0], z0, zn)) dR_init_34 fuR_24 ⟨_, _, _, _, rfl, rfl, rfl, rfl⟩ hc_6 (Nat.le_of_ble_eq_true rfl) rfl (Nat.le_of_ble_eq_true rfl) rfl rfl ?_
  refine c_aload (i := 0) dR_init_37 rfl ?_
  refine c_iconst (x := 0) dR_init_38 rfl ?_
  refine c_put (w := .int 0) (cc := (6, 4, [.int 400, .int 2, .ref 94, .int 0], z0, zn)) dR_init_39 fuR_28 ⟨_, _, _, _, rfl, rfl, rfl, rfl⟩ hc_6 (Nat.le_of_ble_eq_true rfl) rfl (Nat.le_of_ble_eq_true rfl) rfl rfl ?_
  exact c_ret dR_init_42 rfl rfl
def pf_47 (F : CF) : CF := wr F [(90, (5, 10, df_5, z0, zn)), (91, (6, 4, df_6, z0, zn)), (91, (6, 4, [.int 16, .int 0, .null, .int 0], z0, zn)), (91, (6, 4, [.int 16, .int 5, .null, .int 0], z0, zn)), (92, (20, 80, [], z0, zn)), (91, (6, 4, [.int 16, .int 5, .ref 92, .int 0], z0, zn)), (91, (6, 4, [.int 16, .int 5, .ref 92, .int 0], z0, zn)), (90, (5, 10, [.ref 91, .null, .int 0, .int 0, .null, .int 0, .int 0, .int 0, .int 0, .int 0], z0, zn)), (93, (6, 4, df_6, z0, zn)), (93, (6, 4, [.int 400, .int 0, .null, .int 0], z0, zn)), (93, (6, 4, [.int 400, .int 2, .null, .int 0], z0, zn)), (94, (20, 800, [], z0, zn)), (93, (6, 4, [.int 400, .int 2, .ref 94, .int 0], z0, zn)), (93, (6, 4, [.int 400, .int 2, .ref 94, .int 0], z0, zn)), (90, (5, 10, [.ref 91, .ref 93, .int 0, .int 0, .null, .int 0, .int 0, .int 0, .int 0, .int 0], z0, zn)), (90, (5, 10, [.ref 91, .ref 93, .int 0, .int 0, .null, .int 0, .int 0, .int 0, .int 0, .int 0], z0, zn)), (90, (5, 10, [.ref 91, .ref 93, .int 0, .int (-1), .null, .int 0, .int 0, .int 0, .int 0, .int 0], z0, zn)), (90, (5, 10, [.ref 91, .ref 93, .int 0, .int (-1), .ref 85, .int 0, .int 0, .int 0, .int 0, .int 0], z0, zn))]
set_option maxRecDepth 40000 in
theorem kx_47 (G : GG) (d : Nat) (F : CF) : Kc G tD_init (d + 1) 4 888 [.ref (gB G + 90), .ref (gB G + 85)] 91 (sF F 90 (5, 10, df_5, z0, zn)) 95 (pf_47 F) := by
  refine K_of_Vc (by decide) rfl (by simp [cat_i, cat_r]) (by simp [tD_init]) ?_
  refine c_aload (i := 0) dD_init_0 rfl ?_
  refine c_obj dD_init_1 mlD_3 (Nat.le_of_ble_eq_true rfl) ?_
  refine c_aload (i := 0) dD_init_4 rfl ?_
  refine c_new (ci := 6) (ty := ty_6) df_6 dD_init_5 clD_9 in_6 iz_6 rfl ty_ok_6 df_ok_6 rfl (Nat.le_of_ble_eq_true rfl) (Nat.le_of_ble_eq_true rfl) ?_
  refine c_dup dD_init_8 rfl ?_
  refine c_bipush (x := 16) dD_init_9 rfl ?_
  refine c_iconst (x := 5) dD_init_11 rfl ?_
  refine c_call (M' := tR_init) dD_init_12 mlD_11 okiR_init rfl rfl (Nat.le_of_ble_eq_true rfl) (Nat.le_of_ble_eq_true rfl) (Nat.le_of_ble_eq_true rfl) (kx_45 G d _) ?_
  refine c_put (w := .ref 91) (cc := (5, 10, [.ref 91, .null, .int 0, .int 0, .null, .int 0, .int 0, .int 0, .int 0, .int 0], z0, zn)) dD_init_15 fuD_14 ⟨_, _, _, _, rfl, rfl, rfl, rfl⟩ hc_5 (Nat.le_of_ble_eq_true rfl) rfl (Nat.le_of_ble_eq_true rfl) rfl rfl ?_
  refine c_aload (i := 0) dD_init_18 rfl ?_
  refine c_new (ci := 6) (ty := ty_6) df_6 dD_init_19 clD_9 in_6 iz_6 rfl ty_ok_6 df_ok_6 rfl (Nat.le_of_ble_eq_true rfl) (Nat.le_of_ble_eq_true rfl) ?_
  refine c_dup dD_init_22 rfl ?_
  refine c_sipush (x := 400) dD_init_23 rfl ?_
  refine c_iconst (x := 2) dD_init_26 rfl ?_
  refine c_call (M' := tR_init) dD_init_27 mlD_11 okiR_init rfl rfl (Nat.le_of_ble_eq_true rfl) (Nat.le_of_ble_eq_true rfl) (Nat.le_of_ble_eq_true rfl) (kx_46 G d _) ?_
  refine c_put (w := .ref 93) (cc := (5, 10, [.ref 91, .ref 93, .int 0, .int 0, .null, .int 0, .int 0, .int 0, .int 0, .int 0], z0, zn)) dD_init_30 fuD_22 ⟨_, _, _, _, rfl, rfl, rfl, rfl⟩ hc_5 (Nat.le_of_ble_eq_true rfl) rfl (Nat.le_of_ble_eq_true rfl) rfl rfl ?_
  refine c_aload (i := 0) dD_init_33 rfl ?_
  refine c_iconst (x := 0) dD_init_34 rfl ?_
  refine c_put (w := .int 0) (cc := (5, 10, [.ref 91, .ref 93, .int 0, .int 0, .null, .int 0, .int 0, .int 0, .int 0, .int 0], z0, zn)) dD_init_35 fuD_25 ⟨_, _, _, _, rfl, rfl, rfl, rfl⟩ hc_5 (Nat.le_of_ble_eq_true rfl) rfl (Nat.le_of_ble_eq_true rfl) rfl rfl ?_
  refine c_aload (i := 0) dD_init_38 rfl ?_
  refine c_iconst (x := (-1)) dD_init_39 rfl ?_
  refine c_put (w := .int (-1)) (cc := (5, 10, [.ref 91, .ref 93, .int 0, .int (-1), .null, .int 0, .int 0, .int 0, .int 0, .int 0], z0, zn)) dD_init_40 fuD_29 ⟨_, _, _, _, rfl, rfl, rfl, rfl⟩ hc_5 (Nat.le_of_ble_eq_true rfl) rfl (Nat.le_of_ble_eq_true rfl) rfl rfl ?_
  refine c_aload (i := 0) dD_init_43 rfl ?_
  refine c_aload (i := 1) dD_init_44 rfl ?_
  refine c_put (w := .ref 85) (cc := (5, 10, [.ref 91, .ref 93, .int 0, .int (-1), .ref 85, .int 0, .int 0, .int 0, .int 0, .int 0], z0, zn)) dD_init_45 fuD_32 ⟨_, _, _, _, rfl, rfl, rfl, rfl⟩ hc_5 (Nat.le_of_ble_eq_true rfl) rfl (Nat.le_of_ble_eq_true rfl) rfl rfl ?_
  exact c_ret dD_init_48 rfl rfl
def pf_48 (F : CF) : CF := wr F [(95, (9, 2, df_9, z0, zn)), (96, (20, 12, [], z0, zn)), (95, (9, 2, [.ref 96, .null], z0, zn)), (97, (20, 12, [], z0, zn)), (95, (9, 2, [.ref 96, .ref 97], z0, zn))]
set_option maxRecDepth 40000 in
theorem kx_48 (G : GG) (d : Nat) (F : CF) : Kc G tT_init d 2 24 [.ref (gB G + 95)] 96 (sF F 95 (9, 2, df_9, z0, zn)) 98 (pf_48 F) := by
  refine K_of_Vc (by decide) rfl (by simp [cat_i, cat_r]) (by simp [tT_init]) ?_
  refine c_aload (i := 0) dT_init_0 rfl ?_
  refine c_obj dT_init_1 mlT_3 (Nat.le_of_ble_eq_true rfl) ?_
  refine c_aload (i := 0) dT_init_4 rfl ?_
  refine c_bipush (x := 12) dT_init_5 rfl ?_
  refine c_newi (N := 12) dT_init_7 ar_i (by decide) rfl (by decide) (Nat.le_of_ble_eq_true rfl) (Nat.le_of_ble_eq_true rfl) ?_
  refine c_put (w := .ref 96) (cc := (9, 2, [.ref 96, .null], z0, zn)) dT_init_9 fuT_9 ⟨_, _, _, _, rfl, rfl, rfl, rfl⟩ hc_9 (Nat.le_of_ble_eq_true rfl) rfl (Nat.le_of_ble_eq_true rfl) rfl rfl ?_
  refine c_aload (i := 0) dT_init_12 rfl ?_
  refine c_bipush (x := 12) dT_init_13 rfl ?_
  refine c_newi (N := 12) dT_init_15 ar_i (by decide) rfl (by decide) (Nat.le_of_ble_eq_true rfl) (Nat.le_of_ble_eq_true rfl) ?_
  refine c_put (w := .ref 97) (cc := (9, 2, [.ref 96, .ref 97], z0, zn)) dT_init_17 fuT_15 ⟨_, _, _, _, rfl, rfl, rfl, rfl⟩ hc_9 (Nat.le_of_ble_eq_true rfl) rfl (Nat.le_of_ble_eq_true rfl) rfl rfl ?_
  exact c_ret dT_init_20 rfl rfl
def pf_49 (F : CF) : CF := wr F [(98, (2, 3, df_2, z0, zn)), (99, (20, 8, [], z0, zn)), (98, (2, 3, [.ref 99, .null, .null], z0, zn)), (100, (20, 17, [], z0, zn)), (98, (2, 3, [.ref 99, .ref 100, .null], z0, zn)), (101, (20, 17, [], z0, zn)), (98, (2, 3, [.ref 99, .ref 100, .ref 101], z0, zn))]
set_option maxRecDepth 40000 in
theorem kx_49 (G : GG) (d : Nat) (F : CF) : Kc G tK_init d 3 42 [.ref (gB G + 98)] 99 (sF F 98 (2, 3, df_2, z0, zn)) 102 (pf_49 F) := by
  refine K_of_Vc (by decide) rfl (by simp [cat_i, cat_r]) (by simp [tK_init]) ?_
  refine c_aload (i := 0) dK_init_0 rfl ?_
  refine c_obj dK_init_1 mlK_3 (Nat.le_of_ble_eq_true rfl) ?_
  refine c_aload (i := 0) dK_init_4 rfl ?_
  refine c_bipush (x := 8) dK_init_5 rfl ?_
  refine c_newi (N := 8) dK_init_7 ar_i (by decide) rfl (by decide) (Nat.le_of_ble_eq_true rfl) (Nat.le_of_ble_eq_true rfl) ?_
  refine c_put (w := .ref 99) (cc := (2, 3, [.ref 99, .null, .null], z0, zn)) dK_init_9 fuK_11 ⟨_, _, _, _, rfl, rfl, rfl, rfl⟩ hc_2 (Nat.le_of_ble_eq_true rfl) rfl (Nat.le_of_ble_eq_true rfl) rfl rfl ?_
  refine c_aload (i := 0) dK_init_12 rfl ?_
  refine c_bipush (x := 17) dK_init_13 rfl ?_
  refine c_newi (N := 17) dK_init_15 ar_i (by decide) rfl (by decide) (Nat.le_of_ble_eq_true rfl) (Nat.le_of_ble_eq_true rfl) ?_
  refine c_put (w := .ref 100) (cc := (2, 3, [.ref 99, .ref 100, .null], z0, zn)) dK_init_17 fuK_15 ⟨_, _, _, _, rfl, rfl, rfl, rfl⟩ hc_2 (Nat.le_of_ble_eq_true rfl) rfl (Nat.le_of_ble_eq_true rfl) rfl rfl ?_
  refine c_aload (i := 0) dK_init_20 rfl ?_
  refine c_bipush (x := 17) dK_init_21 rfl ?_
  refine c_newi (N := 17) dK_init_23 ar_i (by decide) rfl (by decide) (Nat.le_of_ble_eq_true rfl) (Nat.le_of_ble_eq_true rfl) ?_
  refine c_put (w := .ref 101) (cc := (2, 3, [.ref 99, .ref 100, .ref 101], z0, zn)) dK_init_25 fuK_18 ⟨_, _, _, _, rfl, rfl, rfl, rfl⟩ hc_2 (Nat.le_of_ble_eq_true rfl) rfl (Nat.le_of_ble_eq_true rfl) rfl rfl ?_
  exact c_ret dK_init_28 rfl rfl
def pf_50 (F : CF) : CF := wr F [(102, (8, 2, df_8, z0, zn)), (103, (20, 1024, [], z0, zn)), (102, (8, 2, [.ref 103, .int 0], z0, zn))]
set_option maxRecDepth 40000 in
theorem kx_50 (G : GG) (d : Nat) (F : CF) : Kc G tL_init d 1 1024 [.ref (gB G + 102)] 103 (sF F 102 (8, 2, df_8, z0, zn)) 104 (pf_50 F) := by
  refine K_of_Vc (by decide) rfl (by simp [cat_i, cat_r]) (by simp [tL_init]) ?_
  refine c_aload (i := 0) dL_init_0 rfl ?_
  refine c_obj dL_init_1 mlL_5 (Nat.le_of_ble_eq_true rfl) ?_
  refine c_aload (i := 0) dL_init_4 rfl ?_
  refine c_sipush (x := 1024) dL_init_5 rfl ?_
  refine c_newi (N := 1024) dL_init_8 ar_i (by decide) rfl (by decide) (Nat.le_of_ble_eq_true rfl) (Nat.le_of_ble_eq_true rfl) ?_
  refine c_put (w := .ref 103) (cc := (8, 2, [.ref 103, .int 0], z0, zn)) dL_init_10 fuL_11 ⟨_, _, _, _, rfl, rfl, rfl, rfl⟩ hc_8 (Nat.le_of_ble_eq_true rfl) rfl (Nat.le_of_ble_eq_true rfl) rfl rfl ?_
  exact c_ret dL_init_13 rfl rfl
def pf_51 (F : CF) : CF := wr F [(0, (0, 14, df_0, z0, zn)), (1, (1, 8, df_1, z0, zn)), (2, (20, 132, [], z0, zn)), (1, (1, 8, [.ref 2, .int 0, .int 0, .int 0, .int 0, .int 0, .int 0, .int 0], z0, zn)), (3, (1, 8, df_1, z0, zn)), (4, (20, 132, [], z0, zn)), (3, (1, 8, [.ref 4, .int 0, .int 0, .int 0, .int 0, .int 0, .int 0, .int 0], z0, zn)), (5, (11, 14, df_11, z0, zn)), (6, (6, 4, df_6, z0, zn)), (6, (6, 4, [.int 16, .int 0, .null, .int 0], z0, zn)), (6, (6, 4, [.int 16, .int 5, .null, .int 0], z0, zn)), (7, (20, 80, [], z0, zn)), (6, (6, 4, [.int 16, .int 5, .ref 7, .int 0], z0, zn)), (6, (6, 4, [.int 16, .int 5, .ref 7, .int 0], z0, zn)), (5, (11, 14, [.ref 6, .null, .null, .null, .null, .null, .null, .null, .null, .null, .null, .null, .null, .null], z0, zn)), (8, (6, 4, df_6, z0, zn)), (8, (6, 4, [.int 400, .int 0, .null, .int 0], z0, zn)), (8, (6, 4, [.int 400, .int 2, .null, .int 0], z0, zn)), (9, (20, 800, [], z0, zn)), (8, (6, 4, [.int 400, .int 2, .ref 9, .int 0], z0, zn)), (8, (6, 4, [.int 400, .int 2, .ref 9, .int 0], z0, zn)), (5, (11, 14, [.ref 6, .ref 8, .null, .null, .null, .null, .null, .null, .null, .null, .null, .null, .null, .null], z0, zn)), (10, (6, 4, df_6, z0, zn)), (10, (6, 4, [.int 16, .int 0, .null, .int 0], z0, zn)), (10, (6, 4, [.int 16, .int 5, .null, .int 0], z0, zn)), (11, (20, 80, [], z0, zn)), (10, (6, 4, [.int 16, .int 5, .ref 11, .int 0], z0, zn)), (10, (6, 4, [.int 16, .int 5, .ref 11, .int 0], z0, zn)), (5, (11, 14, [.ref 6, .ref 8, .ref 10, .null, .null, .null, .null, .null, .null, .null, .null, .null, .null, .null], z0, zn)), (12, (6, 4, df_6, z0, zn)), (12, (6, 4, [.int 16, .int 0, .null, .int 0], z0, zn)), (12, (6, 4, [.int 16, .int 5, .null, .int 0], z0, zn)), (13, (20, 80, [], z0, zn)), (12, (6, 4, [.int 16, .int 5, .ref 13, .int 0], z0, zn)), (12, (6, 4, [.int 16, .int 5, .ref 13, .int 0], z0, zn)), (5, (11, 14, [.ref 6, .ref 8, .ref 10, .ref 12, .null, .null, .null, .null, .null, .null, .null, .null, .null, .null], z0, zn)), (14, (6, 4, df_6, z0, zn)), (14, (6, 4, [.int 16, .int 0, .null, .int 0], z0, zn)), (14, (6, 4, [.int 16, .int 5, .null, .int 0], z0, zn)), (15, (20, 80, [], z0, zn)), (14, (6, 4, [.int 16, .int 5, .ref 15, .int 0], z0, zn)), (14, (6, 4, [.int 16, .int 5, .ref 15, .int 0], z0, zn)), (5, (11, 14, [.ref 6, .ref 8, .ref 10, .ref 12, .ref 14, .null, .null, .null, .null, .null, .null, .null, .null, .null], z0, zn)), (16, (6, 4, df_6, z0, zn)), (16, (6, 4, [.int 150, .int 0, .null, .int 0], z0, zn)), (16, (6, 4, [.int 150, .int 4, .null, .int 0], z0, zn)), (17, (20, 600, [], z0, zn)), (16, (6, 4, [.int 150, .int 4, .ref 17, .int 0], z0, zn)), (16, (6, 4, [.int 150, .int 4, .ref 17, .int 0], z0, zn)), (5, (11, 14, [.ref 6, .ref 8, .ref 10, .ref 12, .ref 14, .ref 16, .null, .null, .null, .null, .null, .null, .null, .null], z0, zn)), (18, (6, 4, df_6, z0, zn)), (18, (6, 4, [.int 9, .int 0, .null, .int 0], z0, zn)), (18, (6, 4, [.int 9, .int 1, .null, .int 0], z0, zn)), (19, (20, 9, [], z0, zn)), (18, (6, 4, [.int 9, .int 1, .ref 19, .int 0], z0, zn)), (18, (6, 4, [.int 9, .int 1, .ref 19, .int 0], z0, zn)), (5, (11, 14, [.ref 6, .ref 8, .ref 10, .ref 12, .ref 14, .ref 16, .ref 18, .null, .null, .null, .null, .null, .null, .null], z0, zn)), (20, (6, 4, df_6, z0, zn)), (20, (6, 4, [.int 8, .int 0, .null, .int 0], z0, zn)), (20, (6, 4, [.int 8, .int 1, .null, .int 0], z0, zn)), (21, (20, 8, [], z0, zn)), (20, (6, 4, [.int 8, .int 1, .ref 21, .int 0], z0, zn)), (20, (6, 4, [.int 8, .int 1, .ref 21, .int 0], z0, zn)), (5, (11, 14, [.ref 6, .ref 8, .ref 10, .ref 12, .ref 14, .ref 16, .ref 18, .ref 20, .null, .null, .null, .null, .null, .null], z0, zn)), (22, (6, 4, df_6, z0, zn)), (22, (6, 4, [.int 5, .int 0, .null, .int 0], z0, zn)), (22, (6, 4, [.int 5, .int 1, .null, .int 0], z0, zn)), (23, (20, 5, [], z0, zn)), (22, (6, 4, [.int 5, .int 1, .ref 23, .int 0], z0, zn)), (22, (6, 4, [.int 5, .int 1, .ref 23, .int 0], z0, zn)), (5, (11, 14, [.ref 6, .ref 8, .ref 10, .ref 12, .ref 14, .ref 16, .ref 18, .ref 20, .ref 22, .null, .null, .null, .null, .null], z0, zn)), (24, (6, 4, df_6, z0, zn)), (24, (6, 4, [.int 8, .int 0, .null, .int 0], z0, zn)), (24, (6, 4, [.int 8, .int 2, .null, .int 0], z0, zn)), (25, (20, 16, [], z0, zn)), (24, (6, 4, [.int 8, .int 2, .ref 25, .int 0], z0, zn)), (24, (6, 4, [.int 8, .int 2, .ref 25, .int 0], z0, zn)), (5, (11, 14, [.ref 6, .ref 8, .ref 10, .ref 12, .ref 14, .ref 16, .ref 18, .ref 20, .ref 22, .ref 24, .null, .null, .null, .null], z0, zn)), (26, (6, 4, df_6, z0, zn)), (26, (6, 4, [.int 16, .int 0, .null, .int 0], z0, zn)), (26, (6, 4, [.int 16, .int 1, .null, .int 0], z0, zn)), (27, (20, 16, [], z0, zn)), (26, (6, 4, [.int 16, .int 1, .ref 27, .int 0], z0, zn)), (26, (6, 4, [.int 16, .int 1, .ref 27, .int 0], z0, zn)), (5, (11, 14, [.ref 6, .ref 8, .ref 10, .ref 12, .ref 14, .ref 16, .ref 18, .ref 20, .ref 22, .ref 24, .ref 26, .null, .null, .null], z0, zn)), (28, (6, 4, df_6, z0, zn)), (28, (6, 4, [.int 6, .int 0, .null, .int 0], z0, zn)), (28, (6, 4, [.int 6, .int 2, .null, .int 0], z0, zn)), (29, (20, 12, [], z0, zn)), (28, (6, 4, [.int 6, .int 2, .ref 29, .int 0], z0, zn)), (28, (6, 4, [.int 6, .int 2, .ref 29, .int 0], z0, zn)), (5, (11, 14, [.ref 6, .ref 8, .ref 10, .ref 12, .ref 14, .ref 16, .ref 18, .ref 20, .ref 22, .ref 24, .ref 26, .ref 28, .null, .null], z0, zn)), (30, (6, 4, df_6, z0, zn)), (30, (6, 4, [.int 12, .int 0, .null, .int 0], z0, zn)), (30, (6, 4, [.int 12, .int 2, .null, .int 0], z0, zn)), (31, (20, 24, [], z0, zn)), (30, (6, 4, [.int 12, .int 2, .ref 31, .int 0], z0, zn)), (30, (6, 4, [.int 12, .int 2, .ref 31, .int 0], z0, zn)), (5, (11, 14, [.ref 6, .ref 8, .ref 10, .ref 12, .ref 14, .ref 16, .ref 18, .ref 20, .ref 22, .ref 24, .ref 26, .ref 28, .ref 30, .null], z0, zn)), (32, (6, 4, df_6, z0, zn)), (32, (6, 4, [.int 8, .int 0, .null, .int 0], z0, zn)), (32, (6, 4, [.int 8, .int 2, .null, .int 0], z0, zn)), (33, (20, 16, [], z0, zn)), (32, (6, 4, [.int 8, .int 2, .ref 33, .int 0], z0, zn)), (32, (6, 4, [.int 8, .int 2, .ref 33, .int 0], z0, zn)), (5, (11, 14, [.ref 6, .ref 8, .ref 10, .ref 12, .ref 14, .ref 16, .ref 18, .ref 20, .ref 22, .ref 24, .ref 26, .ref 28, .ref 30, .ref 32], z0, zn)), (34, (3, 5, df_3, z0, zn)), (35, (20, 12, [], z0, zn)), (34, (3, 5, [.null, .null, .ref 35, .null, .int 0], z0, zn)), (36, (20, 64, [], z0, zn)), (34, (3, 5, [.null, .null, .ref 35, .ref 36, .int 0], z0, zn)), (34, (3, 5, [.ref 6, .null, .ref 35, .ref 36, .int 0], z0, zn)), (34, (3, 5, [.ref 6, .ref 8, .ref 35, .ref 36, .int 0], z0, zn)), (0, (0, 14, [.ref 1, .null, .null, .null, .null, .null, .null, .null, .null, .null, .null, .null, .null, .int 0], z0, zn)), (0, (0, 14, [.ref 1, .null, .ref 3, .null, .null, .null, .null, .null, .null, .null, .null, .null, .null, .int 0], z0, zn)), (0, (0, 14, [.ref 1, .null, .ref 3, .ref 5, .null, .null, .null, .null, .null, .null, .null, .null, .null, .int 0], z0, zn)), (37, (1, 8, df_1, z0, zn)), (38, (20, 132, [], z0, zn)), (37, (1, 8, [.ref 38, .int 0, .int 0, .int 0, .int 0, .int 0, .int 0, .int 0], z0, zn)), (0, (0, 14, [.ref 1, .ref 37, .ref 3, .ref 5, .null, .null, .null, .null, .null, .null, .null, .null, .null, .int 0], z0, zn)), (39, (11, 14, df_11, z0, zn)), (40, (6, 4, df_6, z0, zn)), (40, (6, 4, [.int 16, .int 0, .null, .int 0], z0, zn)), (40, (6, 4, [.int 16, .int 5, .null, .int 0], z0, zn)), (41, (20, 80, [], z0, zn)), (40, (6, 4, [.int 16, .int 5, .ref 41, .int 0], z0, zn)), (40, (6, 4, [.int 16, .int 5, .ref 41, .int 0], z0, zn)), (39, (11, 14, [.ref 40, .null, .null, .null, .null, .null, .null, .null, .null, .null, .null, .null, .null, .null], z0, zn)), (42, (6, 4, df_6, z0, zn)), (42, (6, 4, [.int 400, .int 0, .null, .int 0], z0, zn)), (42, (6, 4, [.int 400, .int 2, .null, .int 0], z0, zn)), (43, (20, 800, [], z0, zn)), (42, (6, 4, [.int 400, .int 2, .ref 43, .int 0], z0, zn)), (42, (6, 4, [.int 400, .int 2, .ref 43, .int 0], z0, zn)), (39, (11, 14, [.ref 40, .ref 42, .null, .null, .null, .null, .null, .null, .null, .null, .null, .null, .null, .null], z0, zn)), (44, (6, 4, df_6, z0, zn)), (44, (6, 4, [.int 16, .int 0, .null, .int 0], z0, zn)), (44, (6, 4, [.int 16, .int 5, .null, .int 0], z0, zn)), (45, (20, 80, [], z0, zn)), (44, (6, 4, [.int 16, .int 5, .ref 45, .int 0], z0, zn)), (44, (6, 4, [.int 16, .int 5, .ref 45, .int 0], z0, zn)), (39, (11, 14, [.ref 40, .ref 42, .ref 44, .null, .null, .null, .null, .null, .null, .null, .null, .null, .null, .null], z0, zn)), (46, (6, 4, df_6, z0, zn)), (46, (6, 4, [.int 16, .int 0, .null, .int 0], z0, zn)), (46, (6, 4, [.int 16, .int 5, .null, .int 0], z0, zn)), (47, (20, 80, [], z0, zn)), (46, (6, 4, [.int 16, .int 5, .ref 47, .int 0], z0, zn)), (46, (6, 4, [.int 16, .int 5, .ref 47, .int 0], z0, zn)), (39, (11, 14, [.ref 40, .ref 42, .ref 44, .ref 46, .null, .null, .null, .null, .null, .null, .null, .null, .null, .null], z0, zn)), (48, (6, 4, df_6, z0, zn)), (48, (6, 4, [.int 16, .int 0, .null, .int 0], z0, zn)), (48, (6, 4, [.int 16, .int 5, .null, .int 0], z0, zn)), (49, (20, 80, [], z0, zn)), (48, (6, 4, [.int 16, .int 5, .ref 49, .int 0], z0, zn)), (48, (6, 4, [.int 16, .int 5, .ref 49, .int 0], z0, zn)), (39, (11, 14, [.ref 40, .ref 42, .ref 44, .ref 46, .ref 48, .null, .null, .null, .null, .null, .null, .null, .null, .null], z0, zn)), (50, (6, 4, df_6, z0, zn)), (50, (6, 4, [.int 150, .int 0, .null, .int 0], z0, zn)), (50, (6, 4, [.int 150, .int 4, .null, .int 0], z0, zn)), (51, (20, 600, [], z0, zn)), (50, (6, 4, [.int 150, .int 4, .ref 51, .int 0], z0, zn)), (50, (6, 4, [.int 150, .int 4, .ref 51, .int 0], z0, zn)), (39, (11, 14, [.ref 40, .ref 42, .ref 44, .ref 46, .ref 48, .ref 50, .null, .null, .null, .null, .null, .null, .null, .null], z0, zn)), (52, (6, 4, df_6, z0, zn)), (52, (6, 4, [.int 9, .int 0, .null, .int 0], z0, zn)), (52, (6, 4, [.int 9, .int 1, .null, .int 0], z0, zn)), (53, (20, 9, [], z0, zn)), (52, (6, 4, [.int 9, .int 1, .ref 53, .int 0], z0, zn)), (52, (6, 4, [.int 9, .int 1, .ref 53, .int 0], z0, zn)), (39, (11, 14, [.ref 40, .ref 42, .ref 44, .ref 46, .ref 48, .ref 50, .ref 52, .null, .null, .null, .null, .null, .null, .null], z0, zn)), (54, (6, 4, df_6, z0, zn)), (54, (6, 4, [.int 8, .int 0, .null, .int 0], z0, zn)), (54, (6, 4, [.int 8, .int 1, .null, .int 0], z0, zn)), (55, (20, 8, [], z0, zn)), (54, (6, 4, [.int 8, .int 1, .ref 55, .int 0], z0, zn)), (54, (6, 4, [.int 8, .int 1, .ref 55, .int 0], z0, zn)), (39, (11, 14, [.ref 40, .ref 42, .ref 44, .ref 46, .ref 48, .ref 50, .ref 52, .ref 54, .null, .null, .null, .null, .null, .null], z0, zn)), (56, (6, 4, df_6, z0, zn)), (56, (6, 4, [.int 5, .int 0, .null, .int 0], z0, zn)), (56, (6, 4, [.int 5, .int 1, .null, .int 0], z0, zn)), (57, (20, 5, [], z0, zn)), (56, (6, 4, [.int 5, .int 1, .ref 57, .int 0], z0, zn)), (56, (6, 4, [.int 5, .int 1, .ref 57, .int 0], z0, zn)), (39, (11, 14, [.ref 40, .ref 42, .ref 44, .ref 46, .ref 48, .ref 50, .ref 52, .ref 54, .ref 56, .null, .null, .null, .null, .null], z0, zn)), (58, (6, 4, df_6, z0, zn)), (58, (6, 4, [.int 8, .int 0, .null, .int 0], z0, zn)), (58, (6, 4, [.int 8, .int 2, .null, .int 0], z0, zn)), (59, (20, 16, [], z0, zn)), (58, (6, 4, [.int 8, .int 2, .ref 59, .int 0], z0, zn)), (58, (6, 4, [.int 8, .int 2, .ref 59, .int 0], z0, zn)), (39, (11, 14, [.ref 40, .ref 42, .ref 44, .ref 46, .ref 48, .ref 50, .ref 52, .ref 54, .ref 56, .ref 58, .null, .null, .null, .null], z0, zn)), (60, (6, 4, df_6, z0, zn)), (60, (6, 4, [.int 16, .int 0, .null, .int 0], z0, zn)), (60, (6, 4, [.int 16, .int 1, .null, .int 0], z0, zn)), (61, (20, 16, [], z0, zn)), (60, (6, 4, [.int 16, .int 1, .ref 61, .int 0], z0, zn)), (60, (6, 4, [.int 16, .int 1, .ref 61, .int 0], z0, zn)), (39, (11, 14, [.ref 40, .ref 42, .ref 44, .ref 46, .ref 48, .ref 50, .ref 52, .ref 54, .ref 56, .ref 58, .ref 60, .null, .null, .null], z0, zn)), (62, (6, 4, df_6, z0, zn)), (62, (6, 4, [.int 6, .int 0, .null, .int 0], z0, zn)), (62, (6, 4, [.int 6, .int 2, .null, .int 0], z0, zn)), (63, (20, 12, [], z0, zn)), (62, (6, 4, [.int 6, .int 2, .ref 63, .int 0], z0, zn)), (62, (6, 4, [.int 6, .int 2, .ref 63, .int 0], z0, zn)), (39, (11, 14, [.ref 40, .ref 42, .ref 44, .ref 46, .ref 48, .ref 50, .ref 52, .ref 54, .ref 56, .ref 58, .ref 60, .ref 62, .null, .null], z0, zn)), (64, (6, 4, df_6, z0, zn)), (64, (6, 4, [.int 12, .int 0, .null, .int 0], z0, zn)), (64, (6, 4, [.int 12, .int 2, .null, .int 0], z0, zn)), (65, (20, 24, [], z0, zn)), (64, (6, 4, [.int 12, .int 2, .ref 65, .int 0], z0, zn)), (64, (6, 4, [.int 12, .int 2, .ref 65, .int 0], z0, zn)), (39, (11, 14, [.ref 40, .ref 42, .ref 44, .ref 46, .ref 48, .ref 50, .ref 52, .ref 54, .ref 56, .ref 58, .ref 60, .ref 62, .ref 64, .null], z0, zn)), (66, (6, 4, df_6, z0, zn)), (66, (6, 4, [.int 8, .int 0, .null, .int 0], z0, zn)), (66, (6, 4, [.int 8, .int 2, .null, .int 0], z0, zn)), (67, (20, 16, [], z0, zn)), (66, (6, 4, [.int 8, .int 2, .ref 67, .int 0], z0, zn)), (66, (6, 4, [.int 8, .int 2, .ref 67, .int 0], z0, zn)), (39, (11, 14, [.ref 40, .ref 42, .ref 44, .ref 46, .ref 48, .ref 50, .ref 52, .ref 54, .ref 56, .ref 58, .ref 60, .ref 62, .ref 64, .ref 66], z0, zn)), (0, (0, 14, [.ref 1, .ref 37, .ref 3, .ref 5, .ref 39, .null, .null, .null, .null, .null, .null, .null, .null, .int 0], z0, zn)), (68, (7, 4, df_7, z0, zn)), (68, (7, 4, [.ref 1, .null, .null, .int 0], z0, zn)), (68, (7, 4, [.ref 1, .ref 5, .null, .int 0], z0, zn)), (68, (7, 4, [.ref 1, .ref 5, .ref 34, .int 0], z0, zn)), (68, (7, 4, [.ref 1, .ref 5, .ref 34, .int 1], z0, zn)), (0, (0, 14, [.ref 1, .ref 37, .ref 3, .ref 5, .ref 39, .ref 68, .null, .null, .null, .null, .null, .null, .null, .int 0], z0, zn)), (69, (7, 4, df_7, z0, zn)), (69, (7, 4, [.ref 3, .null, .null, .int 0], z0, zn)), (69, (7, 4, [.ref 3, .ref 5, .null, .int 0], z0, zn)), (69, (7, 4, [.ref 3, .ref 5, .ref 34, .int 0], z0, zn)), (69, (7, 4, [.ref 3, .ref 5, .ref 34, .int 0], z0, zn)), (0, (0, 14, [.ref 1, .ref 37, .ref 3, .ref 5, .ref 39, .ref 68, .ref 69, .null, .null, .null, .null, .null, .null, .int 0], z0, zn)), (70, (4, 4, df_4, z0, zn)), (71, (22, 6, [], z0, zn)), (70, (4, 4, [.ref 71, .null, .int 0, .int 0], z0, zn)), (72, (20, 6, [], z0, zn)), (70, (4, 4, [.ref 71, .ref 72, .int 0, .int 0], z0, zn)), (73, (1, 8, df_1, z0, zn)), (74, (20, 132, [], z0, zn)), (73, (1, 8, [.ref 74, .int 0, .int 0, .int 0, .int 0, .int 0, .int 0, .int 0], z0, zn)), (71, (22, 6, [], z0, rz_1)), (75, (1, 8, df_1, z0, zn)), (76, (20, 132, [], z0, zn)), (75, (1, 8, [.ref 76, .int 0, .int 0, .int 0, .int 0, .int 0, .int 0, .int 0], z0, zn)), (71, (22, 6, [], z0, rz_2)), (77, (1, 8, df_1, z0, zn)), (78, (20, 132, [], z0, zn)), (77, (1, 8, [.ref 78, .int 0, .int 0, .int 0, .int 0, .int 0, .int 0, .int 0], z0, zn)), (71, (22, 6, [], z0, rz_3)), (79, (1, 8, df_1, z0, zn)), (80, (20, 132, [], z0, zn)), (79, (1, 8, [.ref 80, .int 0, .int 0, .int 0, .int 0, .int 0, .int 0, .int 0], z0, zn)), (71, (22, 6, [], z0, rz_4)), (81, (1, 8, df_1, z0, zn)), (82, (20, 132, [], z0, zn)), (81, (1, 8, [.ref 82, .int 0, .int 0, .int 0, .int 0, .int 0, .int 0, .int 0], z0, zn)), (71, (22, 6, [], z0, rz_5)), (83, (1, 8, df_1, z0, zn)), (84, (20, 132, [], z0, zn)), (83, (1, 8, [.ref 84, .int 0, .int 0, .int 0, .int 0, .int 0, .int 0, .int 0], z0, zn)), (71, (22, 6, [], z0, rz_6)), (0, (0, 14, [.ref 1, .ref 37, .ref 3, .ref 5, .ref 39, .ref 68, .ref 69, .ref 70, .null, .null, .null, .null, .null, .int 0], z0, zn)), (85, (10, 6, df_10, z0, zn)), (86, (21, 400, [], z0, zn)), (85, (10, 6, [.ref 86, .null, .null, .null, .int 0, .int 0], z0, zn)), (87, (20, 401, [], z0, zn)), (85, (10, 6, [.ref 86, .ref 87, .null, .null, .int 0, .int 0], z0, zn)), (88, (20, 401, [], z0, zn)), (85, (10, 6, [.ref 86, .ref 87, .ref 88, .null, .int 0, .int 0], z0, zn)), (89, (20, 401, [], z0, zn)), (85, (10, 6, [.ref 86, .ref 87, .ref 88, .ref 89, .int 0, .int 0], z0, zn)), (0, (0, 14, [.ref 1, .ref 37, .ref 3, .ref 5, .ref 39, .ref 68, .ref 69, .ref 70, .ref 85, .null, .null, .null, .null, .int 0], z0, zn)), (90, (5, 10, df_5, z0, zn)), (91, (6, 4, df_6, z0, zn)), (91, (6, 4, [.int 16, .int 0, .null, .int 0], z0, zn)), (91, (6, 4, [.int 16, .int 5, .null, .int 0], z0, zn)), (92, (20, 80, [], z0, zn)), (91, (6, 4, [.int 16, .int 5, .ref 92, .int 0], z0, zn)), (91, (6, 4, [.int 16, .int 5, .ref 92, .int 0], z0, zn)), (90, (5, 10, [.ref 91, .null, .int 0, .int 0, .null, .int 0, .int 0, .int 0, .int 0, .int 0], z0, zn)), (93, (6, 4, df_6, z0, zn)), (93, (6, 4, [.int 400, .int 0, .null, .int 0], z0, zn)), (93, (6, 4, [.int 400, .int 2, .null, .int 0], z0, zn)), (94, (20, 800, [], z0, zn)), (93, (6, 4, [.int 400, .int 2, .ref 94, .int 0], z0, zn)), (93, (6, 4, [.int 400, .int 2, .ref 94, .int 0], z0, zn)), (90, (5, 10, [.ref 91, .ref 93, .int 0, .int 0, .null, .int 0, .int 0, .int 0, .int 0, .int 0], z0, zn)), (90, (5, 10, [.ref 91, .ref 93, .int 0, .int 0, .null, .int 0, .int 0, .int 0, .int 0, .int 0], z0, zn)), (90, (5, 10, [.ref 91, .ref 93, .int 0, .int (-1), .null, .int 0, .int 0, .int 0, .int 0, .int 0], z0, zn)), (90, (5, 10, [.ref 91, .ref 93, .int 0, .int (-1), .ref 85, .int 0, .int 0, .int 0, .int 0, .int 0], z0, zn)), (0, (0, 14, [.ref 1, .ref 37, .ref 3, .ref 5, .ref 39, .ref 68, .ref 69, .ref 70, .ref 85, .ref 90, .null, .null, .null, .int 0], z0, zn)), (95, (9, 2, df_9, z0, zn)), (96, (20, 12, [], z0, zn)), (95, (9, 2, [.ref 96, .null], z0, zn)), (97, (20, 12, [], z0, zn)), (95, (9, 2, [.ref 96, .ref 97], z0, zn)), (0, (0, 14, [.ref 1, .ref 37, .ref 3, .ref 5, .ref 39, .ref 68, .ref 69, .ref 70, .ref 85, .ref 90, .ref 95, .null, .null, .int 0], z0, zn)), (98, (2, 3, df_2, z0, zn)), (99, (20, 8, [], z0, zn)), (98, (2, 3, [.ref 99, .null, .null], z0, zn)), (100, (20, 17, [], z0, zn)), (98, (2, 3, [.ref 99, .ref 100, .null], z0, zn)), (101, (20, 17, [], z0, zn)), (98, (2, 3, [.ref 99, .ref 100, .ref 101], z0, zn)), (0, (0, 14, [.ref 1, .ref 37, .ref 3, .ref 5, .ref 39, .ref 68, .ref 69, .ref 70, .ref 85, .ref 90, .ref 95, .ref 98, .null, .int 0], z0, zn)), (102, (8, 2, df_8, z0, zn)), (103, (20, 1024, [], z0, zn)), (102, (8, 2, [.ref 103, .int 0], z0, zn)), (0, (0, 14, [.ref 1, .ref 37, .ref 3, .ref 5, .ref 39, .ref 68, .ref 69, .ref 70, .ref 85, .ref 90, .ref 95, .ref 98, .ref 102, .int 0], z0, zn)), (0, (0, 14, [.ref 1, .ref 37, .ref 3, .ref 5, .ref 39, .ref 68, .ref 69, .ref 70, .ref 85, .ref 90, .ref 95, .ref 98, .ref 102, .int 0], z0, zn))]
set_option maxRecDepth 40000 in
theorem kx_51 (G : GG) (d : Nat) (F : CF) : Kc G tX_init (d + 2) 103 8761 [.ref (gB G + 0)] 1 (sF F 0 (0, 14, df_0, z0, zn)) 104 (pf_51 F) := by
  refine K_of_Vc (by decide) rfl (by simp [cat_i, cat_r]) (by simp [tX_init]) ?_
  refine c_aload (i := 0) dX_init_0 rfl ?_
  refine c_obj dX_init_1 mlX_1 (Nat.le_of_ble_eq_true rfl) ?_
  refine c_new (ci := 1) (ty := ty_1) df_1 dX_init_4 clX_7 in_1 iz_1 rfl ty_ok_1 df_ok_1 rfl (Nat.le_of_ble_eq_true rfl) (Nat.le_of_ble_eq_true rfl) ?_
  refine c_dup dX_init_7 rfl ?_
  refine c_callN (M' := tB_init) dX_init_8 mlX_9 okiB_init rfl rfl (Nat.le_of_ble_eq_true rfl) (Nat.le_of_ble_eq_true rfl) (Nat.le_of_ble_eq_true rfl) (kx_1 G (d + 1) _) ?_
  refine c_astore (i := 1) dX_init_11 (by decide) rfl ?_
  refine c_new (ci := 1) (ty := ty_1) df_1 dX_init_12 clX_7 in_1 iz_1 rfl ty_ok_1 df_ok_1 rfl (Nat.le_of_ble_eq_true rfl) (Nat.le_of_ble_eq_true rfl) ?_
  refine c_dup dX_init_15 rfl ?_
  refine c_callN (M' := tB_init) dX_init_16 mlX_9 okiB_init rfl rfl (Nat.le_of_ble_eq_true rfl) (Nat.le_of_ble_eq_true rfl) (Nat.le_of_ble_eq_true rfl) (kx_2 G (d + 1) _) ?_
  refine c_astore (i := 2) dX_init_19 (by decide) rfl ?_
  refine c_new (ci := 11) (ty := ty_11) df_11 dX_init_20 clX_10 in_11 iz_11 rfl ty_ok_11 df_ok_11 rfl (Nat.le_of_ble_eq_true rfl) (Nat.le_of_ble_eq_true rfl) ?_
  refine c_dup dX_init_23 rfl ?_
  refine c_callN (M' := tO_init) dX_init_24 mlX_12 okiO_init rfl rfl (Nat.le_of_ble_eq_true rfl) (Nat.le_of_ble_eq_true rfl) (Nat.le_of_ble_eq_true rfl) (kx_17 G d _) ?_
  refine c_astore (i := 3) dX_init_27 (by decide) rfl ?_
  refine c_new (ci := 3) (ty := ty_3) df_3 dX_init_28 clX_13 in_3 iz_3 rfl ty_ok_3 df_ok_3 rfl (Nat.le_of_ble_eq_true rfl) (Nat.le_of_ble_eq_true rfl) ?_
  refine c_dup dX_init_31 rfl ?_
  refine c_aload (i := 3) dX_init_32 rfl ?_
  refine c_get (w := .ref 6) (w' := .ref (gB G + 6)) dX_init_33 fuX_15 (Nat.le_of_ble_eq_true rfl) rfl rfl rfl ?_
  refine c_aload (i := 3) dX_init_36 rfl ?_
  refine c_get (w := .ref 8) (w' := .ref (gB G + 8)) dX_init_37 fuX_19 (Nat.le_of_ble_eq_true rfl) rfl rfl rfl ?_
  refine c_call (M' := tW_init) dX_init_40 mlX_22 okiW_init rfl rfl (Nat.le_of_ble_eq_true rfl) (Nat.le_of_ble_eq_true rfl) (Nat.le_of_ble_eq_true rfl) (kx_18 G (d + 1) _) ?_
  refine c_astore (i := 4) dX_init_43 (by decide) rfl ?_
  refine c_aload (i := 0) dX_init_45 rfl ?_
  refine c_aload (i := 1) dX_init_46 rfl ?_
  refine c_put (w := .ref 1) (cc := (0, 14, [.ref 1, .null, .null, .null, .null, .null, .null, .null, .null, .null, .null, .null, .null, .int 0], z0, zn)) dX_init_47 fuX_25 ⟨_, _, _, _, rfl, rfl, rfl, rfl⟩ hc_0 (Nat.le_of_ble_eq_true rfl) rfl (Nat.le_of_ble_eq_true rfl) rfl rfl ?_
  refine c_aload (i := 0) dX_init_50 rfl ?_
  refine c_aload (i := 2) dX_init_51 rfl ?_
  refine c_put (w := .ref 3) (cc := (0, 14, [.ref 1, .null, .ref 3, .null, .null, .null, .null, .null, .null, .null, .null, .null, .null, .int 0], z0, zn)) dX_init_52 fuX_31 ⟨_, _, _, _, rfl, rfl, rfl, rfl⟩ hc_0 (Nat.le_of_ble_eq_true rfl) rfl (Nat.le_of_ble_eq_true rfl) rfl rfl ?_
  refine c_aload (i := 0) dX_init_55 rfl ?_
  refine c_aload (i := 3) dX_init_56 rfl ?_
  refine c_put (w := .ref 5) (cc := (0, 14, [.ref 1, .null, .ref 3, .ref 5, .null, .null, .null, .null, .null, .null, .null, .null, .null, .int 0], z0, zn)) dX_init_57 fuX_34 ⟨_, _, _, _, rfl, rfl, rfl, rfl⟩ hc_0 (Nat.le_of_ble_eq_true rfl) rfl (Nat.le_of_ble_eq_true rfl) rfl rfl ?_
  refine c_aload (i := 0) dX_init_60 rfl ?_
  refine c_new (ci := 1) (ty := ty_1) df_1 dX_init_61 clX_7 in_1 iz_1 rfl ty_ok_1 df_ok_1 rfl (Nat.le_of_ble_eq_true rfl) (Nat.le_of_ble_eq_true rfl) ?_
  refine c_dup dX_init_64 rfl ?_
  refine c_callN (M' := tB_init) dX_init_65 mlX_9 okiB_init rfl rfl (Nat.le_of_ble_eq_true rfl) (Nat.le_of_ble_eq_true rfl) (Nat.le_of_ble_eq_true rfl) (kx_19 G (d + 1) _) ?_
  refine c_put (w := .ref 37) (cc := (0, 14, [.ref 1, .ref 37, .ref 3, .ref 5, .null, .null, .null, .null, .null, .null, .null, .null, .null, .int 0], z0, zn)) dX_init_68 fuX_38 ⟨_, _, _, _, rfl, rfl, rfl, rfl⟩ hc_0 (Nat.le_of_ble_eq_true rfl) rfl (Nat.le_of_ble_eq_true rfl) rfl rfl ?_
  refine c_aload (i := 0) dX_init_71 rfl ?_
  refine c_new (ci := 11) (ty := ty_11) df_11 dX_init_72 clX_10 in_11 iz_11 rfl ty_ok_11 df_ok_11 rfl (Nat.le_of_ble_eq_true rfl) (Nat.le_of_ble_eq_true rfl) ?_
  refine c_dup dX_init_75 rfl ?_
  refine c_callN (M' := tO_init) dX_init_76 mlX_12 okiO_init rfl rfl (Nat.le_of_ble_eq_true rfl) (Nat.le_of_ble_eq_true rfl) (Nat.le_of_ble_eq_true rfl) (kx_34 G d _) ?_
  refine c_put (w := .ref 39) (cc := (0, 14, [.ref 1, .ref 37, .ref 3, .ref 5, .ref 39, .null, .null, .null, .null, .null, .null, .null, .null, .int 0], z0, zn)) dX_init_79 fuX_41 ⟨_, _, _, _, rfl, rfl, rfl, rfl⟩ hc_0 (Nat.le_of_ble_eq_true rfl) rfl (Nat.le_of_ble_eq_true rfl) rfl rfl ?_
  refine c_aload (i := 0) dX_init_82 rfl ?_
  refine c_new (ci := 7) (ty := ty_7) df_7 dX_init_83 clX_44 in_7 iz_7 rfl ty_ok_7 df_ok_7 rfl (Nat.le_of_ble_eq_true rfl) (Nat.le_of_ble_eq_true rfl) ?_
  refine c_dup dX_init_86 rfl ?_
  refine c_aload (i := 1) dX_init_87 rfl ?_
  refine c_aload (i := 3) dX_init_88 rfl ?_
  refine c_aload (i := 4) dX_init_89 rfl ?_
  refine c_iconst (x := 1) dX_init_91 rfl ?_
  refine c_call (M' := tS_init) dX_init_92 mlX_46 okiS_init rfl rfl (Nat.le_of_ble_eq_true rfl) (Nat.le_of_ble_eq_true rfl) (Nat.le_of_ble_eq_true rfl) (kx_35 G (d + 1) _) ?_
  refine c_put (w := .ref 68) (cc := (0, 14, [.ref 1, .ref 37, .ref 3, .ref 5, .ref 39, .ref 68, .null, .null, .null, .null, .null, .null, .null, .int 0], z0, zn)) dX_init_95 fuX_49 ⟨_, _, _, _, rfl, rfl, rfl, rfl⟩ hc_0 (Nat.le_of_ble_eq_true rfl) rfl (Nat.le_of_ble_eq_true rfl) rfl rfl ?_
  refine c_aload (i := 0) dX_init_98 rfl ?_
  refine c_new (ci := 7) (ty := ty_7) df_7 dX_init_99 clX_44 in_7 iz_7 rfl ty_ok_7 df_ok_7 rfl (Nat.le_of_ble_eq_true rfl) (Nat.le_of_ble_eq_true rfl) ?_
  refine c_dup dX_init_102 rfl ?_
  refine c_aload (i := 2) dX_init_103 rfl ?_
  refine c_aload (i := 3) dX_init_104 rfl ?_
  refine c_aload (i := 4) dX_init_105 rfl ?_
  refine c_iconst (x := 0) dX_init_107 rfl ?_
  refine c_call (M' := tS_init) dX_init_108 mlX_46 okiS_init rfl rfl (Nat.le_of_ble_eq_true rfl) (Nat.le_of_ble_eq_true rfl) (Nat.le_of_ble_eq_true rfl) (kx_36 G (d + 1) _) ?_
  refine c_put (w := .ref 69) (cc := (0, 14, [.ref 1, .ref 37, .ref 3, .ref 5, .ref 39, .ref 68, .ref 69, .null, .null, .null, .null, .null, .null, .int 0], z0, zn)) dX_init_111 fuX_53 ⟨_, _, _, _, rfl, rfl, rfl, rfl⟩ hc_0 (Nat.le_of_ble_eq_true rfl) rfl (Nat.le_of_ble_eq_true rfl) rfl rfl ?_
  refine c_aload (i := 0) dX_init_114 rfl ?_
  refine c_new (ci := 4) (ty := ty_4) df_4 dX_init_115 clX_56 in_4 iz_4 rfl ty_ok_4 df_ok_4 rfl (Nat.le_of_ble_eq_true rfl) (Nat.le_of_ble_eq_true rfl) ?_
  refine c_dup dX_init_118 rfl ?_
  refine c_call (M' := tP_init) dX_init_119 mlX_58 okiP_init rfl rfl (Nat.le_of_ble_eq_true rfl) (Nat.le_of_ble_eq_true rfl) (Nat.le_of_ble_eq_true rfl) (kx_43 G d _) ?_
  refine c_put (w := .ref 70) (cc := (0, 14, [.ref 1, .ref 37, .ref 3, .ref 5, .ref 39, .ref 68, .ref 69, .ref 70, .null, .null, .null, .null, .null, .int 0], z0, zn)) dX_init_122 fuX_59 ⟨_, _, _, _, rfl, rfl, rfl, rfl⟩ hc_0 (Nat.le_of_ble_eq_true rfl) rfl (Nat.le_of_ble_eq_true rfl) rfl rfl ?_
  refine c_new (ci := 10) (ty := ty_10) df_10 dX_init_125 clX_63 in_10 iz_10 rfl ty_ok_10 df_ok_10 rfl (Nat.le_of_ble_eq_true rfl) (Nat.le_of_ble_eq_true rfl) ?_
  refine c_dup dX_init_128 rfl ?_
  refine c_callN (M' := tA_init) dX_init_129 mlX_65 okiA_init rfl rfl (Nat.le_of_ble_eq_true rfl) (Nat.le_of_ble_eq_true rfl) (Nat.le_of_ble_eq_true rfl) (kx_44 G (d + 1) _) ?_
  refine c_astore (i := 5) dX_init_132 (by decide) rfl ?_
  refine c_aload (i := 0) dX_init_134 rfl ?_
  refine c_aload (i := 5) dX_init_135 rfl ?_
  refine c_put (w := .ref 85) (cc := (0, 14, [.ref 1, .ref 37, .ref 3, .ref 5, .ref 39, .ref 68, .ref 69, .ref 70, .ref 85, .null, .null, .null, .null, .int 0], z0, zn)) dX_init_137 fuX_66 ⟨_, _, _, _, rfl, rfl, rfl, rfl⟩ hc_0 (Nat.le_of_ble_eq_true rfl) rfl (Nat.le_of_ble_eq_true rfl) rfl rfl ?_
  refine c_aload (i := 0) dX_init_140 rfl ?_
  refine c_new (ci := 5) (ty := ty_5) df_5 dX_init_141 clX_70 in_5 iz_5 rfl ty_ok_5 df_ok_5 rfl (Nat.le_of_ble_eq_true rfl) (Nat.le_of_ble_eq_true rfl) ?_
  refine c_dup dX_init_144 rfl ?_
  refine c_aload (i := 5) dX_init_145 rfl ?_
  refine c_call (M' := tD_init) dX_init_147 mlX_72 okiD_init rfl rfl (Nat.le_of_ble_eq_true rfl) (Nat.le_of_ble_eq_true rfl) (Nat.le_of_ble_eq_true rfl) (kx_47 G d _) ?_
  refine c_put (w := .ref 90) (cc := (0, 14, [.ref 1, .ref 37, .ref 3, .ref 5, .ref 39, .ref 68, .ref 69, .ref 70, .ref 85, .ref 90, .null, .null, .null, .int 0], z0, zn)) dX_init_150 fuX_75 ⟨_, _, _, _, rfl, rfl, rfl, rfl⟩ hc_0 (Nat.le_of_ble_eq_true rfl) rfl (Nat.le_of_ble_eq_true rfl) rfl rfl ?_
  refine c_aload (i := 0) dX_init_153 rfl ?_
  refine c_new (ci := 9) (ty := ty_9) df_9 dX_init_154 clX_79 in_9 iz_9 rfl ty_ok_9 df_ok_9 rfl (Nat.le_of_ble_eq_true rfl) (Nat.le_of_ble_eq_true rfl) ?_
  refine c_dup dX_init_157 rfl ?_
  refine c_callN (M' := tT_init) dX_init_158 mlX_81 okiT_init rfl rfl (Nat.le_of_ble_eq_true rfl) (Nat.le_of_ble_eq_true rfl) (Nat.le_of_ble_eq_true rfl) (kx_48 G (d + 1) _) ?_
  refine c_put (w := .ref 95) (cc := (0, 14, [.ref 1, .ref 37, .ref 3, .ref 5, .ref 39, .ref 68, .ref 69, .ref 70, .ref 85, .ref 90, .ref 95, .null, .null, .int 0], z0, zn)) dX_init_161 fuX_82 ⟨_, _, _, _, rfl, rfl, rfl, rfl⟩ hc_0 (Nat.le_of_ble_eq_true rfl) rfl (Nat.le_of_ble_eq_true rfl) rfl rfl ?_
  refine c_aload (i := 0) dX_init_164 rfl ?_
  refine c_new (ci := 2) (ty := ty_2) df_2 dX_init_165 clX_86 in_2 iz_2 rfl ty_ok_2 df_ok_2 rfl (Nat.le_of_ble_eq_true rfl) (Nat.le_of_ble_eq_true rfl) ?_
  refine c_dup dX_init_168 rfl ?_
  refine c_callN (M' := tK_init) dX_init_169 mlX_88 okiK_init rfl rfl (Nat.le_of_ble_eq_true rfl) (Nat.le_of_ble_eq_true rfl) (Nat.le_of_ble_eq_true rfl) (kx_49 G (d + 1) _) ?_
  refine c_put (w := .ref 98) (cc := (0, 14, [.ref 1, .ref 37, .ref 3, .ref 5, .ref 39, .ref 68, .ref 69, .ref 70, .ref 85, .ref 90, .ref 95, .ref 98, .null, .int 0], z0, zn)) dX_init_172 fuX_89 ⟨_, _, _, _, rfl, rfl, rfl, rfl⟩ hc_0 (Nat.le_of_ble_eq_true rfl) rfl (Nat.le_of_ble_eq_true rfl) rfl rfl ?_
  refine c_aload (i := 0) dX_init_175 rfl ?_
  refine c_new (ci := 8) (ty := ty_8) df_8 dX_init_176 clX_93 in_8 iz_8 rfl ty_ok_8 df_ok_8 rfl (Nat.le_of_ble_eq_true rfl) (Nat.le_of_ble_eq_true rfl) ?_
  refine c_dup dX_init_179 rfl ?_
  refine c_callN (M' := tL_init) dX_init_180 mlX_95 okiL_init rfl rfl (Nat.le_of_ble_eq_true rfl) (Nat.le_of_ble_eq_true rfl) (Nat.le_of_ble_eq_true rfl) (kx_50 G (d + 1) _) ?_
  refine c_put (w := .ref 102) (cc := (0, 14, [.ref 1, .ref 37, .ref 3, .ref 5, .ref 39, .ref 68, .ref 69, .ref 70, .ref 85, .ref 90, .ref 95, .ref 98, .ref 102, .int 0], z0, zn)) dX_init_183 fuX_96 ⟨_, _, _, _, rfl, rfl, rfl, rfl⟩ hc_0 (Nat.le_of_ble_eq_true rfl) rfl (Nat.le_of_ble_eq_true rfl) rfl rfl ?_
  refine c_aload (i := 0) dX_init_186 rfl ?_
  refine c_iconst (x := 0) dX_init_187 rfl ?_
  refine c_put (w := .int 0) (cc := (0, 14, [.ref 1, .ref 37, .ref 3, .ref 5, .ref 39, .ref 68, .ref 69, .ref 70, .ref 85, .ref 90, .ref 95, .ref 98, .ref 102, .int 0], z0, zn)) dX_init_188 fuX_100 ⟨_, _, _, _, rfl, rfl, rfl, rfl⟩ hc_0 (Nat.le_of_ble_eq_true rfl) rfl (Nat.le_of_ble_eq_true rfl) rfl rfl ?_
  exact c_ret dX_init_191 rfl rfl
def wz_7 : Nat → Int32 := upd z0 0 32
def wz_8 : Nat → Int32 := upd wz_7 1 114
def wz_9 : Nat → Int32 := upd wz_8 2 101
def wz_10 : Nat → Int32 := upd wz_9 3 110
def wz_11 : Nat → Int32 := upd wz_10 4 116
def wz_12 : Nat → Int32 := upd wz_11 5 32
def wz_13 : Nat → Int32 := upd wz_12 6 103
def wz_14 : Nat → Int32 := upd wz_13 7 110
def wz_15 : Nat → Int32 := upd wz_14 8 97
def wz_16 : Nat → Int32 := upd wz_15 9 119
def wz_17 : Nat → Int32 := upd wz_16 10 115
def wz_18 : Nat → Int32 := upd wz_17 11 32
def wz_19 : Nat → Int32 := upd wz_18 12 109
def wz_20 : Nat → Int32 := upd wz_19 13 101
def wz_21 : Nat → Int32 := upd wz_20 14 108
def wz_22 : Nat → Int32 := upd wz_21 15 116
def wz_23 : Nat → Int32 := upd wz_22 16 115
def wz_24 : Nat → Int32 := upd wz_23 17 32
def wz_25 : Nat → Int32 := upd wz_24 18 119
def wz_26 : Nat → Int32 := upd wz_25 19 104
def wz_27 : Nat → Int32 := upd wz_26 20 101
def wz_28 : Nat → Int32 := upd wz_27 21 110
def wz_29 : Nat → Int32 := upd wz_28 22 32
def wz_30 : Nat → Int32 := upd wz_29 23 111
def wz_31 : Nat → Int32 := upd wz_30 24 114
def wz_32 : Nat → Int32 := upd wz_31 25 32
def wz_33 : Nat → Int32 := upd wz_32 26 97
def wz_34 : Nat → Int32 := upd wz_33 27 110
def wz_35 : Nat → Int32 := upd wz_34 28 100
def wz_36 : Nat → Int32 := upd wz_35 29 32
def wz_37 : Nat → Int32 := upd wz_36 30 110
def wz_38 : Nat → Int32 := upd wz_37 31 111
def wz_39 : Nat → Int32 := upd wz_38 32 116
def wz_40 : Nat → Int32 := upd wz_39 33 32
def wz_41 : Nat → Int32 := upd wz_40 34 119
def wz_42 : Nat → Int32 := upd wz_41 35 97
def wz_43 : Nat → Int32 := upd wz_42 36 108
def wz_44 : Nat → Int32 := upd wz_43 37 108
def wz_45 : Nat → Int32 := upd wz_44 38 32
def wz_46 : Nat → Int32 := upd wz_45 39 115
def wz_47 : Nat → Int32 := upd wz_46 40 117
def wz_48 : Nat → Int32 := upd wz_47 41 109
def wz_49 : Nat → Int32 := upd wz_48 42 32
def wz_50 : Nat → Int32 := upd wz_49 43 97
def wz_51 : Nat → Int32 := upd wz_50 44 108
def wz_52 : Nat → Int32 := upd wz_51 45 109
def wz_53 : Nat → Int32 := upd wz_52 46 111
def wz_54 : Nat → Int32 := upd wz_53 47 110
def wz_55 : Nat → Int32 := upd wz_54 48 100
def wz_56 : Nat → Int32 := upd wz_55 49 115
def wz_57 : Nat → Int32 := upd wz_56 50 32
def wz_58 : Nat → Int32 := upd wz_57 51 116
def wz_59 : Nat → Int32 := upd wz_58 52 101
def wz_60 : Nat → Int32 := upd wz_59 53 101
def wz_61 : Nat → Int32 := upd wz_60 54 116
def wz_62 : Nat → Int32 := upd wz_61 55 104
def wz_63 : Nat → Int32 := upd wz_62 56 32
def wz_64 : Nat → Int32 := upd wz_63 57 104
def wz_65 : Nat → Int32 := upd wz_64 58 97
def wz_66 : Nat → Int32 := upd wz_65 59 114
def wz_67 : Nat → Int32 := upd wz_66 60 100
def wz_68 : Nat → Int32 := upd wz_67 61 32
def wz_69 : Nat → Int32 := upd wz_68 62 105
def wz_70 : Nat → Int32 := upd wz_69 63 99
def wz_71 : Nat → Int32 := upd wz_70 64 105
def wz_72 : Nat → Int32 := upd wz_71 65 110
def wz_73 : Nat → Int32 := upd wz_72 66 103
def wz_74 : Nat → Int32 := upd wz_73 67 32
def wz_75 : Nat → Int32 := upd wz_74 68 108
def wz_76 : Nat → Int32 := upd wz_75 69 111
def wz_77 : Nat → Int32 := upd wz_76 70 100
def wz_78 : Nat → Int32 := upd wz_77 71 103
def wz_79 : Nat → Int32 := upd wz_78 72 101
def wz_80 : Nat → Int32 := upd wz_79 73 114
def wz_81 : Nat → Int32 := upd wz_80 74 115
def wz_82 : Nat → Int32 := upd wz_81 75 32
def wz_83 : Nat → Int32 := upd wz_82 76 100
def wz_84 : Nat → Int32 := upd wz_83 77 111
def wz_85 : Nat → Int32 := upd wz_84 78 111
def wz_86 : Nat → Int32 := upd wz_85 79 114
def wz_87 : Nat → Int32 := upd wz_86 80 32
def wz_88 : Nat → Int32 := upd wz_87 81 97
def wz_89 : Nat → Int32 := upd wz_88 82 103
def wz_90 : Nat → Int32 := upd wz_89 83 101
def wz_91 : Nat → Int32 := upd wz_90 84 32
def wz_92 : Nat → Int32 := upd wz_91 85 114
def wz_93 : Nat → Int32 := upd wz_92 86 97
def wz_94 : Nat → Int32 := upd wz_93 87 105
def wz_95 : Nat → Int32 := upd wz_94 88 110
def wz_96 : Nat → Int32 := upd wz_95 89 32
def wz_97 : Nat → Int32 := upd wz_96 90 102
def wz_98 : Nat → Int32 := upd wz_97 91 114
def wz_99 : Nat → Int32 := upd wz_98 92 111
def wz_100 : Nat → Int32 := upd wz_99 93 115
def wz_101 : Nat → Int32 := upd wz_100 94 116
def wz_102 : Nat → Int32 := upd wz_101 95 32
def wz_103 : Nat → Int32 := upd wz_102 96 113
def wz_104 : Nat → Int32 := upd wz_103 97 117
def wz_105 : Nat → Int32 := upd wz_104 98 97
def wz_106 : Nat → Int32 := upd wz_105 99 114
def wz_107 : Nat → Int32 := upd wz_106 100 116
def wz_108 : Nat → Int32 := upd wz_107 101 101
def wz_109 : Nat → Int32 := upd wz_108 102 114
def wz_110 : Nat → Int32 := upd wz_109 103 32
def wz_111 : Nat → Int32 := upd wz_110 104 105
def wz_112 : Nat → Int32 := upd wz_111 105 110
def wz_113 : Nat → Int32 := upd wz_112 106 32
def wz_114 : Nat → Int32 := upd wz_113 107 116
def wz_115 : Nat → Int32 := upd wz_114 108 104
def wz_116 : Nat → Int32 := upd wz_115 109 97
def wz_117 : Nat → Int32 := upd wz_116 110 119
def wz_118 : Nat → Int32 := upd wz_117 111 32
def wz_119 : Nat → Int32 := upd wz_118 112 105
def wz_120 : Nat → Int32 := upd wz_119 113 99
def wz_121 : Nat → Int32 := upd wz_120 114 101
def wz_122 : Nat → Int32 := upd wz_121 115 32
def wz_123 : Nat → Int32 := upd wz_122 116 98
def wz_124 : Nat → Int32 := upd wz_123 117 97
def wz_125 : Nat → Int32 := upd wz_124 118 107
def wz_126 : Nat → Int32 := upd wz_125 119 101
def wz_127 : Nat → Int32 := upd wz_126 120 32
def wz_128 : Nat → Int32 := upd wz_127 121 119
def wz_129 : Nat → Int32 := upd wz_128 122 101
def wz_130 : Nat → Int32 := upd wz_129 123 100
def wz_131 : Nat → Int32 := upd wz_130 124 32
def wz_132 : Nat → Int32 := upd wz_131 125 114
def wz_133 : Nat → Int32 := upd wz_132 126 97
def wz_134 : Nat → Int32 := upd wz_133 127 122
def wz_135 : Nat → Int32 := upd wz_134 128 101
def wz_136 : Nat → Int32 := upd wz_135 129 32
def wz_137 : Nat → Int32 := upd wz_136 130 104
def wz_138 : Nat → Int32 := upd wz_137 131 111
def wz_139 : Nat → Int32 := upd wz_138 132 117
def wz_140 : Nat → Int32 := upd wz_139 133 115
def wz_141 : Nat → Int32 := upd wz_140 134 101
def wz_142 : Nat → Int32 := upd wz_141 135 32
def wz_143 : Nat → Int32 := upd wz_142 136 110
def wz_144 : Nat → Int32 := upd wz_143 137 101
def wz_145 : Nat → Int32 := upd wz_144 138 120
def wz_146 : Nat → Int32 := upd wz_145 139 116
def wz_147 : Nat → Int32 := upd wz_146 140 32
def pf_52 (F : CF) : CF := wr F [(104, (12, 75, df_12, z0, zn)), (105, (20, 115, [], z0, zn)), (104, (12, 75, [.int 0, .ref 105, .null, .int 0, .null, .int 0, .int 0, .null, .null, .null, .null, .int 0, .int 0, .int 0, .int 0, .int 0, .null, .null, .null, .null, .null, .null, .null, .null, .int 0, .int 0, .int 0, .null, .int 0, .int 0, .int 0, .int 0, .int 0, .int 0, .null, .int 0, .null, .int 0, .null, .null, .null, .null, .int 0, .null, .null, .int 0, .null, .null, .null, .int 0, .null, .int 0, .null, .null, .int 0, .null, .null, .int 0, .null, .null, .null, .null, .int 0, .null, .null, .null, .int 0, .null, .null, .null, .null, .int 0, .int 0, .int 0, .null], z0, zn)), (106, (20, 690, [], z0, zn)), (104, (12, 75, [.int 0, .ref 105, .ref 106, .int 0, .null, .int 0, .int 0, .null, .null, .null, .null, .int 0, .int 0, .int 0, .int 0, .int 0, .null, .null, .null, .null, .null, .null, .null, .null, .int 0, .int 0, .int 0, .null, .int 0, .int 0, .int 0, .int 0, .int 0, .int 0, .null, .int 0, .null, .int 0, .null, .null, .null, .null, .int 0, .null, .null, .int 0, .null, .null, .null, .int 0, .null, .int 0, .null, .null, .int 0, .null, .null, .int 0, .null, .null, .null, .null, .int 0, .null, .null, .null, .int 0, .null, .null, .null, .null, .int 0, .int 0, .int 0, .null], z0, zn)), (107, (20, 115, [], z0, zn)), (104, (12, 75, [.int 0, .ref 105, .ref 106, .int 0, .ref 107, .int 0, .int 0, .null, .null, .null, .null, .int 0, .int 0, .int 0, .int 0, .int 0, .null, .null, .null, .null, .null, .null, .null, .null, .int 0, .int 0, .int 0, .null, .int 0, .int 0, .int 0, .int 0, .int 0, .int 0, .null, .int 0, .null, .int 0, .null, .null, .null, .null, .int 0, .null, .null, .int 0, .null, .null, .null, .int 0, .null, .int 0, .null, .null, .int 0, .null, .null, .int 0, .null, .null, .null, .null, .int 0, .null, .null, .null, .int 0, .null, .null, .null, .null, .int 0, .int 0, .int 0, .null], z0, zn)), (108, (20, 12, [], z0, zn)), (104, (12, 75, [.int 0, .ref 105, .ref 106, .int 0, .ref 107, .int 0, .int 0, .ref 108, .null, .null, .null, .int 0, .int 0, .int 0, .int 0, .int 0, .null, .null, .null, .null, .null, .null, .null, .null, .int 0, .int 0, .int 0, .null, .int 0, .int 0, .int 0, .int 0, .int 0, .int 0, .null, .int 0, .null, .int 0, .null, .null, .null, .null, .int 0, .null, .null, .int 0, .null, .null, .null, .int 0, .null, .int 0, .null, .null, .int 0, .null, .null, .int 0, .null, .null, .null, .null, .int 0, .null, .null, .null, .int 0, .null, .null, .null, .null, .int 0, .int 0, .int 0, .null], z0, zn)), (109, (20, 12, [], z0, zn)), (104, (12, 75, [.int 0, .ref 105, .ref 106, .int 0, .ref 107, .int 0, .int 0, .ref 108, .ref 109, .null, .null, .int 0, .int 0, .int 0, .int 0, .int 0, .null, .null, .null, .null, .null, .null, .null, .null, .int 0, .int 0, .int 0, .null, .int 0, .int 0, .int 0, .int 0, .int 0, .int 0, .null, .int 0, .null, .int 0, .null, .null, .null, .null, .int 0, .null, .null, .int 0, .null, .null, .null, .int 0, .null, .int 0, .null, .null, .int 0, .null, .null, .int 0, .null, .null, .null, .null, .int 0, .null, .null, .null, .int 0, .null, .null, .null, .null, .int 0, .int 0, .int 0, .null], z0, zn)), (110, (20, 600, [], z0, zn)), (104, (12, 75, [.int 0, .ref 105, .ref 106, .int 0, .ref 107, .int 0, .int 0, .ref 108, .ref 109, .ref 110, .null, .int 0, .int 0, .int 0, .int 0, .int 0, .null, .null, .null, .null, .null, .null, .null, .null, .int 0, .int 0, .int 0, .null, .int 0, .int 0, .int 0, .int 0, .int 0, .int 0, .null, .int 0, .null, .int 0, .null, .null, .null, .null, .int 0, .null, .null, .int 0, .null, .null, .null, .int 0, .null, .int 0, .null, .null, .int 0, .null, .null, .int 0, .null, .null, .null, .null, .int 0, .null, .null, .null, .int 0, .null, .null, .null, .null, .int 0, .int 0, .int 0, .null], z0, zn)), (111, (20, 400, [], z0, zn)), (104, (12, 75, [.int 0, .ref 105, .ref 106, .int 0, .ref 107, .int 0, .int 0, .ref 108, .ref 109, .ref 110, .ref 111, .int 0, .int 0, .int 0, .int 0, .int 0, .null, .null, .null, .null, .null, .null, .null, .null, .int 0, .int 0, .int 0, .null, .int 0, .int 0, .int 0, .int 0, .int 0, .int 0, .null, .int 0, .null, .int 0, .null, .null, .null, .null, .int 0, .null, .null, .int 0, .null, .null, .null, .int 0, .null, .int 0, .null, .null, .int 0, .null, .null, .int 0, .null, .null, .null, .null, .int 0, .null, .null, .null, .int 0, .null, .null, .null, .null, .int 0, .int 0, .int 0, .null], z0, zn)), (112, (20, 141, [], z0, zn)), (112, (20, 141, [], wz_7, zn)), (112, (20, 141, [], wz_8, zn)), (112, (20, 141, [], wz_9, zn)), (112, (20, 141, [], wz_10, zn)), (112, (20, 141, [], wz_11, zn)), (112, (20, 141, [], wz_12, zn)), (112, (20, 141, [], wz_13, zn)), (112, (20, 141, [], wz_14, zn)), (112, (20, 141, [], wz_15, zn)), (112, (20, 141, [], wz_16, zn)), (112, (20, 141, [], wz_17, zn)), (112, (20, 141, [], wz_18, zn)), (112, (20, 141, [], wz_19, zn)), (112, (20, 141, [], wz_20, zn)), (112, (20, 141, [], wz_21, zn)), (112, (20, 141, [], wz_22, zn)), (112, (20, 141, [], wz_23, zn)), (112, (20, 141, [], wz_24, zn)), (112, (20, 141, [], wz_25, zn)), (112, (20, 141, [], wz_26, zn)), (112, (20, 141, [], wz_27, zn)), (112, (20, 141, [], wz_28, zn)), (112, (20, 141, [], wz_29, zn)), (112, (20, 141, [], wz_30, zn)), (112, (20, 141, [], wz_31, zn)), (112, (20, 141, [], wz_32, zn)), (112, (20, 141, [], wz_33, zn)), (112, (20, 141, [], wz_34, zn)), (112, (20, 141, [], wz_35, zn)), (112, (20, 141, [], wz_36, zn)), (112, (20, 141, [], wz_37, zn)), (112, (20, 141, [], wz_38, zn)), (112, (20, 141, [], wz_39, zn)), (112, (20, 141, [], wz_40, zn)), (112, (20, 141, [], wz_41, zn)), (112, (20, 141, [], wz_42, zn)), (112, (20, 141, [], wz_43, zn)), (112, (20, 141, [], wz_44, zn)), (112, (20, 141, [], wz_45, zn)), (112, (20, 141, [], wz_46, zn)), (112, (20, 141, [], wz_47, zn)), (112, (20, 141, [], wz_48, zn)), (112, (20, 141, [], wz_49, zn)), (112, (20, 141, [], wz_50, zn)), (112, (20, 141, [], wz_51, zn)), (112, (20, 141, [], wz_52, zn)), (112, (20, 141, [], wz_53, zn)), (112, (20, 141, [], wz_54, zn)), (112, (20, 141, [], wz_55, zn)), (112, (20, 141, [], wz_56, zn)), (112, (20, 141, [], wz_57, zn)), (112, (20, 141, [], wz_58, zn)), (112, (20, 141, [], wz_59, zn)), (112, (20, 141, [], wz_60, zn)), (112, (20, 141, [], wz_61, zn)), (112, (20, 141, [], wz_62, zn)), (112, (20, 141, [], wz_63, zn)), (112, (20, 141, [], wz_64, zn)), (112, (20, 141, [], wz_65, zn)), (112, (20, 141, [], wz_66, zn)), (112, (20, 141, [], wz_67, zn)), (112, (20, 141, [], wz_68, zn)), (112, (20, 141, [], wz_69, zn)), (112, (20, 141, [], wz_70, zn)), (112, (20, 141, [], wz_71, zn)), (112, (20, 141, [], wz_72, zn)), (112, (20, 141, [], wz_73, zn)), (112, (20, 141, [], wz_74, zn)), (112, (20, 141, [], wz_75, zn)), (112, (20, 141, [], wz_76, zn)), (112, (20, 141, [], wz_77, zn)), (112, (20, 141, [], wz_78, zn)), (112, (20, 141, [], wz_79, zn)), (112, (20, 141, [], wz_80, zn)), (112, (20, 141, [], wz_81, zn)), (112, (20, 141, [], wz_82, zn)), (112, (20, 141, [], wz_83, zn)), (112, (20, 141, [], wz_84, zn)), (112, (20, 141, [], wz_85, zn)), (112, (20, 141, [], wz_86, zn)), (112, (20, 141, [], wz_87, zn)), (112, (20, 141, [], wz_88, zn)), (112, (20, 141, [], wz_89, zn)), (112, (20, 141, [], wz_90, zn)), (112, (20, 141, [], wz_91, zn)), (112, (20, 141, [], wz_92, zn)), (112, (20, 141, [], wz_93, zn)), (112, (20, 141, [], wz_94, zn)), (112, (20, 141, [], wz_95, zn)), (112, (20, 141, [], wz_96, zn)), (112, (20, 141, [], wz_97, zn)), (112, (20, 141, [], wz_98, zn)), (112, (20, 141, [], wz_99, zn)), (112, (20, 141, [], wz_100, zn)), (112, (20, 141, [], wz_101, zn)), (112, (20, 141, [], wz_102, zn)), (112, (20, 141, [], wz_103, zn)), (112, (20, 141, [], wz_104, zn)), (112, (20, 141, [], wz_105, zn)), (112, (20, 141, [], wz_106, zn)), (112, (20, 141, [], wz_107, zn)), (112, (20, 141, [], wz_108, zn)), (112, (20, 141, [], wz_109, zn)), (112, (20, 141, [], wz_110, zn)), (112, (20, 141, [], wz_111, zn)), (112, (20, 141, [], wz_112, zn)), (112, (20, 141, [], wz_113, zn)), (112, (20, 141, [], wz_114, zn)), (112, (20, 141, [], wz_115, zn)), (112, (20, 141, [], wz_116, zn)), (112, (20, 141, [], wz_117, zn)), (112, (20, 141, [], wz_118, zn)), (112, (20, 141, [], wz_119, zn)), (112, (20, 141, [], wz_120, zn)), (112, (20, 141, [], wz_121, zn)), (112, (20, 141, [], wz_122, zn)), (112, (20, 141, [], wz_123, zn)), (112, (20, 141, [], wz_124, zn)), (112, (20, 141, [], wz_125, zn)), (112, (20, 141, [], wz_126, zn)), (112, (20, 141, [], wz_127, zn)), (112, (20, 141, [], wz_128, zn)), (112, (20, 141, [], wz_129, zn)), (112, (20, 141, [], wz_130, zn)), (112, (20, 141, [], wz_131, zn)), (112, (20, 141, [], wz_132, zn)), (112, (20, 141, [], wz_133, zn)), (112, (20, 141, [], wz_134, zn)), (112, (20, 141, [], wz_135, zn)), (112, (20, 141, [], wz_136, zn)), (112, (20, 141, [], wz_137, zn)), (112, (20, 141, [], wz_138, zn)), (112, (20, 141, [], wz_139, zn)), (112, (20, 141, [], wz_140, zn)), (112, (20, 141, [], wz_141, zn)), (112, (20, 141, [], wz_142, zn)), (112, (20, 141, [], wz_143, zn)), (112, (20, 141, [], wz_144, zn)), (112, (20, 141, [], wz_145, zn)), (112, (20, 141, [], wz_146, zn)), (112, (20, 141, [], wz_147, zn)), (104, (12, 75, [.int 0, .ref 105, .ref 106, .int 0, .ref 107, .int 0, .int 0, .ref 108, .ref 109, .ref 110, .ref 111, .int 0, .int 0, .int 0, .int 0, .int 0, .ref 112, .null, .null, .null, .null, .null, .null, .null, .int 0, .int 0, .int 0, .null, .int 0, .int 0, .int 0, .int 0, .int 0, .int 0, .null, .int 0, .null, .int 0, .null, .null, .null, .null, .int 0, .null, .null, .int 0, .null, .null, .null, .int 0, .null, .int 0, .null, .null, .int 0, .null, .null, .int 0, .null, .null, .null, .null, .int 0, .null, .null, .null, .int 0, .null, .null, .null, .null, .int 0, .int 0, .int 0, .null], z0, zn)), (113, (20, 2, [], z0, zn)), (104, (12, 75, [.int 0, .ref 105, .ref 106, .int 0, .ref 107, .int 0, .int 0, .ref 108, .ref 109, .ref 110, .ref 111, .int 0, .int 0, .int 0, .int 0, .int 0, .ref 112, .ref 113, .null, .null, .null, .null, .null, .null, .int 0, .int 0, .int 0, .null, .int 0, .int 0, .int 0, .int 0, .int 0, .int 0, .null, .int 0, .null, .int 0, .null, .null, .null, .null, .int 0, .null, .null, .int 0, .null, .null, .null, .int 0, .null, .int 0, .null, .null, .int 0, .null, .null, .int 0, .null, .null, .null, .null, .int 0, .null, .null, .null, .int 0, .null, .null, .null, .null, .int 0, .int 0, .int 0, .null], z0, zn)), (114, (20, 48, [], z0, zn)), (104, (12, 75, [.int 0, .ref 105, .ref 106, .int 0, .ref 107, .int 0, .int 0, .ref 108, .ref 109, .ref 110, .ref 111, .int 0, .int 0, .int 0, .int 0, .int 0, .ref 112, .ref 113, .ref 114, .null, .null, .null, .null, .null, .int 0, .int 0, .int 0, .null, .int 0, .int 0, .int 0, .int 0, .int 0, .int 0, .null, .int 0, .null, .int 0, .null, .null, .null, .null, .int 0, .null, .null, .int 0, .null, .null, .null, .int 0, .null, .int 0, .null, .null, .int 0, .null, .null, .int 0, .null, .null, .null, .null, .int 0, .null, .null, .null, .int 0, .null, .null, .null, .null, .int 0, .int 0, .int 0, .null], z0, zn)), (115, (20, 48, [], z0, zn)), (104, (12, 75, [.int 0, .ref 105, .ref 106, .int 0, .ref 107, .int 0, .int 0, .ref 108, .ref 109, .ref 110, .ref 111, .int 0, .int 0, .int 0, .int 0, .int 0, .ref 112, .ref 113, .ref 114, .ref 115, .null, .null, .null, .null, .int 0, .int 0, .int 0, .null, .int 0, .int 0, .int 0, .int 0, .int 0, .int 0, .null, .int 0, .null, .int 0, .null, .null, .null, .null, .int 0, .null, .null, .int 0, .null, .null, .null, .int 0, .null, .int 0, .null, .null, .int 0, .null, .null, .int 0, .null, .null, .null, .null, .int 0, .null, .null, .null, .int 0, .null, .null, .null, .null, .int 0, .int 0, .int 0, .null], z0, zn)), (116, (20, 48, [], z0, zn)), (104, (12, 75, [.int 0, .ref 105, .ref 106, .int 0, .ref 107, .int 0, .int 0, .ref 108, .ref 109, .ref 110, .ref 111, .int 0, .int 0, .int 0, .int 0, .int 0, .ref 112, .ref 113, .ref 114, .ref 115, .ref 116, .null, .null, .null, .int 0, .int 0, .int 0, .null, .int 0, .int 0, .int 0, .int 0, .int 0, .int 0, .null, .int 0, .null, .int 0, .null, .null, .null, .null, .int 0, .null, .null, .int 0, .null, .null, .null, .int 0, .null, .int 0, .null, .null, .int 0, .null, .null, .int 0, .null, .null, .null, .null, .int 0, .null, .null, .null, .int 0, .null, .null, .null, .null, .int 0, .int 0, .int 0, .null], z0, zn)), (117, (20, 48, [], z0, zn)), (104, (12, 75, [.int 0, .ref 105, .ref 106, .int 0, .ref 107, .int 0, .int 0, .ref 108, .ref 109, .ref 110, .ref 111, .int 0, .int 0, .int 0, .int 0, .int 0, .ref 112, .ref 113, .ref 114, .ref 115, .ref 116, .ref 117, .null, .null, .int 0, .int 0, .int 0, .null, .int 0, .int 0, .int 0, .int 0, .int 0, .int 0, .null, .int 0, .null, .int 0, .null, .null, .null, .null, .int 0, .null, .null, .int 0, .null, .null, .null, .int 0, .null, .int 0, .null, .null, .int 0, .null, .null, .int 0, .null, .null, .null, .null, .int 0, .null, .null, .null, .int 0, .null, .null, .null, .null, .int 0, .int 0, .int 0, .null], z0, zn)), (118, (20, 1200, [], z0, zn)), (104, (12, 75, [.int 0, .ref 105, .ref 106, .int 0, .ref 107, .int 0, .int 0, .ref 108, .ref 109, .ref 110, .ref 111, .int 0, .int 0, .int 0, .int 0, .int 0, .ref 112, .ref 113, .ref 114, .ref 115, .ref 116, .ref 117, .ref 118, .null, .int 0, .int 0, .int 0, .null, .int 0, .int 0, .int 0, .int 0, .int 0, .int 0, .null, .int 0, .null, .int 0, .null, .null, .null, .null, .int 0, .null, .null, .int 0, .null, .null, .null, .int 0, .null, .int 0, .null, .null, .int 0, .null, .null, .int 0, .null, .null, .null, .null, .int 0, .null, .null, .null, .int 0, .null, .null, .null, .null, .int 0, .int 0, .int 0, .null], z0, zn)), (119, (20, 1200, [], z0, zn)), (104, (12, 75, [.int 0, .ref 105, .ref 106, .int 0, .ref 107, .int 0, .int 0, .ref 108, .ref 109, .ref 110, .ref 111, .int 0, .int 0, .int 0, .int 0, .int 0, .ref 112, .ref 113, .ref 114, .ref 115, .ref 116, .ref 117, .ref 118, .ref 119, .int 0, .int 0, .int 0, .null, .int 0, .int 0, .int 0, .int 0, .int 0, .int 0, .null, .int 0, .null, .int 0, .null, .null, .null, .null, .int 0, .null, .null, .int 0, .null, .null, .null, .int 0, .null, .int 0, .null, .null, .int 0, .null, .null, .int 0, .null, .null, .null, .null, .int 0, .null, .null, .null, .int 0, .null, .null, .null, .null, .int 0, .int 0, .int 0, .null], z0, zn)), (120, (20, 40, [], z0, zn)), (104, (12, 75, [.int 0, .ref 105, .ref 106, .int 0, .ref 107, .int 0, .int 0, .ref 108, .ref 109, .ref 110, .ref 111, .int 0, .int 0, .int 0, .int 0, .int 0, .ref 112, .ref 113, .ref 114, .ref 115, .ref 116, .ref 117, .ref 118, .ref 119, .int 0, .int 0, .int 0, .ref 120, .int 0, .int 0, .int 0, .int 0, .int 0, .int 0, .null, .int 0, .null, .int 0, .null, .null, .null, .null, .int 0, .null, .null, .int 0, .null, .null, .null, .int 0, .null, .int 0, .null, .null, .int 0, .null, .null, .int 0, .null, .null, .null, .null, .int 0, .null, .null, .null, .int 0, .null, .null, .null, .null, .int 0, .int 0, .int 0, .null], z0, zn)), (104, (12, 75, [.int 0, .ref 105, .ref 106, .int 0, .ref 107, .int 0, .int 0, .ref 108, .ref 109, .ref 110, .ref 111, .int 0, .int 0, .int 0, .int 0, .int 0, .ref 112, .ref 113, .ref 114, .ref 115, .ref 116, .ref 117, .ref 118, .ref 119, .int 0, .int 0, .int 0, .ref 120, .int 0, .int 0, .int 0, .int 0, .int (-1), .int 0, .null, .int 0, .null, .int 0, .null, .null, .null, .null, .int 0, .null, .null, .int 0, .null, .null, .null, .int 0, .null, .int 0, .null, .null, .int 0, .null, .null, .int 0, .null, .null, .null, .null, .int 0, .null, .null, .null, .int 0, .null, .null, .null, .null, .int 0, .int 0, .int 0, .null], z0, zn)), (121, (20, 96, [], z0, zn)), (104, (12, 75, [.int 0, .ref 105, .ref 106, .int 0, .ref 107, .int 0, .int 0, .ref 108, .ref 109, .ref 110, .ref 111, .int 0, .int 0, .int 0, .int 0, .int 0, .ref 112, .ref 113, .ref 114, .ref 115, .ref 116, .ref 117, .ref 118, .ref 119, .int 0, .int 0, .int 0, .ref 120, .int 0, .int 0, .int 0, .int 0, .int (-1), .int 0, .ref 121, .int 0, .null, .int 0, .null, .null, .null, .null, .int 0, .null, .null, .int 0, .null, .null, .null, .int 0, .null, .int 0, .null, .null, .int 0, .null, .null, .int 0, .null, .null, .null, .null, .int 0, .null, .null, .null, .int 0, .null, .null, .null, .null, .int 0, .int 0, .int 0, .null], z0, zn)), (122, (20, 160, [], z0, zn)), (104, (12, 75, [.int 0, .ref 105, .ref 106, .int 0, .ref 107, .int 0, .int 0, .ref 108, .ref 109, .ref 110, .ref 111, .int 0, .int 0, .int 0, .int 0, .int 0, .ref 112, .ref 113, .ref 114, .ref 115, .ref 116, .ref 117, .ref 118, .ref 119, .int 0, .int 0, .int 0, .ref 120, .int 0, .int 0, .int 0, .int 0, .int (-1), .int 0, .ref 121, .int 0, .ref 122, .int 0, .null, .null, .null, .null, .int 0, .null, .null, .int 0, .null, .null, .null, .int 0, .null, .int 0, .null, .null, .int 0, .null, .null, .int 0, .null, .null, .null, .null, .int 0, .null, .null, .null, .int 0, .null, .null, .null, .null, .int 0, .int 0, .int 0, .null], z0, zn)), (123, (20, 24, [], z0, zn)), (104, (12, 75, [.int 0, .ref 105, .ref 106, .int 0, .ref 107, .int 0, .int 0, .ref 108, .ref 109, .ref 110, .ref 111, .int 0, .int 0, .int 0, .int 0, .int 0, .ref 112, .ref 113, .ref 114, .ref 115, .ref 116, .ref 117, .ref 118, .ref 119, .int 0, .int 0, .int 0, .ref 120, .int 0, .int 0, .int 0, .int 0, .int (-1), .int 0, .ref 121, .int 0, .ref 122, .int 0, .ref 123, .null, .null, .null, .int 0, .null, .null, .int 0, .null, .null, .null, .int 0, .null, .int 0, .null, .null, .int 0, .null, .null, .int 0, .null, .null, .null, .null, .int 0, .null, .null, .null, .int 0, .null, .null, .null, .null, .int 0, .int 0, .int 0, .null], z0, zn)), (124, (20, 12, [], z0, zn)), (104, (12, 75, [.int 0, .ref 105, .ref 106, .int 0, .ref 107, .int 0, .int 0, .ref 108, .ref 109, .ref 110, .ref 111, .int 0, .int 0, .int 0, .int 0, .int 0, .ref 112, .ref 113, .ref 114, .ref 115, .ref 116, .ref 117, .ref 118, .ref 119, .int 0, .int 0, .int 0, .ref 120, .int 0, .int 0, .int 0, .int 0, .int (-1), .int 0, .ref 121, .int 0, .ref 122, .int 0, .ref 123, .ref 124, .null, .null, .int 0, .null, .null, .int 0, .null, .null, .null, .int 0, .null, .int 0, .null, .null, .int 0, .null, .null, .int 0, .null, .null, .null, .null, .int 0, .null, .null, .null, .int 0, .null, .null, .null, .null, .int 0, .int 0, .int 0, .null], z0, zn)), (125, (20, 420, [], z0, zn)), (104, (12, 75, [.int 0, .ref 105, .ref 106, .int 0, .ref 107, .int 0, .int 0, .ref 108, .ref 109, .ref 110, .ref 111, .int 0, .int 0, .int 0, .int 0, .int 0, .ref 112, .ref 113, .ref 114, .ref 115, .ref 116, .ref 117, .ref 118, .ref 119, .int 0, .int 0, .int 0, .ref 120, .int 0, .int 0, .int 0, .int 0, .int (-1), .int 0, .ref 121, .int 0, .ref 122, .int 0, .ref 123, .ref 124, .ref 125, .null, .int 0, .null, .null, .int 0, .null, .null, .null, .int 0, .null, .int 0, .null, .null, .int 0, .null, .null, .int 0, .null, .null, .null, .null, .int 0, .null, .null, .null, .int 0, .null, .null, .null, .null, .int 0, .int 0, .int 0, .null], z0, zn)), (126, (20, 12, [], z0, zn)), (104, (12, 75, [.int 0, .ref 105, .ref 106, .int 0, .ref 107, .int 0, .int 0, .ref 108, .ref 109, .ref 110, .ref 111, .int 0, .int 0, .int 0, .int 0, .int 0, .ref 112, .ref 113, .ref 114, .ref 115, .ref 116, .ref 117, .ref 118, .ref 119, .int 0, .int 0, .int 0, .ref 120, .int 0, .int 0, .int 0, .int 0, .int (-1), .int 0, .ref 121, .int 0, .ref 122, .int 0, .ref 123, .ref 124, .ref 125, .ref 126, .int 0, .null, .null, .int 0, .null, .null, .null, .int 0, .null, .int 0, .null, .null, .int 0, .null, .null, .int 0, .null, .null, .null, .null, .int 0, .null, .null, .null, .int 0, .null, .null, .null, .null, .int 0, .int 0, .int 0, .null], z0, zn)), (127, (20, 9, [], z0, zn)), (104, (12, 75, [.int 0, .ref 105, .ref 106, .int 0, .ref 107, .int 0, .int 0, .ref 108, .ref 109, .ref 110, .ref 111, .int 0, .int 0, .int 0, .int 0, .int 0, .ref 112, .ref 113, .ref 114, .ref 115, .ref 116, .ref 117, .ref 118, .ref 119, .int 0, .int 0, .int 0, .ref 120, .int 0, .int 0, .int 0, .int 0, .int (-1), .int 0, .ref 121, .int 0, .ref 122, .int 0, .ref 123, .ref 124, .ref 125, .ref 126, .int 0, .ref 127, .null, .int 0, .null, .null, .null, .int 0, .null, .int 0, .null, .null, .int 0, .null, .null, .int 0, .null, .null, .null, .null, .int 0, .null, .null, .null, .int 0, .null, .null, .null, .null, .int 0, .int 0, .int 0, .null], z0, zn)), (128, (20, 100, [], z0, zn)), (104, (12, 75, [.int 0, .ref 105, .ref 106, .int 0, .ref 107, .int 0, .int 0, .ref 108, .ref 109, .ref 110, .ref 111, .int 0, .int 0, .int 0, .int 0, .int 0, .ref 112, .ref 113, .ref 114, .ref 115, .ref 116, .ref 117, .ref 118, .ref 119, .int 0, .int 0, .int 0, .ref 120, .int 0, .int 0, .int 0, .int 0, .int (-1), .int 0, .ref 121, .int 0, .ref 122, .int 0, .ref 123, .ref 124, .ref 125, .ref 126, .int 0, .ref 127, .ref 128, .int 0, .null, .null, .null, .int 0, .null, .int 0, .null, .null, .int 0, .null, .null, .int 0, .null, .null, .null, .null, .int 0, .null, .null, .null, .int 0, .null, .null, .null, .null, .int 0, .int 0, .int 0, .null], z0, zn)), (129, (20, 8, [], z0, zn)), (104, (12, 75, [.int 0, .ref 105, .ref 106, .int 0, .ref 107, .int 0, .int 0, .ref 108, .ref 109, .ref 110, .ref 111, .int 0, .int 0, .int 0, .int 0, .int 0, .ref 112, .ref 113, .ref 114, .ref 115, .ref 116, .ref 117, .ref 118, .ref 119, .int 0, .int 0, .int 0, .ref 120, .int 0, .int 0, .int 0, .int 0, .int (-1), .int 0, .ref 121, .int 0, .ref 122, .int 0, .ref 123, .ref 124, .ref 125, .ref 126, .int 0, .ref 127, .ref 128, .int 0, .ref 129, .null, .null, .int 0, .null, .int 0, .null, .null, .int 0, .null, .null, .int 0, .null, .null, .null, .null, .int 0, .null, .null, .null, .int 0, .null, .null, .null, .null, .int 0, .int 0, .int 0, .null], z0, zn)), (130, (20, 256, [], z0, zn)), (104, (12, 75, [.int 0, .ref 105, .ref 106, .int 0, .ref 107, .int 0, .int 0, .ref 108, .ref 109, .ref 110, .ref 111, .int 0, .int 0, .int 0, .int 0, .int 0, .ref 112, .ref 113, .ref 114, .ref 115, .ref 116, .ref 117, .ref 118, .ref 119, .int 0, .int 0, .int 0, .ref 120, .int 0, .int 0, .int 0, .int 0, .int (-1), .int 0, .ref 121, .int 0, .ref 122, .int 0, .ref 123, .ref 124, .ref 125, .ref 126, .int 0, .ref 127, .ref 128, .int 0, .ref 129, .ref 130, .null, .int 0, .null, .int 0, .null, .null, .int 0, .null, .null, .int 0, .null, .null, .null, .null, .int 0, .null, .null, .null, .int 0, .null, .null, .null, .null, .int 0, .int 0, .int 0, .null], z0, zn)), (131, (20, 8, [], z0, zn)), (104, (12, 75, [.int 0, .ref 105, .ref 106, .int 0, .ref 107, .int 0, .int 0, .ref 108, .ref 109, .ref 110, .ref 111, .int 0, .int 0, .int 0, .int 0, .int 0, .ref 112, .ref 113, .ref 114, .ref 115, .ref 116, .ref 117, .ref 118, .ref 119, .int 0, .int 0, .int 0, .ref 120, .int 0, .int 0, .int 0, .int 0, .int (-1), .int 0, .ref 121, .int 0, .ref 122, .int 0, .ref 123, .ref 124, .ref 125, .ref 126, .int 0, .ref 127, .ref 128, .int 0, .ref 129, .ref 130, .ref 131, .int 0, .null, .int 0, .null, .null, .int 0, .null, .null, .int 0, .null, .null, .null, .null, .int 0, .null, .null, .null, .int 0, .null, .null, .null, .null, .int 0, .int 0, .int 0, .null], z0, zn)), (132, (20, 5, [], z0, zn)), (104, (12, 75, [.int 0, .ref 105, .ref 106, .int 0, .ref 107, .int 0, .int 0, .ref 108, .ref 109, .ref 110, .ref 111, .int 0, .int 0, .int 0, .int 0, .int 0, .ref 112, .ref 113, .ref 114, .ref 115, .ref 116, .ref 117, .ref 118, .ref 119, .int 0, .int 0, .int 0, .ref 120, .int 0, .int 0, .int 0, .int 0, .int (-1), .int 0, .ref 121, .int 0, .ref 122, .int 0, .ref 123, .ref 124, .ref 125, .ref 126, .int 0, .ref 127, .ref 128, .int 0, .ref 129, .ref 130, .ref 131, .int 0, .ref 132, .int 0, .null, .null, .int 0, .null, .null, .int 0, .null, .null, .null, .null, .int 0, .null, .null, .null, .int 0, .null, .null, .null, .null, .int 0, .int 0, .int 0, .null], z0, zn)), (133, (20, 8, [], z0, zn)), (104, (12, 75, [.int 0, .ref 105, .ref 106, .int 0, .ref 107, .int 0, .int 0, .ref 108, .ref 109, .ref 110, .ref 111, .int 0, .int 0, .int 0, .int 0, .int 0, .ref 112, .ref 113, .ref 114, .ref 115, .ref 116, .ref 117, .ref 118, .ref 119, .int 0, .int 0, .int 0, .ref 120, .int 0, .int 0, .int 0, .int 0, .int (-1), .int 0, .ref 121, .int 0, .ref 122, .int 0, .ref 123, .ref 124, .ref 125, .ref 126, .int 0, .ref 127, .ref 128, .int 0, .ref 129, .ref 130, .ref 131, .int 0, .ref 132, .int 0, .ref 133, .null, .int 0, .null, .null, .int 0, .null, .null, .null, .null, .int 0, .null, .null, .null, .int 0, .null, .null, .null, .null, .int 0, .int 0, .int 0, .null], z0, zn)), (134, (20, 8, [], z0, zn)), (104, (12, 75, [.int 0, .ref 105, .ref 106, .int 0, .ref 107, .int 0, .int 0, .ref 108, .ref 109, .ref 110, .ref 111, .int 0, .int 0, .int 0, .int 0, .int 0, .ref 112, .ref 113, .ref 114, .ref 115, .ref 116, .ref 117, .ref 118, .ref 119, .int 0, .int 0, .int 0, .ref 120, .int 0, .int 0, .int 0, .int 0, .int (-1), .int 0, .ref 121, .int 0, .ref 122, .int 0, .ref 123, .ref 124, .ref 125, .ref 126, .int 0, .ref 127, .ref 128, .int 0, .ref 129, .ref 130, .ref 131, .int 0, .ref 132, .int 0, .ref 133, .ref 134, .int 0, .null, .null, .int 0, .null, .null, .null, .null, .int 0, .null, .null, .null, .int 0, .null, .null, .null, .null, .int 0, .int 0, .int 0, .null], z0, zn)), (135, (20, 16, [], z0, zn)), (104, (12, 75, [.int 0, .ref 105, .ref 106, .int 0, .ref 107, .int 0, .int 0, .ref 108, .ref 109, .ref 110, .ref 111, .int 0, .int 0, .int 0, .int 0, .int 0, .ref 112, .ref 113, .ref 114, .ref 115, .ref 116, .ref 117, .ref 118, .ref 119, .int 0, .int 0, .int 0, .ref 120, .int 0, .int 0, .int 0, .int 0, .int (-1), .int 0, .ref 121, .int 0, .ref 122, .int 0, .ref 123, .ref 124, .ref 125, .ref 126, .int 0, .ref 127, .ref 128, .int 0, .ref 129, .ref 130, .ref 131, .int 0, .ref 132, .int 0, .ref 133, .ref 134, .int 0, .ref 135, .null, .int 0, .null, .null, .null, .null, .int 0, .null, .null, .null, .int 0, .null, .null, .null, .null, .int 0, .int 0, .int 0, .null], z0, zn)), (136, (20, 1681, [], z0, zn)), (104, (12, 75, [.int 0, .ref 105, .ref 106, .int 0, .ref 107, .int 0, .int 0, .ref 108, .ref 109, .ref 110, .ref 111, .int 0, .int 0, .int 0, .int 0, .int 0, .ref 112, .ref 113, .ref 114, .ref 115, .ref 116, .ref 117, .ref 118, .ref 119, .int 0, .int 0, .int 0, .ref 120, .int 0, .int 0, .int 0, .int 0, .int (-1), .int 0, .ref 121, .int 0, .ref 122, .int 0, .ref 123, .ref 124, .ref 125, .ref 126, .int 0, .ref 127, .ref 128, .int 0, .ref 129, .ref 130, .ref 131, .int 0, .ref 132, .int 0, .ref 133, .ref 134, .int 0, .ref 135, .ref 136, .int 0, .null, .null, .null, .null, .int 0, .null, .null, .null, .int 0, .null, .null, .null, .null, .int 0, .int 0, .int 0, .null], z0, zn)), (137, (20, 6, [], z0, zn)), (104, (12, 75, [.int 0, .ref 105, .ref 106, .int 0, .ref 107, .int 0, .int 0, .ref 108, .ref 109, .ref 110, .ref 111, .int 0, .int 0, .int 0, .int 0, .int 0, .ref 112, .ref 113, .ref 114, .ref 115, .ref 116, .ref 117, .ref 118, .ref 119, .int 0, .int 0, .int 0, .ref 120, .int 0, .int 0, .int 0, .int 0, .int (-1), .int 0, .ref 121, .int 0, .ref 122, .int 0, .ref 123, .ref 124, .ref 125, .ref 126, .int 0, .ref 127, .ref 128, .int 0, .ref 129, .ref 130, .ref 131, .int 0, .ref 132, .int 0, .ref 133, .ref 134, .int 0, .ref 135, .ref 136, .int 0, .ref 137, .null, .null, .null, .int 0, .null, .null, .null, .int 0, .null, .null, .null, .null, .int 0, .int 0, .int 0, .null], z0, zn)), (138, (20, 6, [], z0, zn)), (104, (12, 75, [.int 0, .ref 105, .ref 106, .int 0, .ref 107, .int 0, .int 0, .ref 108, .ref 109, .ref 110, .ref 111, .int 0, .int 0, .int 0, .int 0, .int 0, .ref 112, .ref 113, .ref 114, .ref 115, .ref 116, .ref 117, .ref 118, .ref 119, .int 0, .int 0, .int 0, .ref 120, .int 0, .int 0, .int 0, .int 0, .int (-1), .int 0, .ref 121, .int 0, .ref 122, .int 0, .ref 123, .ref 124, .ref 125, .ref 126, .int 0, .ref 127, .ref 128, .int 0, .ref 129, .ref 130, .ref 131, .int 0, .ref 132, .int 0, .ref 133, .ref 134, .int 0, .ref 135, .ref 136, .int 0, .ref 137, .ref 138, .null, .null, .int 0, .null, .null, .null, .int 0, .null, .null, .null, .null, .int 0, .int 0, .int 0, .null], z0, zn)), (139, (20, 6, [], z0, zn)), (104, (12, 75, [.int 0, .ref 105, .ref 106, .int 0, .ref 107, .int 0, .int 0, .ref 108, .ref 109, .ref 110, .ref 111, .int 0, .int 0, .int 0, .int 0, .int 0, .ref 112, .ref 113, .ref 114, .ref 115, .ref 116, .ref 117, .ref 118, .ref 119, .int 0, .int 0, .int 0, .ref 120, .int 0, .int 0, .int 0, .int 0, .int (-1), .int 0, .ref 121, .int 0, .ref 122, .int 0, .ref 123, .ref 124, .ref 125, .ref 126, .int 0, .ref 127, .ref 128, .int 0, .ref 129, .ref 130, .ref 131, .int 0, .ref 132, .int 0, .ref 133, .ref 134, .int 0, .ref 135, .ref 136, .int 0, .ref 137, .ref 138, .ref 139, .null, .int 0, .null, .null, .null, .int 0, .null, .null, .null, .null, .int 0, .int 0, .int 0, .null], z0, zn)), (140, (20, 6, [], z0, zn)), (104, (12, 75, [.int 0, .ref 105, .ref 106, .int 0, .ref 107, .int 0, .int 0, .ref 108, .ref 109, .ref 110, .ref 111, .int 0, .int 0, .int 0, .int 0, .int 0, .ref 112, .ref 113, .ref 114, .ref 115, .ref 116, .ref 117, .ref 118, .ref 119, .int 0, .int 0, .int 0, .ref 120, .int 0, .int 0, .int 0, .int 0, .int (-1), .int 0, .ref 121, .int 0, .ref 122, .int 0, .ref 123, .ref 124, .ref 125, .ref 126, .int 0, .ref 127, .ref 128, .int 0, .ref 129, .ref 130, .ref 131, .int 0, .ref 132, .int 0, .ref 133, .ref 134, .int 0, .ref 135, .ref 136, .int 0, .ref 137, .ref 138, .ref 139, .ref 140, .int 0, .null, .null, .null, .int 0, .null, .null, .null, .null, .int 0, .int 0, .int 0, .null], z0, zn)), (141, (20, 12, [], z0, zn)), (104, (12, 75, [.int 0, .ref 105, .ref 106, .int 0, .ref 107, .int 0, .int 0, .ref 108, .ref 109, .ref 110, .ref 111, .int 0, .int 0, .int 0, .int 0, .int 0, .ref 112, .ref 113, .ref 114, .ref 115, .ref 116, .ref 117, .ref 118, .ref 119, .int 0, .int 0, .int 0, .ref 120, .int 0, .int 0, .int 0, .int 0, .int (-1), .int 0, .ref 121, .int 0, .ref 122, .int 0, .ref 123, .ref 124, .ref 125, .ref 126, .int 0, .ref 127, .ref 128, .int 0, .ref 129, .ref 130, .ref 131, .int 0, .ref 132, .int 0, .ref 133, .ref 134, .int 0, .ref 135, .ref 136, .int 0, .ref 137, .ref 138, .ref 139, .ref 140, .int 0, .ref 141, .null, .null, .int 0, .null, .null, .null, .null, .int 0, .int 0, .int 0, .null], z0, zn)), (142, (20, 21, [], z0, zn)), (104, (12, 75, [.int 0, .ref 105, .ref 106, .int 0, .ref 107, .int 0, .int 0, .ref 108, .ref 109, .ref 110, .ref 111, .int 0, .int 0, .int 0, .int 0, .int 0, .ref 112, .ref 113, .ref 114, .ref 115, .ref 116, .ref 117, .ref 118, .ref 119, .int 0, .int 0, .int 0, .ref 120, .int 0, .int 0, .int 0, .int 0, .int (-1), .int 0, .ref 121, .int 0, .ref 122, .int 0, .ref 123, .ref 124, .ref 125, .ref 126, .int 0, .ref 127, .ref 128, .int 0, .ref 129, .ref 130, .ref 131, .int 0, .ref 132, .int 0, .ref 133, .ref 134, .int 0, .ref 135, .ref 136, .int 0, .ref 137, .ref 138, .ref 139, .ref 140, .int 0, .ref 141, .ref 142, .null, .int 0, .null, .null, .null, .null, .int 0, .int 0, .int 0, .null], z0, zn)), (143, (20, 21, [], z0, zn)), (104, (12, 75, [.int 0, .ref 105, .ref 106, .int 0, .ref 107, .int 0, .int 0, .ref 108, .ref 109, .ref 110, .ref 111, .int 0, .int 0, .int 0, .int 0, .int 0, .ref 112, .ref 113, .ref 114, .ref 115, .ref 116, .ref 117, .ref 118, .ref 119, .int 0, .int 0, .int 0, .ref 120, .int 0, .int 0, .int 0, .int 0, .int (-1), .int 0, .ref 121, .int 0, .ref 122, .int 0, .ref 123, .ref 124, .ref 125, .ref 126, .int 0, .ref 127, .ref 128, .int 0, .ref 129, .ref 130, .ref 131, .int 0, .ref 132, .int 0, .ref 133, .ref 134, .int 0, .ref 135, .ref 136, .int 0, .ref 137, .ref 138, .ref 139, .ref 140, .int 0, .ref 141, .ref 142, .ref 143, .int 0, .null, .null, .null, .null, .int 0, .int 0, .int 0, .null], z0, zn)), (144, (20, 8, [], z0, zn)), (104, (12, 75, [.int 0, .ref 105, .ref 106, .int 0, .ref 107, .int 0, .int 0, .ref 108, .ref 109, .ref 110, .ref 111, .int 0, .int 0, .int 0, .int 0, .int 0, .ref 112, .ref 113, .ref 114, .ref 115, .ref 116, .ref 117, .ref 118, .ref 119, .int 0, .int 0, .int 0, .ref 120, .int 0, .int 0, .int 0, .int 0, .int (-1), .int 0, .ref 121, .int 0, .ref 122, .int 0, .ref 123, .ref 124, .ref 125, .ref 126, .int 0, .ref 127, .ref 128, .int 0, .ref 129, .ref 130, .ref 131, .int 0, .ref 132, .int 0, .ref 133, .ref 134, .int 0, .ref 135, .ref 136, .int 0, .ref 137, .ref 138, .ref 139, .ref 140, .int 0, .ref 141, .ref 142, .ref 143, .int 0, .ref 144, .null, .null, .null, .int 0, .int 0, .int 0, .null], z0, zn)), (145, (20, 8, [], z0, zn)), (104, (12, 75, [.int 0, .ref 105, .ref 106, .int 0, .ref 107, .int 0, .int 0, .ref 108, .ref 109, .ref 110, .ref 111, .int 0, .int 0, .int 0, .int 0, .int 0, .ref 112, .ref 113, .ref 114, .ref 115, .ref 116, .ref 117, .ref 118, .ref 119, .int 0, .int 0, .int 0, .ref 120, .int 0, .int 0, .int 0, .int 0, .int (-1), .int 0, .ref 121, .int 0, .ref 122, .int 0, .ref 123, .ref 124, .ref 125, .ref 126, .int 0, .ref 127, .ref 128, .int 0, .ref 129, .ref 130, .ref 131, .int 0, .ref 132, .int 0, .ref 133, .ref 134, .int 0, .ref 135, .ref 136, .int 0, .ref 137, .ref 138, .ref 139, .ref 140, .int 0, .ref 141, .ref 142, .ref 143, .int 0, .ref 144, .ref 145, .null, .null, .int 0, .int 0, .int 0, .null], z0, zn)), (146, (20, 16807, [], z0, zn)), (104, (12, 75, [.int 0, .ref 105, .ref 106, .int 0, .ref 107, .int 0, .int 0, .ref 108, .ref 109, .ref 110, .ref 111, .int 0, .int 0, .int 0, .int 0, .int 0, .ref 112, .ref 113, .ref 114, .ref 115, .ref 116, .ref 117, .ref 118, .ref 119, .int 0, .int 0, .int 0, .ref 120, .int 0, .int 0, .int 0, .int 0, .int (-1), .int 0, .ref 121, .int 0, .ref 122, .int 0, .ref 123, .ref 124, .ref 125, .ref 126, .int 0, .ref 127, .ref 128, .int 0, .ref 129, .ref 130, .ref 131, .int 0, .ref 132, .int 0, .ref 133, .ref 134, .int 0, .ref 135, .ref 136, .int 0, .ref 137, .ref 138, .ref 139, .ref 140, .int 0, .ref 141, .ref 142, .ref 143, .int 0, .ref 144, .ref 145, .ref 146, .null, .int 0, .int 0, .int 0, .null], z0, zn)), (147, (20, 5, [], z0, zn)), (104, (12, 75, [.int 0, .ref 105, .ref 106, .int 0, .ref 107, .int 0, .int 0, .ref 108, .ref 109, .ref 110, .ref 111, .int 0, .int 0, .int 0, .int 0, .int 0, .ref 112, .ref 113, .ref 114, .ref 115, .ref 116, .ref 117, .ref 118, .ref 119, .int 0, .int 0, .int 0, .ref 120, .int 0, .int 0, .int 0, .int 0, .int (-1), .int 0, .ref 121, .int 0, .ref 122, .int 0, .ref 123, .ref 124, .ref 125, .ref 126, .int 0, .ref 127, .ref 128, .int 0, .ref 129, .ref 130, .ref 131, .int 0, .ref 132, .int 0, .ref 133, .ref 134, .int 0, .ref 135, .ref 136, .int 0, .ref 137, .ref 138, .ref 139, .ref 140, .int 0, .ref 141, .ref 142, .ref 143, .int 0, .ref 144, .ref 145, .ref 146, .ref 147, .int 0, .int 0, .int 0, .null], z0, zn)), (148, (20, 2400, [], z0, zn)), (104, (12, 75, [.int 0, .ref 105, .ref 106, .int 0, .ref 107, .int 0, .int 0, .ref 108, .ref 109, .ref 110, .ref 111, .int 0, .int 0, .int 0, .int 0, .int 0, .ref 112, .ref 113, .ref 114, .ref 115, .ref 116, .ref 117, .ref 118, .ref 119, .int 0, .int 0, .int 0, .ref 120, .int 0, .int 0, .int 0, .int 0, .int (-1), .int 0, .ref 121, .int 0, .ref 122, .int 0, .ref 123, .ref 124, .ref 125, .ref 126, .int 0, .ref 127, .ref 128, .int 0, .ref 129, .ref 130, .ref 131, .int 0, .ref 132, .int 0, .ref 133, .ref 134, .int 0, .ref 135, .ref 136, .int 0, .ref 137, .ref 138, .ref 139, .ref 140, .int 0, .ref 141, .ref 142, .ref 143, .int 0, .ref 144, .ref 145, .ref 146, .ref 147, .int 0, .int 0, .int 0, .ref 148], z0, zn))]
set_option maxRecDepth 40000 in
theorem kx_52 (G : GG) (d : Nat) (F : CF) : Kc G tm_init d 44 26848 [.ref (gB G + 104)] 105 (sF F 104 (12, 75, df_12, z0, zn)) 149 (pf_52 F) := by
  refine K_of_Vc (by decide) rfl (by simp [cat_i, cat_r]) (by simp [tm_init]) ?_
  refine c_aload (i := 0) dm_init_0 rfl ?_
  refine c_obj dm_init_1 mlm_1 (Nat.le_of_ble_eq_true rfl) ?_
  refine c_aload (i := 0) dm_init_4 rfl ?_
  refine c_bipush (x := 115) dm_init_5 rfl ?_
  refine c_newi (N := 115) dm_init_7 ar_i (by decide) rfl (by decide) (Nat.le_of_ble_eq_true rfl) (Nat.le_of_ble_eq_true rfl) ?_
  refine c_put (w := .ref 105) (cc := (12, 75, [.int 0, .ref 105, .null, .int 0, .null, .int 0, .int 0, .null, .null, .null, .null, .int 0, .int 0, .int 0, .int 0, .int 0, .null, .null, .null, .null, .null, .null, .null, .null, .int 0, .int 0, .int 0, .null, .int 0, .int 0, .int 0, .int 0, .int 0, .int 0, .null, .int 0, .null, .int 0, .null, .null, .null, .null, .int 0, .null, .null, .int 0, .null, .null, .null, .int 0, .null, .int 0, .null, .null, .int 0, .null, .null, .int 0, .null, .null, .null, .null, .int 0, .null, .null, .null, .int 0, .null, .null, .null, .null, .int 0, .int 0, .int 0, .null], z0, zn)) dm_init_9 fum_7 ⟨_, _, _, _, rfl, rfl, rfl, rfl⟩ hc_12 (Nat.le_of_ble_eq_true rfl) rfl (Nat.le_of_ble_eq_true rfl) rfl rfl ?_
  refine c_aload (i := 0) dm_init_12 rfl ?_
  refine c_sipush (x := 690) dm_init_13 rfl ?_
  refine c_newi (N := 690) dm_init_16 ar_i (by decide) rfl (by decide) (Nat.le_of_ble_eq_true rfl) (Nat.le_of_ble_eq_true rfl) ?_
  refine c_put (w := .ref 106) (cc := (12, 75, [.int 0, .ref 105, .ref 106, .int 0, .null, .int 0, .int 0, .null, .null, .null, .null, .int 0, .int 0, .int 0, .int 0, .int 0, .null, .null, .null, .null, .null, .null, .null, .null, .int 0, .int 0, .int 0, .null, .int 0, .int 0, .int 0, .int 0, .int 0, .int 0, .null, .int 0, .null, .int 0, .null, .null, .null, .null, .int 0, .null, .null, .int 0, .null, .null, .null, .int 0, .null, .int 0, .null, .null, .int 0, .null, .null, .int 0, .null, .null, .null, .null, .int 0, .null, .null, .null, .int 0, .null, .null, .null, .null, .int 0, .int 0, .int 0, .null], z0, zn)) dm_init_18 fum_13 ⟨_, _, _, _, rfl, rfl, rfl, rfl⟩ hc_12 (Nat.le_of_ble_eq_true rfl) rfl (Nat.le_of_ble_eq_true rfl) rfl rfl ?_
  refine c_aload (i := 0) dm_init_21 rfl ?_
  refine c_bipush (x := 115) dm_init_22 rfl ?_
  refine c_newi (N := 115) dm_init_24 ar_i (by decide) rfl (by decide) (Nat.le_of_ble_eq_true rfl) (Nat.le_of_ble_eq_true rfl) ?_
  refine c_put (w := .ref 107) (cc := (12, 75, [.int 0, .ref 105, .ref 106, .int 0, .ref 107, .int 0, .int 0, .null, .null, .null, .null, .int 0, .int 0, .int 0, .int 0, .int 0, .null, .null, .null, .null, .null, .null, .null, .null, .int 0, .int 0, .int 0, .null, .int 0, .int 0, .int 0, .int 0, .int 0, .int 0, .null, .int 0, .null, .int 0, .null, .null, .null, .null, .int 0, .null, .null, .int 0, .null, .null, .null, .int 0, .null, .int 0, .null, .null, .int 0, .null, .null, .int 0, .null, .null, .null, .null, .int 0, .null, .null, .null, .int 0, .null, .null, .null, .null, .int 0, .int 0, .int 0, .null], z0, zn)) dm_init_26 fum_16 ⟨_, _, _, _, rfl, rfl, rfl, rfl⟩ hc_12 (Nat.le_of_ble_eq_true rfl) rfl (Nat.le_of_ble_eq_true rfl) rfl rfl ?_
  refine c_aload (i := 0) dm_init_29 rfl ?_
  refine c_bipush (x := 12) dm_init_30 rfl ?_
  refine c_newi (N := 12) dm_init_32 ar_i (by decide) rfl (by decide) (Nat.le_of_ble_eq_true rfl) (Nat.le_of_ble_eq_true rfl) ?_
  refine c_put (w := .ref 108) (cc := (12, 75, [.int 0, .ref 105, .ref 106, .int 0, .ref 107, .int 0, .int 0, .ref 108, .null, .null, .null, .int 0, .int 0, .int 0, .int 0, .int 0, .null, .null, .null, .null, .null, .null, .null, .null, .int 0, .int 0, .int 0, .null, .int 0, .int 0, .int 0, .int 0, .int 0, .int 0, .null, .int 0, .null, .int 0, .null, .null, .null, .null, .int 0, .null, .null, .int 0, .null, .null, .null, .int 0, .null, .int 0, .null, .null, .int 0, .null, .null, .int 0, .null, .null, .null, .null, .int 0, .null, .null, .null, .int 0, .null, .null, .null, .null, .int 0, .int 0, .int 0, .null], z0, zn)) dm_init_34 fum_19 ⟨_, _, _, _, rfl, rfl, rfl, rfl⟩ hc_12 (Nat.le_of_ble_eq_true rfl) rfl (Nat.le_of_ble_eq_true rfl) rfl rfl ?_
  refine c_aload (i := 0) dm_init_37 rfl ?_
  refine c_bipush (x := 12) dm_init_38 rfl ?_
  refine c_newi (N := 12) dm_init_40 ar_i (by decide) rfl (by decide) (Nat.le_of_ble_eq_true rfl) (Nat.le_of_ble_eq_true rfl) ?_
  refine c_put (w := .ref 109) (cc := (12, 75, [.int 0, .ref 105, .ref 106, .int 0, .ref 107, .int 0, .int 0, .ref 108, .ref 109, .null, .null, .int 0, .int 0, .int 0, .int 0, .int 0, .null, .null, .null, .null, .null, .null, .null, .null, .int 0, .int 0, .int 0, .null, .int 0, .int 0, .int 0, .int 0, .int 0, .int 0, .null, .int 0, .null, .int 0, .null, .null, .null, .null, .int 0, .null, .null, .int 0, .null, .null, .null, .int 0, .null, .int 0, .null, .null, .int 0, .null, .null, .int 0, .null, .null, .null, .null, .int 0, .null, .null, .null, .int 0, .null, .null, .null, .null, .int 0, .int 0, .int 0, .null], z0, zn)) dm_init_42 fum_22 ⟨_, _, _, _, rfl, rfl, rfl, rfl⟩ hc_12 (Nat.le_of_ble_eq_true rfl) rfl (Nat.le_of_ble_eq_true rfl) rfl rfl ?_
  refine c_aload (i := 0) dm_init_45 rfl ?_
  refine c_sipush (x := 600) dm_init_46 rfl ?_
  refine c_newi (N := 600) dm_init_49 ar_i (by decide) rfl (by decide) (Nat.le_of_ble_eq_true rfl) (Nat.le_of_ble_eq_true rfl) ?_
  refine c_put (w := .ref 110) (cc := (12, 75, [.int 0, .ref 105, .ref 106, .int 0, .ref 107, .int 0, .int 0, .ref 108, .ref 109, .ref 110, .null, .int 0, .int 0, .int 0, .int 0, .int 0, .null, .null, .null, .null, .null, .null, .null, .null, .int 0, .int 0, .int 0, .null, .int 0, .int 0, .int 0, .int 0, .int 0, .int 0, .null, .int 0, .null, .int 0, .null, .null, .null, .null, .int 0, .null, .null, .int 0, .null, .null, .null, .int 0, .null, .int 0, .null, .null, .int 0, .null, .null, .int 0, .null, .null, .null, .null, .int 0, .null, .null, .null, .int 0, .null, .null, .null, .null, .int 0, .int 0, .int 0, .null], z0, zn)) dm_init_51 fum_25 ⟨_, _, _, _, rfl, rfl, rfl, rfl⟩ hc_12 (Nat.le_of_ble_eq_true rfl) rfl (Nat.le_of_ble_eq_true rfl) rfl rfl ?_
  refine c_aload (i := 0) dm_init_54 rfl ?_
  refine c_sipush (x := 400) dm_init_55 rfl ?_
  refine c_newi (N := 400) dm_init_58 ar_i (by decide) rfl (by decide) (Nat.le_of_ble_eq_true rfl) (Nat.le_of_ble_eq_true rfl) ?_
  refine c_put (w := .ref 111) (cc := (12, 75, [.int 0, .ref 105, .ref 106, .int 0, .ref 107, .int 0, .int 0, .ref 108, .ref 109, .ref 110, .ref 111, .int 0, .int 0, .int 0, .int 0, .int 0, .null, .null, .null, .null, .null, .null, .null, .null, .int 0, .int 0, .int 0, .null, .int 0, .int 0, .int 0, .int 0, .int 0, .int 0, .null, .int 0, .null, .int 0, .null, .null, .null, .null, .int 0, .null, .null, .int 0, .null, .null, .null, .int 0, .null, .int 0, .null, .null, .int 0, .null, .null, .int 0, .null, .null, .null, .null, .int 0, .null, .null, .null, .int 0, .null, .null, .null, .null, .int 0, .int 0, .int 0, .null], z0, zn)) dm_init_60 fum_28 ⟨_, _, _, _, rfl, rfl, rfl, rfl⟩ hc_12 (Nat.le_of_ble_eq_true rfl) rfl (Nat.le_of_ble_eq_true rfl) rfl rfl ?_
  refine c_aload (i := 0) dm_init_63 rfl ?_
  refine c_sipush (x := 141) dm_init_64 rfl ?_
  refine c_newi (N := 141) dm_init_67 ar_i (by decide) rfl (by decide) (Nat.le_of_ble_eq_true rfl) (Nat.le_of_ble_eq_true rfl) ?_
  refine c_dup dm_init_69 rfl ?_
  refine c_iconst (x := 0) dm_init_70 rfl ?_
  refine c_bipush (x := 32) dm_init_71 rfl ?_
  refine c_iast (N := 141) (cc := (20, 141, [], wz_7, zn)) dm_init_73 (Nat.le_of_ble_eq_true rfl) rfl rfl (by unfold vp_in; decide) rfl ?_
  refine c_dup dm_init_74 rfl ?_
  refine c_iconst (x := 1) dm_init_75 rfl ?_
  refine c_bipush (x := 114) dm_init_76 rfl ?_
  refine c_iast (N := 141) (cc := (20, 141, [], wz_8, zn)) dm_init_78 (Nat.le_of_ble_eq_true rfl) rfl rfl (by unfold vp_in; decide) rfl ?_
  refine c_dup dm_init_79 rfl ?_
  refine c_iconst (x := 2) dm_init_80 rfl ?_
  refine c_bipush (x := 101) dm_init_81 rfl ?_
  refine c_iast (N := 141) (cc := (20, 141, [], wz_9, zn)) dm_init_83 (Nat.le_of_ble_eq_true rfl) rfl rfl (by unfold vp_in; decide) rfl ?_
  refine c_dup dm_init_84 rfl ?_
  refine c_iconst (x := 3) dm_init_85 rfl ?_
  refine c_bipush (x := 110) dm_init_86 rfl ?_
  refine c_iast (N := 141) (cc := (20, 141, [], wz_10, zn)) dm_init_88 (Nat.le_of_ble_eq_true rfl) rfl rfl (by unfold vp_in; decide) rfl ?_
  refine c_dup dm_init_89 rfl ?_
  refine c_iconst (x := 4) dm_init_90 rfl ?_
  refine c_bipush (x := 116) dm_init_91 rfl ?_
  refine c_iast (N := 141) (cc := (20, 141, [], wz_11, zn)) dm_init_93 (Nat.le_of_ble_eq_true rfl) rfl rfl (by unfold vp_in; decide) rfl ?_
  refine c_dup dm_init_94 rfl ?_
  refine c_iconst (x := 5) dm_init_95 rfl ?_
  refine c_bipush (x := 32) dm_init_96 rfl ?_
  refine c_iast (N := 141) (cc := (20, 141, [], wz_12, zn)) dm_init_98 (Nat.le_of_ble_eq_true rfl) rfl rfl (by unfold vp_in; decide) rfl ?_
  refine c_dup dm_init_99 rfl ?_
  refine c_bipush (x := 6) dm_init_100 rfl ?_
  refine c_bipush (x := 103) dm_init_102 rfl ?_
  refine c_iast (N := 141) (cc := (20, 141, [], wz_13, zn)) dm_init_104 (Nat.le_of_ble_eq_true rfl) rfl rfl (by unfold vp_in; decide) rfl ?_
  refine c_dup dm_init_105 rfl ?_
  refine c_bipush (x := 7) dm_init_106 rfl ?_
  refine c_bipush (x := 110) dm_init_108 rfl ?_
  refine c_iast (N := 141) (cc := (20, 141, [], wz_14, zn)) dm_init_110 (Nat.le_of_ble_eq_true rfl) rfl rfl (by unfold vp_in; decide) rfl ?_
  refine c_dup dm_init_111 rfl ?_
  refine c_bipush (x := 8) dm_init_112 rfl ?_
  refine c_bipush (x := 97) dm_init_114 rfl ?_
  refine c_iast (N := 141) (cc := (20, 141, [], wz_15, zn)) dm_init_116 (Nat.le_of_ble_eq_true rfl) rfl rfl (by unfold vp_in; decide) rfl ?_
  refine c_dup dm_init_117 rfl ?_
  refine c_bipush (x := 9) dm_init_118 rfl ?_
  refine c_bipush (x := 119) dm_init_120 rfl ?_
  refine c_iast (N := 141) (cc := (20, 141, [], wz_16, zn)) dm_init_122 (Nat.le_of_ble_eq_true rfl) rfl rfl (by unfold vp_in; decide) rfl ?_
  refine c_dup dm_init_123 rfl ?_
  refine c_bipush (x := 10) dm_init_124 rfl ?_
  refine c_bipush (x := 115) dm_init_126 rfl ?_
  refine c_iast (N := 141) (cc := (20, 141, [], wz_17, zn)) dm_init_128 (Nat.le_of_ble_eq_true rfl) rfl rfl (by unfold vp_in; decide) rfl ?_
  refine c_dup dm_init_129 rfl ?_
  refine c_bipush (x := 11) dm_init_130 rfl ?_
  refine c_bipush (x := 32) dm_init_132 rfl ?_
  refine c_iast (N := 141) (cc := (20, 141, [], wz_18, zn)) dm_init_134 (Nat.le_of_ble_eq_true rfl) rfl rfl (by unfold vp_in; decide) rfl ?_
  refine c_dup dm_init_135 rfl ?_
  refine c_bipush (x := 12) dm_init_136 rfl ?_
  refine c_bipush (x := 109) dm_init_138 rfl ?_
  refine c_iast (N := 141) (cc := (20, 141, [], wz_19, zn)) dm_init_140 (Nat.le_of_ble_eq_true rfl) rfl rfl (by unfold vp_in; decide) rfl ?_
  refine c_dup dm_init_141 rfl ?_
  refine c_bipush (x := 13) dm_init_142 rfl ?_
  refine c_bipush (x := 101) dm_init_144 rfl ?_
  refine c_iast (N := 141) (cc := (20, 141, [], wz_20, zn)) dm_init_146 (Nat.le_of_ble_eq_true rfl) rfl rfl (by unfold vp_in; decide) rfl ?_
  refine c_dup dm_init_147 rfl ?_
  refine c_bipush (x := 14) dm_init_148 rfl ?_
  refine c_bipush (x := 108) dm_init_150 rfl ?_
  refine c_iast (N := 141) (cc := (20, 141, [], wz_21, zn)) dm_init_152 (Nat.le_of_ble_eq_true rfl) rfl rfl (by unfold vp_in; decide) rfl ?_
  refine c_dup dm_init_153 rfl ?_
  refine c_bipush (x := 15) dm_init_154 rfl ?_
  refine c_bipush (x := 116) dm_init_156 rfl ?_
  refine c_iast (N := 141) (cc := (20, 141, [], wz_22, zn)) dm_init_158 (Nat.le_of_ble_eq_true rfl) rfl rfl (by unfold vp_in; decide) rfl ?_
  refine c_dup dm_init_159 rfl ?_
  refine c_bipush (x := 16) dm_init_160 rfl ?_
  refine c_bipush (x := 115) dm_init_162 rfl ?_
  refine c_iast (N := 141) (cc := (20, 141, [], wz_23, zn)) dm_init_164 (Nat.le_of_ble_eq_true rfl) rfl rfl (by unfold vp_in; decide) rfl ?_
  refine c_dup dm_init_165 rfl ?_
  refine c_bipush (x := 17) dm_init_166 rfl ?_
  refine c_bipush (x := 32) dm_init_168 rfl ?_
  refine c_iast (N := 141) (cc := (20, 141, [], wz_24, zn)) dm_init_170 (Nat.le_of_ble_eq_true rfl) rfl rfl (by unfold vp_in; decide) rfl ?_
  refine c_dup dm_init_171 rfl ?_
  refine c_bipush (x := 18) dm_init_172 rfl ?_
  refine c_bipush (x := 119) dm_init_174 rfl ?_
  refine c_iast (N := 141) (cc := (20, 141, [], wz_25, zn)) dm_init_176 (Nat.le_of_ble_eq_true rfl) rfl rfl (by unfold vp_in; decide) rfl ?_
  refine c_dup dm_init_177 rfl ?_
  refine c_bipush (x := 19) dm_init_178 rfl ?_
  refine c_bipush (x := 104) dm_init_180 rfl ?_
  refine c_iast (N := 141) (cc := (20, 141, [], wz_26, zn)) dm_init_182 (Nat.le_of_ble_eq_true rfl) rfl rfl (by unfold vp_in; decide) rfl ?_
  refine c_dup dm_init_183 rfl ?_
  refine c_bipush (x := 20) dm_init_184 rfl ?_
  refine c_bipush (x := 101) dm_init_186 rfl ?_
  refine c_iast (N := 141) (cc := (20, 141, [], wz_27, zn)) dm_init_188 (Nat.le_of_ble_eq_true rfl) rfl rfl (by unfold vp_in; decide) rfl ?_
  refine c_dup dm_init_189 rfl ?_
  refine c_bipush (x := 21) dm_init_190 rfl ?_
  refine c_bipush (x := 110) dm_init_192 rfl ?_
  refine c_iast (N := 141) (cc := (20, 141, [], wz_28, zn)) dm_init_194 (Nat.le_of_ble_eq_true rfl) rfl rfl (by unfold vp_in; decide) rfl ?_
  refine c_dup dm_init_195 rfl ?_
  refine c_bipush (x := 22) dm_init_196 rfl ?_
  refine c_bipush (x := 32) dm_init_198 rfl ?_
  refine c_iast (N := 141) (cc := (20, 141, [], wz_29, zn)) dm_init_200 (Nat.le_of_ble_eq_true rfl) rfl rfl (by unfold vp_in; decide) rfl ?_
  refine c_dup dm_init_201 rfl ?_
  refine c_bipush (x := 23) dm_init_202 rfl ?_
  refine c_bipush (x := 111) dm_init_204 rfl ?_
  refine c_iast (N := 141) (cc := (20, 141, [], wz_30, zn)) dm_init_206 (Nat.le_of_ble_eq_true rfl) rfl rfl (by unfold vp_in; decide) rfl ?_
  refine c_dup dm_init_207 rfl ?_
  refine c_bipush (x := 24) dm_init_208 rfl ?_
  refine c_bipush (x := 114) dm_init_210 rfl ?_
  refine c_iast (N := 141) (cc := (20, 141, [], wz_31, zn)) dm_init_212 (Nat.le_of_ble_eq_true rfl) rfl rfl (by unfold vp_in; decide) rfl ?_
  refine c_dup dm_init_213 rfl ?_
  refine c_bipush (x := 25) dm_init_214 rfl ?_
  refine c_bipush (x := 32) dm_init_216 rfl ?_
  refine c_iast (N := 141) (cc := (20, 141, [], wz_32, zn)) dm_init_218 (Nat.le_of_ble_eq_true rfl) rfl rfl (by unfold vp_in; decide) rfl ?_
  refine c_dup dm_init_219 rfl ?_
  refine c_bipush (x := 26) dm_init_220 rfl ?_
  refine c_bipush (x := 97) dm_init_222 rfl ?_
  refine c_iast (N := 141) (cc := (20, 141, [], wz_33, zn)) dm_init_224 (Nat.le_of_ble_eq_true rfl) rfl rfl (by unfold vp_in; decide) rfl ?_
  refine c_dup dm_init_225 rfl ?_
  refine c_bipush (x := 27) dm_init_226 rfl ?_
  refine c_bipush (x := 110) dm_init_228 rfl ?_
  refine c_iast (N := 141) (cc := (20, 141, [], wz_34, zn)) dm_init_230 (Nat.le_of_ble_eq_true rfl) rfl rfl (by unfold vp_in; decide) rfl ?_
  refine c_dup dm_init_231 rfl ?_
  refine c_bipush (x := 28) dm_init_232 rfl ?_
  refine c_bipush (x := 100) dm_init_234 rfl ?_
  refine c_iast (N := 141) (cc := (20, 141, [], wz_35, zn)) dm_init_236 (Nat.le_of_ble_eq_true rfl) rfl rfl (by unfold vp_in; decide) rfl ?_
  refine c_dup dm_init_237 rfl ?_
  refine c_bipush (x := 29) dm_init_238 rfl ?_
  refine c_bipush (x := 32) dm_init_240 rfl ?_
  refine c_iast (N := 141) (cc := (20, 141, [], wz_36, zn)) dm_init_242 (Nat.le_of_ble_eq_true rfl) rfl rfl (by unfold vp_in; decide) rfl ?_
  refine c_dup dm_init_243 rfl ?_
  refine c_bipush (x := 30) dm_init_244 rfl ?_
  refine c_bipush (x := 110) dm_init_246 rfl ?_
  refine c_iast (N := 141) (cc := (20, 141, [], wz_37, zn)) dm_init_248 (Nat.le_of_ble_eq_true rfl) rfl rfl (by unfold vp_in; decide) rfl ?_
  refine c_dup dm_init_249 rfl ?_
  refine c_bipush (x := 31) dm_init_250 rfl ?_
  refine c_bipush (x := 111) dm_init_252 rfl ?_
  refine c_iast (N := 141) (cc := (20, 141, [], wz_38, zn)) dm_init_254 (Nat.le_of_ble_eq_true rfl) rfl rfl (by unfold vp_in; decide) rfl ?_
  refine c_dup dm_init_255 rfl ?_
  refine c_bipush (x := 32) dm_init_256 rfl ?_
  refine c_bipush (x := 116) dm_init_258 rfl ?_
  refine c_iast (N := 141) (cc := (20, 141, [], wz_39, zn)) dm_init_260 (Nat.le_of_ble_eq_true rfl) rfl rfl (by unfold vp_in; decide) rfl ?_
  refine c_dup dm_init_261 rfl ?_
  refine c_bipush (x := 33) dm_init_262 rfl ?_
  refine c_bipush (x := 32) dm_init_264 rfl ?_
  refine c_iast (N := 141) (cc := (20, 141, [], wz_40, zn)) dm_init_266 (Nat.le_of_ble_eq_true rfl) rfl rfl (by unfold vp_in; decide) rfl ?_
  refine c_dup dm_init_267 rfl ?_
  refine c_bipush (x := 34) dm_init_268 rfl ?_
  refine c_bipush (x := 119) dm_init_270 rfl ?_
  refine c_iast (N := 141) (cc := (20, 141, [], wz_41, zn)) dm_init_272 (Nat.le_of_ble_eq_true rfl) rfl rfl (by unfold vp_in; decide) rfl ?_
  refine c_dup dm_init_273 rfl ?_
  refine c_bipush (x := 35) dm_init_274 rfl ?_
  refine c_bipush (x := 97) dm_init_276 rfl ?_
  refine c_iast (N := 141) (cc := (20, 141, [], wz_42, zn)) dm_init_278 (Nat.le_of_ble_eq_true rfl) rfl rfl (by unfold vp_in; decide) rfl ?_
  refine c_dup dm_init_279 rfl ?_
  refine c_bipush (x := 36) dm_init_280 rfl ?_
  refine c_bipush (x := 108) dm_init_282 rfl ?_
  refine c_iast (N := 141) (cc := (20, 141, [], wz_43, zn)) dm_init_284 (Nat.le_of_ble_eq_true rfl) rfl rfl (by unfold vp_in; decide) rfl ?_
  refine c_dup dm_init_285 rfl ?_
  refine c_bipush (x := 37) dm_init_286 rfl ?_
  refine c_bipush (x := 108) dm_init_288 rfl ?_
  refine c_iast (N := 141) (cc := (20, 141, [], wz_44, zn)) dm_init_290 (Nat.le_of_ble_eq_true rfl) rfl rfl (by unfold vp_in; decide) rfl ?_
  refine c_dup dm_init_291 rfl ?_
  refine c_bipush (x := 38) dm_init_292 rfl ?_
  refine c_bipush (x := 32) dm_init_294 rfl ?_
  refine c_iast (N := 141) (cc := (20, 141, [], wz_45, zn)) dm_init_296 (Nat.le_of_ble_eq_true rfl) rfl rfl (by unfold vp_in; decide) rfl ?_
  refine c_dup dm_init_297 rfl ?_
  refine c_bipush (x := 39) dm_init_298 rfl ?_
  refine c_bipush (x := 115) dm_init_300 rfl ?_
  refine c_iast (N := 141) (cc := (20, 141, [], wz_46, zn)) dm_init_302 (Nat.le_of_ble_eq_true rfl) rfl rfl (by unfold vp_in; decide) rfl ?_
  refine c_dup dm_init_303 rfl ?_
  refine c_bipush (x := 40) dm_init_304 rfl ?_
  refine c_bipush (x := 117) dm_init_306 rfl ?_
  refine c_iast (N := 141) (cc := (20, 141, [], wz_47, zn)) dm_init_308 (Nat.le_of_ble_eq_true rfl) rfl rfl (by unfold vp_in; decide) rfl ?_
  refine c_dup dm_init_309 rfl ?_
  refine c_bipush (x := 41) dm_init_310 rfl ?_
  refine c_bipush (x := 109) dm_init_312 rfl ?_
  refine c_iast (N := 141) (cc := (20, 141, [], wz_48, zn)) dm_init_314 (Nat.le_of_ble_eq_true rfl) rfl rfl (by unfold vp_in; decide) rfl ?_
  refine c_dup dm_init_315 rfl ?_
  refine c_bipush (x := 42) dm_init_316 rfl ?_
  refine c_bipush (x := 32) dm_init_318 rfl ?_
  refine c_iast (N := 141) (cc := (20, 141, [], wz_49, zn)) dm_init_320 (Nat.le_of_ble_eq_true rfl) rfl rfl (by unfold vp_in; decide) rfl ?_
  refine c_dup dm_init_321 rfl ?_
  refine c_bipush (x := 43) dm_init_322 rfl ?_
  refine c_bipush (x := 97) dm_init_324 rfl ?_
  refine c_iast (N := 141) (cc := (20, 141, [], wz_50, zn)) dm_init_326 (Nat.le_of_ble_eq_true rfl) rfl rfl (by unfold vp_in; decide) rfl ?_
  refine c_dup dm_init_327 rfl ?_
  refine c_bipush (x := 44) dm_init_328 rfl ?_
  refine c_bipush (x := 108) dm_init_330 rfl ?_
  refine c_iast (N := 141) (cc := (20, 141, [], wz_51, zn)) dm_init_332 (Nat.le_of_ble_eq_true rfl) rfl rfl (by unfold vp_in; decide) rfl ?_
  refine c_dup dm_init_333 rfl ?_
  refine c_bipush (x := 45) dm_init_334 rfl ?_
  refine c_bipush (x := 109) dm_init_336 rfl ?_
  refine c_iast (N := 141) (cc := (20, 141, [], wz_52, zn)) dm_init_338 (Nat.le_of_ble_eq_true rfl) rfl rfl (by unfold vp_in; decide) rfl ?_
  refine c_dup dm_init_339 rfl ?_
  refine c_bipush (x := 46) dm_init_340 rfl ?_
  refine c_bipush (x := 111) dm_init_342 rfl ?_
  refine c_iast (N := 141) (cc := (20, 141, [], wz_53, zn)) dm_init_344 (Nat.le_of_ble_eq_true rfl) rfl rfl (by unfold vp_in; decide) rfl ?_
  refine c_dup dm_init_345 rfl ?_
  refine c_bipush (x := 47) dm_init_346 rfl ?_
  refine c_bipush (x := 110) dm_init_348 rfl ?_
  refine c_iast (N := 141) (cc := (20, 141, [], wz_54, zn)) dm_init_350 (Nat.le_of_ble_eq_true rfl) rfl rfl (by unfold vp_in; decide) rfl ?_
  refine c_dup dm_init_351 rfl ?_
  refine c_bipush (x := 48) dm_init_352 rfl ?_
  refine c_bipush (x := 100) dm_init_354 rfl ?_
  refine c_iast (N := 141) (cc := (20, 141, [], wz_55, zn)) dm_init_356 (Nat.le_of_ble_eq_true rfl) rfl rfl (by unfold vp_in; decide) rfl ?_
  refine c_dup dm_init_357 rfl ?_
  refine c_bipush (x := 49) dm_init_358 rfl ?_
  refine c_bipush (x := 115) dm_init_360 rfl ?_
  refine c_iast (N := 141) (cc := (20, 141, [], wz_56, zn)) dm_init_362 (Nat.le_of_ble_eq_true rfl) rfl rfl (by unfold vp_in; decide) rfl ?_
  refine c_dup dm_init_363 rfl ?_
  refine c_bipush (x := 50) dm_init_364 rfl ?_
  refine c_bipush (x := 32) dm_init_366 rfl ?_
  refine c_iast (N := 141) (cc := (20, 141, [], wz_57, zn)) dm_init_368 (Nat.le_of_ble_eq_true rfl) rfl rfl (by unfold vp_in; decide) rfl ?_
  refine c_dup dm_init_369 rfl ?_
  refine c_bipush (x := 51) dm_init_370 rfl ?_
  refine c_bipush (x := 116) dm_init_372 rfl ?_
  refine c_iast (N := 141) (cc := (20, 141, [], wz_58, zn)) dm_init_374 (Nat.le_of_ble_eq_true rfl) rfl rfl (by unfold vp_in; decide) rfl ?_
  refine c_dup dm_init_375 rfl ?_
  refine c_bipush (x := 52) dm_init_376 rfl ?_
  refine c_bipush (x := 101) dm_init_378 rfl ?_
  refine c_iast (N := 141) (cc := (20, 141, [], wz_59, zn)) dm_init_380 (Nat.le_of_ble_eq_true rfl) rfl rfl (by unfold vp_in; decide) rfl ?_
  refine c_dup dm_init_381 rfl ?_
  refine c_bipush (x := 53) dm_init_382 rfl ?_
  refine c_bipush (x := 101) dm_init_384 rfl ?_
  refine c_iast (N := 141) (cc := (20, 141, [], wz_60, zn)) dm_init_386 (Nat.le_of_ble_eq_true rfl) rfl rfl (by unfold vp_in; decide) rfl ?_
  refine c_dup dm_init_387 rfl ?_
  refine c_bipush (x := 54) dm_init_388 rfl ?_
  refine c_bipush (x := 116) dm_init_390 rfl ?_
  refine c_iast (N := 141) (cc := (20, 141, [], wz_61, zn)) dm_init_392 (Nat.le_of_ble_eq_true rfl) rfl rfl (by unfold vp_in; decide) rfl ?_
  refine c_dup dm_init_393 rfl ?_
  refine c_bipush (x := 55) dm_init_394 rfl ?_
  refine c_bipush (x := 104) dm_init_396 rfl ?_
  refine c_iast (N := 141) (cc := (20, 141, [], wz_62, zn)) dm_init_398 (Nat.le_of_ble_eq_true rfl) rfl rfl (by unfold vp_in; decide) rfl ?_
  refine c_dup dm_init_399 rfl ?_
  refine c_bipush (x := 56) dm_init_400 rfl ?_
  refine c_bipush (x := 32) dm_init_402 rfl ?_
  refine c_iast (N := 141) (cc := (20, 141, [], wz_63, zn)) dm_init_404 (Nat.le_of_ble_eq_true rfl) rfl rfl (by unfold vp_in; decide) rfl ?_
  refine c_dup dm_init_405 rfl ?_
  refine c_bipush (x := 57) dm_init_406 rfl ?_
  refine c_bipush (x := 104) dm_init_408 rfl ?_
  refine c_iast (N := 141) (cc := (20, 141, [], wz_64, zn)) dm_init_410 (Nat.le_of_ble_eq_true rfl) rfl rfl (by unfold vp_in; decide) rfl ?_
  refine c_dup dm_init_411 rfl ?_
  refine c_bipush (x := 58) dm_init_412 rfl ?_
  refine c_bipush (x := 97) dm_init_414 rfl ?_
  refine c_iast (N := 141) (cc := (20, 141, [], wz_65, zn)) dm_init_416 (Nat.le_of_ble_eq_true rfl) rfl rfl (by unfold vp_in; decide) rfl ?_
  refine c_dup dm_init_417 rfl ?_
  refine c_bipush (x := 59) dm_init_418 rfl ?_
  refine c_bipush (x := 114) dm_init_420 rfl ?_
  refine c_iast (N := 141) (cc := (20, 141, [], wz_66, zn)) dm_init_422 (Nat.le_of_ble_eq_true rfl) rfl rfl (by unfold vp_in; decide) rfl ?_
  refine c_dup dm_init_423 rfl ?_
  refine c_bipush (x := 60) dm_init_424 rfl ?_
  refine c_bipush (x := 100) dm_init_426 rfl ?_
  refine c_iast (N := 141) (cc := (20, 141, [], wz_67, zn)) dm_init_428 (Nat.le_of_ble_eq_true rfl) rfl rfl (by unfold vp_in; decide) rfl ?_
  refine c_dup dm_init_429 rfl ?_
  refine c_bipush (x := 61) dm_init_430 rfl ?_
  refine c_bipush (x := 32) dm_init_432 rfl ?_
  refine c_iast (N := 141) (cc := (20, 141, [], wz_68, zn)) dm_init_434 (Nat.le_of_ble_eq_true rfl) rfl rfl (by unfold vp_in; decide) rfl ?_
  refine c_dup dm_init_435 rfl ?_
  refine c_bipush (x := 62) dm_init_436 rfl ?_
  refine c_bipush (x := 105) dm_init_438 rfl ?_
  refine c_iast (N := 141) (cc := (20, 141, [], wz_69, zn)) dm_init_440 (Nat.le_of_ble_eq_true rfl) rfl rfl (by unfold vp_in; decide) rfl ?_
  refine c_dup dm_init_441 rfl ?_
  refine c_bipush (x := 63) dm_init_442 rfl ?_
  refine c_bipush (x := 99) dm_init_444 rfl ?_
  refine c_iast (N := 141) (cc := (20, 141, [], wz_70, zn)) dm_init_446 (Nat.le_of_ble_eq_true rfl) rfl rfl (by unfold vp_in; decide) rfl ?_
  refine c_dup dm_init_447 rfl ?_
  refine c_bipush (x := 64) dm_init_448 rfl ?_
  refine c_bipush (x := 105) dm_init_450 rfl ?_
  refine c_iast (N := 141) (cc := (20, 141, [], wz_71, zn)) dm_init_452 (Nat.le_of_ble_eq_true rfl) rfl rfl (by unfold vp_in; decide) rfl ?_
  refine c_dup dm_init_453 rfl ?_
  refine c_bipush (x := 65) dm_init_454 rfl ?_
  refine c_bipush (x := 110) dm_init_456 rfl ?_
  refine c_iast (N := 141) (cc := (20, 141, [], wz_72, zn)) dm_init_458 (Nat.le_of_ble_eq_true rfl) rfl rfl (by unfold vp_in; decide) rfl ?_
  refine c_dup dm_init_459 rfl ?_
  refine c_bipush (x := 66) dm_init_460 rfl ?_
  refine c_bipush (x := 103) dm_init_462 rfl ?_
  refine c_iast (N := 141) (cc := (20, 141, [], wz_73, zn)) dm_init_464 (Nat.le_of_ble_eq_true rfl) rfl rfl (by unfold vp_in; decide) rfl ?_
  refine c_dup dm_init_465 rfl ?_
  refine c_bipush (x := 67) dm_init_466 rfl ?_
  refine c_bipush (x := 32) dm_init_468 rfl ?_
  refine c_iast (N := 141) (cc := (20, 141, [], wz_74, zn)) dm_init_470 (Nat.le_of_ble_eq_true rfl) rfl rfl (by unfold vp_in; decide) rfl ?_
  refine c_dup dm_init_471 rfl ?_
  refine c_bipush (x := 68) dm_init_472 rfl ?_
  refine c_bipush (x := 108) dm_init_474 rfl ?_
  refine c_iast (N := 141) (cc := (20, 141, [], wz_75, zn)) dm_init_476 (Nat.le_of_ble_eq_true rfl) rfl rfl (by unfold vp_in; decide) rfl ?_
  refine c_dup dm_init_477 rfl ?_
  refine c_bipush (x := 69) dm_init_478 rfl ?_
  refine c_bipush (x := 111) dm_init_480 rfl ?_
  refine c_iast (N := 141) (cc := (20, 141, [], wz_76, zn)) dm_init_482 (Nat.le_of_ble_eq_true rfl) rfl rfl (by unfold vp_in; decide) rfl ?_
  refine c_dup dm_init_483 rfl ?_
  refine c_bipush (x := 70) dm_init_484 rfl ?_
  refine c_bipush (x := 100) dm_init_486 rfl ?_
  refine c_iast (N := 141) (cc := (20, 141, [], wz_77, zn)) dm_init_488 (Nat.le_of_ble_eq_true rfl) rfl rfl (by unfold vp_in; decide) rfl ?_
  refine c_dup dm_init_489 rfl ?_
  refine c_bipush (x := 71) dm_init_490 rfl ?_
  refine c_bipush (x := 103) dm_init_492 rfl ?_
  refine c_iast (N := 141) (cc := (20, 141, [], wz_78, zn)) dm_init_494 (Nat.le_of_ble_eq_true rfl) rfl rfl (by unfold vp_in; decide) rfl ?_
  refine c_dup dm_init_495 rfl ?_
  refine c_bipush (x := 72) dm_init_496 rfl ?_
  refine c_bipush (x := 101) dm_init_498 rfl ?_
  refine c_iast (N := 141) (cc := (20, 141, [], wz_79, zn)) dm_init_500 (Nat.le_of_ble_eq_true rfl) rfl rfl (by unfold vp_in; decide) rfl ?_
  refine c_dup dm_init_501 rfl ?_
  refine c_bipush (x := 73) dm_init_502 rfl ?_
  refine c_bipush (x := 114) dm_init_504 rfl ?_
  refine c_iast (N := 141) (cc := (20, 141, [], wz_80, zn)) dm_init_506 (Nat.le_of_ble_eq_true rfl) rfl rfl (by unfold vp_in; decide) rfl ?_
  refine c_dup dm_init_507 rfl ?_
  refine c_bipush (x := 74) dm_init_508 rfl ?_
  refine c_bipush (x := 115) dm_init_510 rfl ?_
  refine c_iast (N := 141) (cc := (20, 141, [], wz_81, zn)) dm_init_512 (Nat.le_of_ble_eq_true rfl) rfl rfl (by unfold vp_in; decide) rfl ?_
  refine c_dup dm_init_513 rfl ?_
  refine c_bipush (x := 75) dm_init_514 rfl ?_
  refine c_bipush (x := 32) dm_init_516 rfl ?_
  refine c_iast (N := 141) (cc := (20, 141, [], wz_82, zn)) dm_init_518 (Nat.le_of_ble_eq_true rfl) rfl rfl (by unfold vp_in; decide) rfl ?_
  refine c_dup dm_init_519 rfl ?_
  refine c_bipush (x := 76) dm_init_520 rfl ?_
  refine c_bipush (x := 100) dm_init_522 rfl ?_
  refine c_iast (N := 141) (cc := (20, 141, [], wz_83, zn)) dm_init_524 (Nat.le_of_ble_eq_true rfl) rfl rfl (by unfold vp_in; decide) rfl ?_
  refine c_dup dm_init_525 rfl ?_
  refine c_bipush (x := 77) dm_init_526 rfl ?_
  refine c_bipush (x := 111) dm_init_528 rfl ?_
  refine c_iast (N := 141) (cc := (20, 141, [], wz_84, zn)) dm_init_530 (Nat.le_of_ble_eq_true rfl) rfl rfl (by unfold vp_in; decide) rfl ?_
  refine c_dup dm_init_531 rfl ?_
  refine c_bipush (x := 78) dm_init_532 rfl ?_
  refine c_bipush (x := 111) dm_init_534 rfl ?_
  refine c_iast (N := 141) (cc := (20, 141, [], wz_85, zn)) dm_init_536 (Nat.le_of_ble_eq_true rfl) rfl rfl (by unfold vp_in; decide) rfl ?_
  refine c_dup dm_init_537 rfl ?_
  refine c_bipush (x := 79) dm_init_538 rfl ?_
  refine c_bipush (x := 114) dm_init_540 rfl ?_
  refine c_iast (N := 141) (cc := (20, 141, [], wz_86, zn)) dm_init_542 (Nat.le_of_ble_eq_true rfl) rfl rfl (by unfold vp_in; decide) rfl ?_
  refine c_dup dm_init_543 rfl ?_
  refine c_bipush (x := 80) dm_init_544 rfl ?_
  refine c_bipush (x := 32) dm_init_546 rfl ?_
  refine c_iast (N := 141) (cc := (20, 141, [], wz_87, zn)) dm_init_548 (Nat.le_of_ble_eq_true rfl) rfl rfl (by unfold vp_in; decide) rfl ?_
  refine c_dup dm_init_549 rfl ?_
  refine c_bipush (x := 81) dm_init_550 rfl ?_
  refine c_bipush (x := 97) dm_init_552 rfl ?_
  refine c_iast (N := 141) (cc := (20, 141, [], wz_88, zn)) dm_init_554 (Nat.le_of_ble_eq_true rfl) rfl rfl (by unfold vp_in; decide) rfl ?_
  refine c_dup dm_init_555 rfl ?_
  refine c_bipush (x := 82) dm_init_556 rfl ?_
  refine c_bipush (x := 103) dm_init_558 rfl ?_
  refine c_iast (N := 141) (cc := (20, 141, [], wz_89, zn)) dm_init_560 (Nat.le_of_ble_eq_true rfl) rfl rfl (by unfold vp_in; decide) rfl ?_
  refine c_dup dm_init_561 rfl ?_
  refine c_bipush (x := 83) dm_init_562 rfl ?_
  refine c_bipush (x := 101) dm_init_564 rfl ?_
  refine c_iast (N := 141) (cc := (20, 141, [], wz_90, zn)) dm_init_566 (Nat.le_of_ble_eq_true rfl) rfl rfl (by unfold vp_in; decide) rfl ?_
  refine c_dup dm_init_567 rfl ?_
  refine c_bipush (x := 84) dm_init_568 rfl ?_
  refine c_bipush (x := 32) dm_init_570 rfl ?_
  refine c_iast (N := 141) (cc := (20, 141, [], wz_91, zn)) dm_init_572 (Nat.le_of_ble_eq_true rfl) rfl rfl (by unfold vp_in; decide) rfl ?_
  refine c_dup dm_init_573 rfl ?_
  refine c_bipush (x := 85) dm_init_574 rfl ?_
  refine c_bipush (x := 114) dm_init_576 rfl ?_
  refine c_iast (N := 141) (cc := (20, 141, [], wz_92, zn)) dm_init_578 (Nat.le_of_ble_eq_true rfl) rfl rfl (by unfold vp_in; decide) rfl ?_
  refine c_dup dm_init_579 rfl ?_
  refine c_bipush (x := 86) dm_init_580 rfl ?_
  refine c_bipush (x := 97) dm_init_582 rfl ?_
  refine c_iast (N := 141) (cc := (20, 141, [], wz_93, zn)) dm_init_584 (Nat.le_of_ble_eq_true rfl) rfl rfl (by unfold vp_in; decide) rfl ?_
  refine c_dup dm_init_585 rfl ?_
  refine c_bipush (x := 87) dm_init_586 rfl ?_
  refine c_bipush (x := 105) dm_init_588 rfl ?_
  refine c_iast (N := 141) (cc := (20, 141, [], wz_94, zn)) dm_init_590 (Nat.le_of_ble_eq_true rfl) rfl rfl (by unfold vp_in; decide) rfl ?_
  refine c_dup dm_init_591 rfl ?_
  refine c_bipush (x := 88) dm_init_592 rfl ?_
  refine c_bipush (x := 110) dm_init_594 rfl ?_
  refine c_iast (N := 141) (cc := (20, 141, [], wz_95, zn)) dm_init_596 (Nat.le_of_ble_eq_true rfl) rfl rfl (by unfold vp_in; decide) rfl ?_
  refine c_dup dm_init_597 rfl ?_
  refine c_bipush (x := 89) dm_init_598 rfl ?_
  refine c_bipush (x := 32) dm_init_600 rfl ?_
  refine c_iast (N := 141) (cc := (20, 141, [], wz_96, zn)) dm_init_602 (Nat.le_of_ble_eq_true rfl) rfl rfl (by unfold vp_in; decide) rfl ?_
  refine c_dup dm_init_603 rfl ?_
  refine c_bipush (x := 90) dm_init_604 rfl ?_
  refine c_bipush (x := 102) dm_init_606 rfl ?_
  refine c_iast (N := 141) (cc := (20, 141, [], wz_97, zn)) dm_init_608 (Nat.le_of_ble_eq_true rfl) rfl rfl (by unfold vp_in; decide) rfl ?_
  refine c_dup dm_init_609 rfl ?_
  refine c_bipush (x := 91) dm_init_610 rfl ?_
  refine c_bipush (x := 114) dm_init_612 rfl ?_
  refine c_iast (N := 141) (cc := (20, 141, [], wz_98, zn)) dm_init_614 (Nat.le_of_ble_eq_true rfl) rfl rfl (by unfold vp_in; decide) rfl ?_
  refine c_dup dm_init_615 rfl ?_
  refine c_bipush (x := 92) dm_init_616 rfl ?_
  refine c_bipush (x := 111) dm_init_618 rfl ?_
  refine c_iast (N := 141) (cc := (20, 141, [], wz_99, zn)) dm_init_620 (Nat.le_of_ble_eq_true rfl) rfl rfl (by unfold vp_in; decide) rfl ?_
  refine c_dup dm_init_621 rfl ?_
  refine c_bipush (x := 93) dm_init_622 rfl ?_
  refine c_bipush (x := 115) dm_init_624 rfl ?_
  refine c_iast (N := 141) (cc := (20, 141, [], wz_100, zn)) dm_init_626 (Nat.le_of_ble_eq_true rfl) rfl rfl (by unfold vp_in; decide) rfl ?_
  refine c_dup dm_init_627 rfl ?_
  refine c_bipush (x := 94) dm_init_628 rfl ?_
  refine c_bipush (x := 116) dm_init_630 rfl ?_
  refine c_iast (N := 141) (cc := (20, 141, [], wz_101, zn)) dm_init_632 (Nat.le_of_ble_eq_true rfl) rfl rfl (by unfold vp_in; decide) rfl ?_
  refine c_dup dm_init_633 rfl ?_
  refine c_bipush (x := 95) dm_init_634 rfl ?_
  refine c_bipush (x := 32) dm_init_636 rfl ?_
  refine c_iast (N := 141) (cc := (20, 141, [], wz_102, zn)) dm_init_638 (Nat.le_of_ble_eq_true rfl) rfl rfl (by unfold vp_in; decide) rfl ?_
  refine c_dup dm_init_639 rfl ?_
  refine c_bipush (x := 96) dm_init_640 rfl ?_
  refine c_bipush (x := 113) dm_init_642 rfl ?_
  refine c_iast (N := 141) (cc := (20, 141, [], wz_103, zn)) dm_init_644 (Nat.le_of_ble_eq_true rfl) rfl rfl (by unfold vp_in; decide) rfl ?_
  refine c_dup dm_init_645 rfl ?_
  refine c_bipush (x := 97) dm_init_646 rfl ?_
  refine c_bipush (x := 117) dm_init_648 rfl ?_
  refine c_iast (N := 141) (cc := (20, 141, [], wz_104, zn)) dm_init_650 (Nat.le_of_ble_eq_true rfl) rfl rfl (by unfold vp_in; decide) rfl ?_
  refine c_dup dm_init_651 rfl ?_
  refine c_bipush (x := 98) dm_init_652 rfl ?_
  refine c_bipush (x := 97) dm_init_654 rfl ?_
  refine c_iast (N := 141) (cc := (20, 141, [], wz_105, zn)) dm_init_656 (Nat.le_of_ble_eq_true rfl) rfl rfl (by unfold vp_in; decide) rfl ?_
  refine c_dup dm_init_657 rfl ?_
  refine c_bipush (x := 99) dm_init_658 rfl ?_
  refine c_bipush (x := 114) dm_init_660 rfl ?_
  refine c_iast (N := 141) (cc := (20, 141, [], wz_106, zn)) dm_init_662 (Nat.le_of_ble_eq_true rfl) rfl rfl (by unfold vp_in; decide) rfl ?_
  refine c_dup dm_init_663 rfl ?_
  refine c_bipush (x := 100) dm_init_664 rfl ?_
  refine c_bipush (x := 116) dm_init_666 rfl ?_
  refine c_iast (N := 141) (cc := (20, 141, [], wz_107, zn)) dm_init_668 (Nat.le_of_ble_eq_true rfl) rfl rfl (by unfold vp_in; decide) rfl ?_
  refine c_dup dm_init_669 rfl ?_
  refine c_bipush (x := 101) dm_init_670 rfl ?_
  refine c_bipush (x := 101) dm_init_672 rfl ?_
  refine c_iast (N := 141) (cc := (20, 141, [], wz_108, zn)) dm_init_674 (Nat.le_of_ble_eq_true rfl) rfl rfl (by unfold vp_in; decide) rfl ?_
  refine c_dup dm_init_675 rfl ?_
  refine c_bipush (x := 102) dm_init_676 rfl ?_
  refine c_bipush (x := 114) dm_init_678 rfl ?_
  refine c_iast (N := 141) (cc := (20, 141, [], wz_109, zn)) dm_init_680 (Nat.le_of_ble_eq_true rfl) rfl rfl (by unfold vp_in; decide) rfl ?_
  refine c_dup dm_init_681 rfl ?_
  refine c_bipush (x := 103) dm_init_682 rfl ?_
  refine c_bipush (x := 32) dm_init_684 rfl ?_
  refine c_iast (N := 141) (cc := (20, 141, [], wz_110, zn)) dm_init_686 (Nat.le_of_ble_eq_true rfl) rfl rfl (by unfold vp_in; decide) rfl ?_
  refine c_dup dm_init_687 rfl ?_
  refine c_bipush (x := 104) dm_init_688 rfl ?_
  refine c_bipush (x := 105) dm_init_690 rfl ?_
  refine c_iast (N := 141) (cc := (20, 141, [], wz_111, zn)) dm_init_692 (Nat.le_of_ble_eq_true rfl) rfl rfl (by unfold vp_in; decide) rfl ?_
  refine c_dup dm_init_693 rfl ?_
  refine c_bipush (x := 105) dm_init_694 rfl ?_
  refine c_bipush (x := 110) dm_init_696 rfl ?_
  refine c_iast (N := 141) (cc := (20, 141, [], wz_112, zn)) dm_init_698 (Nat.le_of_ble_eq_true rfl) rfl rfl (by unfold vp_in; decide) rfl ?_
  refine c_dup dm_init_699 rfl ?_
  refine c_bipush (x := 106) dm_init_700 rfl ?_
  refine c_bipush (x := 32) dm_init_702 rfl ?_
  refine c_iast (N := 141) (cc := (20, 141, [], wz_113, zn)) dm_init_704 (Nat.le_of_ble_eq_true rfl) rfl rfl (by unfold vp_in; decide) rfl ?_
  refine c_dup dm_init_705 rfl ?_
  refine c_bipush (x := 107) dm_init_706 rfl ?_
  refine c_bipush (x := 116) dm_init_708 rfl ?_
  refine c_iast (N := 141) (cc := (20, 141, [], wz_114, zn)) dm_init_710 (Nat.le_of_ble_eq_true rfl) rfl rfl (by unfold vp_in; decide) rfl ?_
  refine c_dup dm_init_711 rfl ?_
  refine c_bipush (x := 108) dm_init_712 rfl ?_
  refine c_bipush (x := 104) dm_init_714 rfl ?_
  refine c_iast (N := 141) (cc := (20, 141, [], wz_115, zn)) dm_init_716 (Nat.le_of_ble_eq_true rfl) rfl rfl (by unfold vp_in; decide) rfl ?_
  refine c_dup dm_init_717 rfl ?_
  refine c_bipush (x := 109) dm_init_718 rfl ?_
  refine c_bipush (x := 97) dm_init_720 rfl ?_
  refine c_iast (N := 141) (cc := (20, 141, [], wz_116, zn)) dm_init_722 (Nat.le_of_ble_eq_true rfl) rfl rfl (by unfold vp_in; decide) rfl ?_
  refine c_dup dm_init_723 rfl ?_
  refine c_bipush (x := 110) dm_init_724 rfl ?_
  refine c_bipush (x := 119) dm_init_726 rfl ?_
  refine c_iast (N := 141) (cc := (20, 141, [], wz_117, zn)) dm_init_728 (Nat.le_of_ble_eq_true rfl) rfl rfl (by unfold vp_in; decide) rfl ?_
  refine c_dup dm_init_729 rfl ?_
  refine c_bipush (x := 111) dm_init_730 rfl ?_
  refine c_bipush (x := 32) dm_init_732 rfl ?_
  refine c_iast (N := 141) (cc := (20, 141, [], wz_118, zn)) dm_init_734 (Nat.le_of_ble_eq_true rfl) rfl rfl (by unfold vp_in; decide) rfl ?_
  refine c_dup dm_init_735 rfl ?_
  refine c_bipush (x := 112) dm_init_736 rfl ?_
  refine c_bipush (x := 105) dm_init_738 rfl ?_
  refine c_iast (N := 141) (cc := (20, 141, [], wz_119, zn)) dm_init_740 (Nat.le_of_ble_eq_true rfl) rfl rfl (by unfold vp_in; decide) rfl ?_
  refine c_dup dm_init_741 rfl ?_
  refine c_bipush (x := 113) dm_init_742 rfl ?_
  refine c_bipush (x := 99) dm_init_744 rfl ?_
  refine c_iast (N := 141) (cc := (20, 141, [], wz_120, zn)) dm_init_746 (Nat.le_of_ble_eq_true rfl) rfl rfl (by unfold vp_in; decide) rfl ?_
  refine c_dup dm_init_747 rfl ?_
  refine c_bipush (x := 114) dm_init_748 rfl ?_
  refine c_bipush (x := 101) dm_init_750 rfl ?_
  refine c_iast (N := 141) (cc := (20, 141, [], wz_121, zn)) dm_init_752 (Nat.le_of_ble_eq_true rfl) rfl rfl (by unfold vp_in; decide) rfl ?_
  refine c_dup dm_init_753 rfl ?_
  refine c_bipush (x := 115) dm_init_754 rfl ?_
  refine c_bipush (x := 32) dm_init_756 rfl ?_
  refine c_iast (N := 141) (cc := (20, 141, [], wz_122, zn)) dm_init_758 (Nat.le_of_ble_eq_true rfl) rfl rfl (by unfold vp_in; decide) rfl ?_
  refine c_dup dm_init_759 rfl ?_
  refine c_bipush (x := 116) dm_init_760 rfl ?_
  refine c_bipush (x := 98) dm_init_762 rfl ?_
  refine c_iast (N := 141) (cc := (20, 141, [], wz_123, zn)) dm_init_764 (Nat.le_of_ble_eq_true rfl) rfl rfl (by unfold vp_in; decide) rfl ?_
  refine c_dup dm_init_765 rfl ?_
  refine c_bipush (x := 117) dm_init_766 rfl ?_
  refine c_bipush (x := 97) dm_init_768 rfl ?_
  refine c_iast (N := 141) (cc := (20, 141, [], wz_124, zn)) dm_init_770 (Nat.le_of_ble_eq_true rfl) rfl rfl (by unfold vp_in; decide) rfl ?_
  refine c_dup dm_init_771 rfl ?_
  refine c_bipush (x := 118) dm_init_772 rfl ?_
  refine c_bipush (x := 107) dm_init_774 rfl ?_
  refine c_iast (N := 141) (cc := (20, 141, [], wz_125, zn)) dm_init_776 (Nat.le_of_ble_eq_true rfl) rfl rfl (by unfold vp_in; decide) rfl ?_
  refine c_dup dm_init_777 rfl ?_
  refine c_bipush (x := 119) dm_init_778 rfl ?_
  refine c_bipush (x := 101) dm_init_780 rfl ?_
  refine c_iast (N := 141) (cc := (20, 141, [], wz_126, zn)) dm_init_782 (Nat.le_of_ble_eq_true rfl) rfl rfl (by unfold vp_in; decide) rfl ?_
  refine c_dup dm_init_783 rfl ?_
  refine c_bipush (x := 120) dm_init_784 rfl ?_
  refine c_bipush (x := 32) dm_init_786 rfl ?_
  refine c_iast (N := 141) (cc := (20, 141, [], wz_127, zn)) dm_init_788 (Nat.le_of_ble_eq_true rfl) rfl rfl (by unfold vp_in; decide) rfl ?_
  refine c_dup dm_init_789 rfl ?_
  refine c_bipush (x := 121) dm_init_790 rfl ?_
  refine c_bipush (x := 119) dm_init_792 rfl ?_
  refine c_iast (N := 141) (cc := (20, 141, [], wz_128, zn)) dm_init_794 (Nat.le_of_ble_eq_true rfl) rfl rfl (by unfold vp_in; decide) rfl ?_
  refine c_dup dm_init_795 rfl ?_
  refine c_bipush (x := 122) dm_init_796 rfl ?_
  refine c_bipush (x := 101) dm_init_798 rfl ?_
  refine c_iast (N := 141) (cc := (20, 141, [], wz_129, zn)) dm_init_800 (Nat.le_of_ble_eq_true rfl) rfl rfl (by unfold vp_in; decide) rfl ?_
  refine c_dup dm_init_801 rfl ?_
  refine c_bipush (x := 123) dm_init_802 rfl ?_
  refine c_bipush (x := 100) dm_init_804 rfl ?_
  refine c_iast (N := 141) (cc := (20, 141, [], wz_130, zn)) dm_init_806 (Nat.le_of_ble_eq_true rfl) rfl rfl (by unfold vp_in; decide) rfl ?_
  refine c_dup dm_init_807 rfl ?_
  refine c_bipush (x := 124) dm_init_808 rfl ?_
  refine c_bipush (x := 32) dm_init_810 rfl ?_
  refine c_iast (N := 141) (cc := (20, 141, [], wz_131, zn)) dm_init_812 (Nat.le_of_ble_eq_true rfl) rfl rfl (by unfold vp_in; decide) rfl ?_
  refine c_dup dm_init_813 rfl ?_
  refine c_bipush (x := 125) dm_init_814 rfl ?_
  refine c_bipush (x := 114) dm_init_816 rfl ?_
  refine c_iast (N := 141) (cc := (20, 141, [], wz_132, zn)) dm_init_818 (Nat.le_of_ble_eq_true rfl) rfl rfl (by unfold vp_in; decide) rfl ?_
  refine c_dup dm_init_819 rfl ?_
  refine c_bipush (x := 126) dm_init_820 rfl ?_
  refine c_bipush (x := 97) dm_init_822 rfl ?_
  refine c_iast (N := 141) (cc := (20, 141, [], wz_133, zn)) dm_init_824 (Nat.le_of_ble_eq_true rfl) rfl rfl (by unfold vp_in; decide) rfl ?_
  refine c_dup dm_init_825 rfl ?_
  refine c_bipush (x := 127) dm_init_826 rfl ?_
  refine c_bipush (x := 122) dm_init_828 rfl ?_
  refine c_iast (N := 141) (cc := (20, 141, [], wz_134, zn)) dm_init_830 (Nat.le_of_ble_eq_true rfl) rfl rfl (by unfold vp_in; decide) rfl ?_
  refine c_dup dm_init_831 rfl ?_
  refine c_sipush (x := 128) dm_init_832 rfl ?_
  refine c_bipush (x := 101) dm_init_835 rfl ?_
  refine c_iast (N := 141) (cc := (20, 141, [], wz_135, zn)) dm_init_837 (Nat.le_of_ble_eq_true rfl) rfl rfl (by unfold vp_in; decide) rfl ?_
  refine c_dup dm_init_838 rfl ?_
  refine c_sipush (x := 129) dm_init_839 rfl ?_
  refine c_bipush (x := 32) dm_init_842 rfl ?_
  refine c_iast (N := 141) (cc := (20, 141, [], wz_136, zn)) dm_init_844 (Nat.le_of_ble_eq_true rfl) rfl rfl (by unfold vp_in; decide) rfl ?_
  refine c_dup dm_init_845 rfl ?_
  refine c_sipush (x := 130) dm_init_846 rfl ?_
  refine c_bipush (x := 104) dm_init_849 rfl ?_
  refine c_iast (N := 141) (cc := (20, 141, [], wz_137, zn)) dm_init_851 (Nat.le_of_ble_eq_true rfl) rfl rfl (by unfold vp_in; decide) rfl ?_
  refine c_dup dm_init_852 rfl ?_
  refine c_sipush (x := 131) dm_init_853 rfl ?_
  refine c_bipush (x := 111) dm_init_856 rfl ?_
  refine c_iast (N := 141) (cc := (20, 141, [], wz_138, zn)) dm_init_858 (Nat.le_of_ble_eq_true rfl) rfl rfl (by unfold vp_in; decide) rfl ?_
  refine c_dup dm_init_859 rfl ?_
  refine c_sipush (x := 132) dm_init_860 rfl ?_
  refine c_bipush (x := 117) dm_init_863 rfl ?_
  refine c_iast (N := 141) (cc := (20, 141, [], wz_139, zn)) dm_init_865 (Nat.le_of_ble_eq_true rfl) rfl rfl (by unfold vp_in; decide) rfl ?_
  refine c_dup dm_init_866 rfl ?_
  refine c_sipush (x := 133) dm_init_867 rfl ?_
  refine c_bipush (x := 115) dm_init_870 rfl ?_
  refine c_iast (N := 141) (cc := (20, 141, [], wz_140, zn)) dm_init_872 (Nat.le_of_ble_eq_true rfl) rfl rfl (by unfold vp_in; decide) rfl ?_
  refine c_dup dm_init_873 rfl ?_
  refine c_sipush (x := 134) dm_init_874 rfl ?_
  refine c_bipush (x := 101) dm_init_877 rfl ?_
  refine c_iast (N := 141) (cc := (20, 141, [], wz_141, zn)) dm_init_879 (Nat.le_of_ble_eq_true rfl) rfl rfl (by unfold vp_in; decide) rfl ?_
  refine c_dup dm_init_880 rfl ?_
  refine c_sipush (x := 135) dm_init_881 rfl ?_
  refine c_bipush (x := 32) dm_init_884 rfl ?_
  refine c_iast (N := 141) (cc := (20, 141, [], wz_142, zn)) dm_init_886 (Nat.le_of_ble_eq_true rfl) rfl rfl (by unfold vp_in; decide) rfl ?_
  refine c_dup dm_init_887 rfl ?_
  refine c_sipush (x := 136) dm_init_888 rfl ?_
  refine c_bipush (x := 110) dm_init_891 rfl ?_
  refine c_iast (N := 141) (cc := (20, 141, [], wz_143, zn)) dm_init_893 (Nat.le_of_ble_eq_true rfl) rfl rfl (by unfold vp_in; decide) rfl ?_
  refine c_dup dm_init_894 rfl ?_
  refine c_sipush (x := 137) dm_init_895 rfl ?_
  refine c_bipush (x := 101) dm_init_898 rfl ?_
  refine c_iast (N := 141) (cc := (20, 141, [], wz_144, zn)) dm_init_900 (Nat.le_of_ble_eq_true rfl) rfl rfl (by unfold vp_in; decide) rfl ?_
  refine c_dup dm_init_901 rfl ?_
  refine c_sipush (x := 138) dm_init_902 rfl ?_
  refine c_bipush (x := 120) dm_init_905 rfl ?_
  refine c_iast (N := 141) (cc := (20, 141, [], wz_145, zn)) dm_init_907 (Nat.le_of_ble_eq_true rfl) rfl rfl (by unfold vp_in; decide) rfl ?_
  refine c_dup dm_init_908 rfl ?_
  refine c_sipush (x := 139) dm_init_909 rfl ?_
  refine c_bipush (x := 116) dm_init_912 rfl ?_
  refine c_iast (N := 141) (cc := (20, 141, [], wz_146, zn)) dm_init_914 (Nat.le_of_ble_eq_true rfl) rfl rfl (by unfold vp_in; decide) rfl ?_
  refine c_dup dm_init_915 rfl ?_
  refine c_sipush (x := 140) dm_init_916 rfl ?_
  refine c_bipush (x := 32) dm_init_919 rfl ?_
  refine c_iast (N := 141) (cc := (20, 141, [], wz_147, zn)) dm_init_921 (Nat.le_of_ble_eq_true rfl) rfl rfl (by unfold vp_in; decide) rfl ?_
  refine c_put (w := .ref 112) (cc := (12, 75, [.int 0, .ref 105, .ref 106, .int 0, .ref 107, .int 0, .int 0, .ref 108, .ref 109, .ref 110, .ref 111, .int 0, .int 0, .int 0, .int 0, .int 0, .ref 112, .null, .null, .null, .null, .null, .null, .null, .int 0, .int 0, .int 0, .null, .int 0, .int 0, .int 0, .int 0, .int 0, .int 0, .null, .int 0, .null, .int 0, .null, .null, .null, .null, .int 0, .null, .null, .int 0, .null, .null, .null, .int 0, .null, .int 0, .null, .null, .int 0, .null, .null, .int 0, .null, .null, .null, .null, .int 0, .null, .null, .null, .int 0, .null, .null, .null, .null, .int 0, .int 0, .int 0, .null], z0, zn)) dm_init_922 fum_31 ⟨_, _, _, _, rfl, rfl, rfl, rfl⟩ hc_12 (Nat.le_of_ble_eq_true rfl) rfl (Nat.le_of_ble_eq_true rfl) rfl rfl ?_
  refine c_aload (i := 0) dm_init_925 rfl ?_
  refine c_iconst (x := 2) dm_init_926 rfl ?_
  refine c_newi (N := 2) dm_init_927 ar_i (by decide) rfl (by decide) (Nat.le_of_ble_eq_true rfl) (Nat.le_of_ble_eq_true rfl) ?_
  refine c_put (w := .ref 113) (cc := (12, 75, [.int 0, .ref 105, .ref 106, .int 0, .ref 107, .int 0, .int 0, .ref 108, .ref 109, .ref 110, .ref 111, .int 0, .int 0, .int 0, .int 0, .int 0, .ref 112, .ref 113, .null, .null, .null, .null, .null, .null, .int 0, .int 0, .int 0, .null, .int 0, .int 0, .int 0, .int 0, .int 0, .int 0, .null, .int 0, .null, .int 0, .null, .null, .null, .null, .int 0, .null, .null, .int 0, .null, .null, .null, .int 0, .null, .int 0, .null, .null, .int 0, .null, .null, .int 0, .null, .null, .null, .null, .int 0, .null, .null, .null, .int 0, .null, .null, .null, .null, .int 0, .int 0, .int 0, .null], z0, zn)) dm_init_929 fum_34 ⟨_, _, _, _, rfl, rfl, rfl, rfl⟩ hc_12 (Nat.le_of_ble_eq_true rfl) rfl (Nat.le_of_ble_eq_true rfl) rfl rfl ?_
  refine c_aload (i := 0) dm_init_932 rfl ?_
  refine c_bipush (x := 48) dm_init_933 rfl ?_
  refine c_newi (N := 48) dm_init_935 ar_i (by decide) rfl (by decide) (Nat.le_of_ble_eq_true rfl) (Nat.le_of_ble_eq_true rfl) ?_
  refine c_put (w := .ref 114) (cc := (12, 75, [.int 0, .ref 105, .ref 106, .int 0, .ref 107, .int 0, .int 0, .ref 108, .ref 109, .ref 110, .ref 111, .int 0, .int 0, .int 0, .int 0, .int 0, .ref 112, .ref 113, .ref 114, .null, .null, .null, .null, .null, .int 0, .int 0, .int 0, .null, .int 0, .int 0, .int 0, .int 0, .int 0, .int 0, .null, .int 0, .null, .int 0, .null, .null, .null, .null, .int 0, .null, .null, .int 0, .null, .null, .null, .int 0, .null, .int 0, .null, .null, .int 0, .null, .null, .int 0, .null, .null, .null, .null, .int 0, .null, .null, .null, .int 0, .null, .null, .null, .null, .int 0, .int 0, .int 0, .null], z0, zn)) dm_init_937 fum_37 ⟨_, _, _, _, rfl, rfl, rfl, rfl⟩ hc_12 (Nat.le_of_ble_eq_true rfl) rfl (Nat.le_of_ble_eq_true rfl) rfl rfl ?_
  refine c_aload (i := 0) dm_init_940 rfl ?_
  refine c_bipush (x := 48) dm_init_941 rfl ?_
  refine c_newi (N := 48) dm_init_943 ar_i (by decide) rfl (by decide) (Nat.le_of_ble_eq_true rfl) (Nat.le_of_ble_eq_true rfl) ?_
  refine c_put (w := .ref 115) (cc := (12, 75, [.int 0, .ref 105, .ref 106, .int 0, .ref 107, .int 0, .int 0, .ref 108, .ref 109, .ref 110, .ref 111, .int 0, .int 0, .int 0, .int 0, .int 0, .ref 112, .ref 113, .ref 114, .ref 115, .null, .null, .null, .null, .int 0, .int 0, .int 0, .null, .int 0, .int 0, .int 0, .int 0, .int 0, .int 0, .null, .int 0, .null, .int 0, .null, .null, .null, .null, .int 0, .null, .null, .int 0, .null, .null, .null, .int 0, .null, .int 0, .null, .null, .int 0, .null, .null, .int 0, .null, .null, .null, .null, .int 0, .null, .null, .null, .int 0, .null, .null, .null, .null, .int 0, .int 0, .int 0, .null], z0, zn)) dm_init_945 fum_40 ⟨_, _, _, _, rfl, rfl, rfl, rfl⟩ hc_12 (Nat.le_of_ble_eq_true rfl) rfl (Nat.le_of_ble_eq_true rfl) rfl rfl ?_
  refine c_aload (i := 0) dm_init_948 rfl ?_
  refine c_bipush (x := 48) dm_init_949 rfl ?_
  refine c_newi (N := 48) dm_init_951 ar_i (by decide) rfl (by decide) (Nat.le_of_ble_eq_true rfl) (Nat.le_of_ble_eq_true rfl) ?_
  refine c_put (w := .ref 116) (cc := (12, 75, [.int 0, .ref 105, .ref 106, .int 0, .ref 107, .int 0, .int 0, .ref 108, .ref 109, .ref 110, .ref 111, .int 0, .int 0, .int 0, .int 0, .int 0, .ref 112, .ref 113, .ref 114, .ref 115, .ref 116, .null, .null, .null, .int 0, .int 0, .int 0, .null, .int 0, .int 0, .int 0, .int 0, .int 0, .int 0, .null, .int 0, .null, .int 0, .null, .null, .null, .null, .int 0, .null, .null, .int 0, .null, .null, .null, .int 0, .null, .int 0, .null, .null, .int 0, .null, .null, .int 0, .null, .null, .null, .null, .int 0, .null, .null, .null, .int 0, .null, .null, .null, .null, .int 0, .int 0, .int 0, .null], z0, zn)) dm_init_953 fum_43 ⟨_, _, _, _, rfl, rfl, rfl, rfl⟩ hc_12 (Nat.le_of_ble_eq_true rfl) rfl (Nat.le_of_ble_eq_true rfl) rfl rfl ?_
  refine c_aload (i := 0) dm_init_956 rfl ?_
  refine c_bipush (x := 48) dm_init_957 rfl ?_
  refine c_newi (N := 48) dm_init_959 ar_i (by decide) rfl (by decide) (Nat.le_of_ble_eq_true rfl) (Nat.le_of_ble_eq_true rfl) ?_
  refine c_put (w := .ref 117) (cc := (12, 75, [.int 0, .ref 105, .ref 106, .int 0, .ref 107, .int 0, .int 0, .ref 108, .ref 109, .ref 110, .ref 111, .int 0, .int 0, .int 0, .int 0, .int 0, .ref 112, .ref 113, .ref 114, .ref 115, .ref 116, .ref 117, .null, .null, .int 0, .int 0, .int 0, .null, .int 0, .int 0, .int 0, .int 0, .int 0, .int 0, .null, .int 0, .null, .int 0, .null, .null, .null, .null, .int 0, .null, .null, .int 0, .null, .null, .null, .int 0, .null, .int 0, .null, .null, .int 0, .null, .null, .int 0, .null, .null, .null, .null, .int 0, .null, .null, .null, .int 0, .null, .null, .null, .null, .int 0, .int 0, .int 0, .null], z0, zn)) dm_init_961 fum_46 ⟨_, _, _, _, rfl, rfl, rfl, rfl⟩ hc_12 (Nat.le_of_ble_eq_true rfl) rfl (Nat.le_of_ble_eq_true rfl) rfl rfl ?_
  refine c_aload (i := 0) dm_init_964 rfl ?_
  refine c_sipush (x := 1200) dm_init_965 rfl ?_
  refine c_newi (N := 1200) dm_init_968 ar_i (by decide) rfl (by decide) (Nat.le_of_ble_eq_true rfl) (Nat.le_of_ble_eq_true rfl) ?_
  refine c_put (w := .ref 118) (cc := (12, 75, [.int 0, .ref 105, .ref 106, .int 0, .ref 107, .int 0, .int 0, .ref 108, .ref 109, .ref 110, .ref 111, .int 0, .int 0, .int 0, .int 0, .int 0, .ref 112, .ref 113, .ref 114, .ref 115, .ref 116, .ref 117, .ref 118, .null, .int 0, .int 0, .int 0, .null, .int 0, .int 0, .int 0, .int 0, .int 0, .int 0, .null, .int 0, .null, .int 0, .null, .null, .null, .null, .int 0, .null, .null, .int 0, .null, .null, .null, .int 0, .null, .int 0, .null, .null, .int 0, .null, .null, .int 0, .null, .null, .null, .null, .int 0, .null, .null, .null, .int 0, .null, .null, .null, .null, .int 0, .int 0, .int 0, .null], z0, zn)) dm_init_970 fum_49 ⟨_, _, _, _, rfl, rfl, rfl, rfl⟩ hc_12 (Nat.le_of_ble_eq_true rfl) rfl (Nat.le_of_ble_eq_true rfl) rfl rfl ?_
  refine c_aload (i := 0) dm_init_973 rfl ?_
  refine c_sipush (x := 1200) dm_init_974 rfl ?_
  refine c_newi (N := 1200) dm_init_977 ar_i (by decide) rfl (by decide) (Nat.le_of_ble_eq_true rfl) (Nat.le_of_ble_eq_true rfl) ?_
  refine c_put (w := .ref 119) (cc := (12, 75, [.int 0, .ref 105, .ref 106, .int 0, .ref 107, .int 0, .int 0, .ref 108, .ref 109, .ref 110, .ref 111, .int 0, .int 0, .int 0, .int 0, .int 0, .ref 112, .ref 113, .ref 114, .ref 115, .ref 116, .ref 117, .ref 118, .ref 119, .int 0, .int 0, .int 0, .null, .int 0, .int 0, .int 0, .int 0, .int 0, .int 0, .null, .int 0, .null, .int 0, .null, .null, .null, .null, .int 0, .null, .null, .int 0, .null, .null, .null, .int 0, .null, .int 0, .null, .null, .int 0, .null, .null, .int 0, .null, .null, .null, .null, .int 0, .null, .null, .null, .int 0, .null, .null, .null, .null, .int 0, .int 0, .int 0, .null], z0, zn)) dm_init_979 fum_52 ⟨_, _, _, _, rfl, rfl, rfl, rfl⟩ hc_12 (Nat.le_of_ble_eq_true rfl) rfl (Nat.le_of_ble_eq_true rfl) rfl rfl ?_
  refine c_aload (i := 0) dm_init_982 rfl ?_
  refine c_bipush (x := 40) dm_init_983 rfl ?_
  refine c_newi (N := 40) dm_init_985 ar_i (by decide) rfl (by decide) (Nat.le_of_ble_eq_true rfl) (Nat.le_of_ble_eq_true rfl) ?_
  refine c_put (w := .ref 120) (cc := (12, 75, [.int 0, .ref 105, .ref 106, .int 0, .ref 107, .int 0, .int 0, .ref 108, .ref 109, .ref 110, .ref 111, .int 0, .int 0, .int 0, .int 0, .int 0, .ref 112, .ref 113, .ref 114, .ref 115, .ref 116, .ref 117, .ref 118, .ref 119, .int 0, .int 0, .int 0, .ref 120, .int 0, .int 0, .int 0, .int 0, .int 0, .int 0, .null, .int 0, .null, .int 0, .null, .null, .null, .null, .int 0, .null, .null, .int 0, .null, .null, .null, .int 0, .null, .int 0, .null, .null, .int 0, .null, .null, .int 0, .null, .null, .null, .null, .int 0, .null, .null, .null, .int 0, .null, .null, .null, .null, .int 0, .int 0, .int 0, .null], z0, zn)) dm_init_987 fum_55 ⟨_, _, _, _, rfl, rfl, rfl, rfl⟩ hc_12 (Nat.le_of_ble_eq_true rfl) rfl (Nat.le_of_ble_eq_true rfl) rfl rfl ?_
  refine c_aload (i := 0) dm_init_990 rfl ?_
  refine c_iconst (x := (-1)) dm_init_991 rfl ?_
  refine c_put (w := .int (-1)) (cc := (12, 75, [.int 0, .ref 105, .ref 106, .int 0, .ref 107, .int 0, .int 0, .ref 108, .ref 109, .ref 110, .ref 111, .int 0, .int 0, .int 0, .int 0, .int 0, .ref 112, .ref 113, .ref 114, .ref 115, .ref 116, .ref 117, .ref 118, .ref 119, .int 0, .int 0, .int 0, .ref 120, .int 0, .int 0, .int 0, .int 0, .int (-1), .int 0, .null, .int 0, .null, .int 0, .null, .null, .null, .null, .int 0, .null, .null, .int 0, .null, .null, .null, .int 0, .null, .int 0, .null, .null, .int 0, .null, .null, .int 0, .null, .null, .null, .null, .int 0, .null, .null, .null, .int 0, .null, .null, .null, .null, .int 0, .int 0, .int 0, .null], z0, zn)) dm_init_992 fum_58 ⟨_, _, _, _, rfl, rfl, rfl, rfl⟩ hc_12 (Nat.le_of_ble_eq_true rfl) rfl (Nat.le_of_ble_eq_true rfl) rfl rfl ?_
  refine c_aload (i := 0) dm_init_995 rfl ?_
  refine c_bipush (x := 96) dm_init_996 rfl ?_
  refine c_newi (N := 96) dm_init_998 ar_i (by decide) rfl (by decide) (Nat.le_of_ble_eq_true rfl) (Nat.le_of_ble_eq_true rfl) ?_
  refine c_put (w := .ref 121) (cc := (12, 75, [.int 0, .ref 105, .ref 106, .int 0, .ref 107, .int 0, .int 0, .ref 108, .ref 109, .ref 110, .ref 111, .int 0, .int 0, .int 0, .int 0, .int 0, .ref 112, .ref 113, .ref 114, .ref 115, .ref 116, .ref 117, .ref 118, .ref 119, .int 0, .int 0, .int 0, .ref 120, .int 0, .int 0, .int 0, .int 0, .int (-1), .int 0, .ref 121, .int 0, .null, .int 0, .null, .null, .null, .null, .int 0, .null, .null, .int 0, .null, .null, .null, .int 0, .null, .int 0, .null, .null, .int 0, .null, .null, .int 0, .null, .null, .null, .null, .int 0, .null, .null, .null, .int 0, .null, .null, .null, .null, .int 0, .int 0, .int 0, .null], z0, zn)) dm_init_1000 fum_62 ⟨_, _, _, _, rfl, rfl, rfl, rfl⟩ hc_12 (Nat.le_of_ble_eq_true rfl) rfl (Nat.le_of_ble_eq_true rfl) rfl rfl ?_
  refine c_aload (i := 0) dm_init_1003 rfl ?_
  refine c_sipush (x := 160) dm_init_1004 rfl ?_
  refine c_newi (N := 160) dm_init_1007 ar_i (by decide) rfl (by decide) (Nat.le_of_ble_eq_true rfl) (Nat.le_of_ble_eq_true rfl) ?_
  refine c_put (w := .ref 122) (cc := (12, 75, [.int 0, .ref 105, .ref 106, .int 0, .ref 107, .int 0, .int 0, .ref 108, .ref 109, .ref 110, .ref 111, .int 0, .int 0, .int 0, .int 0, .int 0, .ref 112, .ref 113, .ref 114, .ref 115, .ref 116, .ref 117, .ref 118, .ref 119, .int 0, .int 0, .int 0, .ref 120, .int 0, .int 0, .int 0, .int 0, .int (-1), .int 0, .ref 121, .int 0, .ref 122, .int 0, .null, .null, .null, .null, .int 0, .null, .null, .int 0, .null, .null, .null, .int 0, .null, .int 0, .null, .null, .int 0, .null, .null, .int 0, .null, .null, .null, .null, .int 0, .null, .null, .null, .int 0, .null, .null, .null, .null, .int 0, .int 0, .int 0, .null], z0, zn)) dm_init_1009 fum_65 ⟨_, _, _, _, rfl, rfl, rfl, rfl⟩ hc_12 (Nat.le_of_ble_eq_true rfl) rfl (Nat.le_of_ble_eq_true rfl) rfl rfl ?_
  refine c_aload (i := 0) dm_init_1012 rfl ?_
  refine c_bipush (x := 24) dm_init_1013 rfl ?_
  refine c_newi (N := 24) dm_init_1015 ar_i (by decide) rfl (by decide) (Nat.le_of_ble_eq_true rfl) (Nat.le_of_ble_eq_true rfl) ?_
  refine c_put (w := .ref 123) (cc := (12, 75, [.int 0, .ref 105, .ref 106, .int 0, .ref 107, .int 0, .int 0, .ref 108, .ref 109, .ref 110, .ref 111, .int 0, .int 0, .int 0, .int 0, .int 0, .ref 112, .ref 113, .ref 114, .ref 115, .ref 116, .ref 117, .ref 118, .ref 119, .int 0, .int 0, .int 0, .ref 120, .int 0, .int 0, .int 0, .int 0, .int (-1), .int 0, .ref 121, .int 0, .ref 122, .int 0, .ref 123, .null, .null, .null, .int 0, .null, .null, .int 0, .null, .null, .null, .int 0, .null, .int 0, .null, .null, .int 0, .null, .null, .int 0, .null, .null, .null, .null, .int 0, .null, .null, .null, .int 0, .null, .null, .null, .null, .int 0, .int 0, .int 0, .null], z0, zn)) dm_init_1017 fum_68 ⟨_, _, _, _, rfl, rfl, rfl, rfl⟩ hc_12 (Nat.le_of_ble_eq_true rfl) rfl (Nat.le_of_ble_eq_true rfl) rfl rfl ?_
  refine c_aload (i := 0) dm_init_1020 rfl ?_
  refine c_bipush (x := 12) dm_init_1021 rfl ?_
  refine c_newi (N := 12) dm_init_1023 ar_i (by decide) rfl (by decide) (Nat.le_of_ble_eq_true rfl) (Nat.le_of_ble_eq_true rfl) ?_
  refine c_put (w := .ref 124) (cc := (12, 75, [.int 0, .ref 105, .ref 106, .int 0, .ref 107, .int 0, .int 0, .ref 108, .ref 109, .ref 110, .ref 111, .int 0, .int 0, .int 0, .int 0, .int 0, .ref 112, .ref 113, .ref 114, .ref 115, .ref 116, .ref 117, .ref 118, .ref 119, .int 0, .int 0, .int 0, .ref 120, .int 0, .int 0, .int 0, .int 0, .int (-1), .int 0, .ref 121, .int 0, .ref 122, .int 0, .ref 123, .ref 124, .null, .null, .int 0, .null, .null, .int 0, .null, .null, .null, .int 0, .null, .int 0, .null, .null, .int 0, .null, .null, .int 0, .null, .null, .null, .null, .int 0, .null, .null, .null, .int 0, .null, .null, .null, .null, .int 0, .int 0, .int 0, .null], z0, zn)) dm_init_1025 fum_71 ⟨_, _, _, _, rfl, rfl, rfl, rfl⟩ hc_12 (Nat.le_of_ble_eq_true rfl) rfl (Nat.le_of_ble_eq_true rfl) rfl rfl ?_
  refine c_aload (i := 0) dm_init_1028 rfl ?_
  refine c_sipush (x := 420) dm_init_1029 rfl ?_
  refine c_newi (N := 420) dm_init_1032 ar_i (by decide) rfl (by decide) (Nat.le_of_ble_eq_true rfl) (Nat.le_of_ble_eq_true rfl) ?_
  refine c_put (w := .ref 125) (cc := (12, 75, [.int 0, .ref 105, .ref 106, .int 0, .ref 107, .int 0, .int 0, .ref 108, .ref 109, .ref 110, .ref 111, .int 0, .int 0, .int 0, .int 0, .int 0, .ref 112, .ref 113, .ref 114, .ref 115, .ref 116, .ref 117, .ref 118, .ref 119, .int 0, .int 0, .int 0, .ref 120, .int 0, .int 0, .int 0, .int 0, .int (-1), .int 0, .ref 121, .int 0, .ref 122, .int 0, .ref 123, .ref 124, .ref 125, .null, .int 0, .null, .null, .int 0, .null, .null, .null, .int 0, .null, .int 0, .null, .null, .int 0, .null, .null, .int 0, .null, .null, .null, .null, .int 0, .null, .null, .null, .int 0, .null, .null, .null, .null, .int 0, .int 0, .int 0, .null], z0, zn)) dm_init_1034 fum_74 ⟨_, _, _, _, rfl, rfl, rfl, rfl⟩ hc_12 (Nat.le_of_ble_eq_true rfl) rfl (Nat.le_of_ble_eq_true rfl) rfl rfl ?_
  refine c_aload (i := 0) dm_init_1037 rfl ?_
  refine c_bipush (x := 12) dm_init_1038 rfl ?_
  refine c_newi (N := 12) dm_init_1040 ar_i (by decide) rfl (by decide) (Nat.le_of_ble_eq_true rfl) (Nat.le_of_ble_eq_true rfl) ?_
  refine c_put (w := .ref 126) (cc := (12, 75, [.int 0, .ref 105, .ref 106, .int 0, .ref 107, .int 0, .int 0, .ref 108, .ref 109, .ref 110, .ref 111, .int 0, .int 0, .int 0, .int 0, .int 0, .ref 112, .ref 113, .ref 114, .ref 115, .ref 116, .ref 117, .ref 118, .ref 119, .int 0, .int 0, .int 0, .ref 120, .int 0, .int 0, .int 0, .int 0, .int (-1), .int 0, .ref 121, .int 0, .ref 122, .int 0, .ref 123, .ref 124, .ref 125, .ref 126, .int 0, .null, .null, .int 0, .null, .null, .null, .int 0, .null, .int 0, .null, .null, .int 0, .null, .null, .int 0, .null, .null, .null, .null, .int 0, .null, .null, .null, .int 0, .null, .null, .null, .null, .int 0, .int 0, .int 0, .null], z0, zn)) dm_init_1042 fum_77 ⟨_, _, _, _, rfl, rfl, rfl, rfl⟩ hc_12 (Nat.le_of_ble_eq_true rfl) rfl (Nat.le_of_ble_eq_true rfl) rfl rfl ?_
  refine c_aload (i := 0) dm_init_1045 rfl ?_
  refine c_bipush (x := 9) dm_init_1046 rfl ?_
  refine c_newi (N := 9) dm_init_1048 ar_i (by decide) rfl (by decide) (Nat.le_of_ble_eq_true rfl) (Nat.le_of_ble_eq_true rfl) ?_
  refine c_put (w := .ref 127) (cc := (12, 75, [.int 0, .ref 105, .ref 106, .int 0, .ref 107, .int 0, .int 0, .ref 108, .ref 109, .ref 110, .ref 111, .int 0, .int 0, .int 0, .int 0, .int 0, .ref 112, .ref 113, .ref 114, .ref 115, .ref 116, .ref 117, .ref 118, .ref 119, .int 0, .int 0, .int 0, .ref 120, .int 0, .int 0, .int 0, .int 0, .int (-1), .int 0, .ref 121, .int 0, .ref 122, .int 0, .ref 123, .ref 124, .ref 125, .ref 126, .int 0, .ref 127, .null, .int 0, .null, .null, .null, .int 0, .null, .int 0, .null, .null, .int 0, .null, .null, .int 0, .null, .null, .null, .null, .int 0, .null, .null, .null, .int 0, .null, .null, .null, .null, .int 0, .int 0, .int 0, .null], z0, zn)) dm_init_1050 fum_80 ⟨_, _, _, _, rfl, rfl, rfl, rfl⟩ hc_12 (Nat.le_of_ble_eq_true rfl) rfl (Nat.le_of_ble_eq_true rfl) rfl rfl ?_
  refine c_aload (i := 0) dm_init_1053 rfl ?_
  refine c_bipush (x := 100) dm_init_1054 rfl ?_
  refine c_newi (N := 100) dm_init_1056 ar_i (by decide) rfl (by decide) (Nat.le_of_ble_eq_true rfl) (Nat.le_of_ble_eq_true rfl) ?_
  refine c_put (w := .ref 128) (cc := (12, 75, [.int 0, .ref 105, .ref 106, .int 0, .ref 107, .int 0, .int 0, .ref 108, .ref 109, .ref 110, .ref 111, .int 0, .int 0, .int 0, .int 0, .int 0, .ref 112, .ref 113, .ref 114, .ref 115, .ref 116, .ref 117, .ref 118, .ref 119, .int 0, .int 0, .int 0, .ref 120, .int 0, .int 0, .int 0, .int 0, .int (-1), .int 0, .ref 121, .int 0, .ref 122, .int 0, .ref 123, .ref 124, .ref 125, .ref 126, .int 0, .ref 127, .ref 128, .int 0, .null, .null, .null, .int 0, .null, .int 0, .null, .null, .int 0, .null, .null, .int 0, .null, .null, .null, .null, .int 0, .null, .null, .null, .int 0, .null, .null, .null, .null, .int 0, .int 0, .int 0, .null], z0, zn)) dm_init_1058 fum_83 ⟨_, _, _, _, rfl, rfl, rfl, rfl⟩ hc_12 (Nat.le_of_ble_eq_true rfl) rfl (Nat.le_of_ble_eq_true rfl) rfl rfl ?_
  refine c_aload (i := 0) dm_init_1061 rfl ?_
  refine c_bipush (x := 8) dm_init_1062 rfl ?_
  refine c_newi (N := 8) dm_init_1064 ar_i (by decide) rfl (by decide) (Nat.le_of_ble_eq_true rfl) (Nat.le_of_ble_eq_true rfl) ?_
  refine c_put (w := .ref 129) (cc := (12, 75, [.int 0, .ref 105, .ref 106, .int 0, .ref 107, .int 0, .int 0, .ref 108, .ref 109, .ref 110, .ref 111, .int 0, .int 0, .int 0, .int 0, .int 0, .ref 112, .ref 113, .ref 114, .ref 115, .ref 116, .ref 117, .ref 118, .ref 119, .int 0, .int 0, .int 0, .ref 120, .int 0, .int 0, .int 0, .int 0, .int (-1), .int 0, .ref 121, .int 0, .ref 122, .int 0, .ref 123, .ref 124, .ref 125, .ref 126, .int 0, .ref 127, .ref 128, .int 0, .ref 129, .null, .null, .int 0, .null, .int 0, .null, .null, .int 0, .null, .null, .int 0, .null, .null, .null, .null, .int 0, .null, .null, .null, .int 0, .null, .null, .null, .null, .int 0, .int 0, .int 0, .null], z0, zn)) dm_init_1066 fum_86 ⟨_, _, _, _, rfl, rfl, rfl, rfl⟩ hc_12 (Nat.le_of_ble_eq_true rfl) rfl (Nat.le_of_ble_eq_true rfl) rfl rfl ?_
  refine c_aload (i := 0) dm_init_1069 rfl ?_
  refine c_sipush (x := 256) dm_init_1070 rfl ?_
  refine c_newi (N := 256) dm_init_1073 ar_i (by decide) rfl (by decide) (Nat.le_of_ble_eq_true rfl) (Nat.le_of_ble_eq_true rfl) ?_
  refine c_put (w := .ref 130) (cc := (12, 75, [.int 0, .ref 105, .ref 106, .int 0, .ref 107, .int 0, .int 0, .ref 108, .ref 109, .ref 110, .ref 111, .int 0, .int 0, .int 0, .int 0, .int 0, .ref 112, .ref 113, .ref 114, .ref 115, .ref 116, .ref 117, .ref 118, .ref 119, .int 0, .int 0, .int 0, .ref 120, .int 0, .int 0, .int 0, .int 0, .int (-1), .int 0, .ref 121, .int 0, .ref 122, .int 0, .ref 123, .ref 124, .ref 125, .ref 126, .int 0, .ref 127, .ref 128, .int 0, .ref 129, .ref 130, .null, .int 0, .null, .int 0, .null, .null, .int 0, .null, .null, .int 0, .null, .null, .null, .null, .int 0, .null, .null, .null, .int 0, .null, .null, .null, .null, .int 0, .int 0, .int 0, .null], z0, zn)) dm_init_1075 fum_89 ⟨_, _, _, _, rfl, rfl, rfl, rfl⟩ hc_12 (Nat.le_of_ble_eq_true rfl) rfl (Nat.le_of_ble_eq_true rfl) rfl rfl ?_
  refine c_aload (i := 0) dm_init_1078 rfl ?_
  refine c_bipush (x := 8) dm_init_1079 rfl ?_
  refine c_newi (N := 8) dm_init_1081 ar_i (by decide) rfl (by decide) (Nat.le_of_ble_eq_true rfl) (Nat.le_of_ble_eq_true rfl) ?_
  refine c_put (w := .ref 131) (cc := (12, 75, [.int 0, .ref 105, .ref 106, .int 0, .ref 107, .int 0, .int 0, .ref 108, .ref 109, .ref 110, .ref 111, .int 0, .int 0, .int 0, .int 0, .int 0, .ref 112, .ref 113, .ref 114, .ref 115, .ref 116, .ref 117, .ref 118, .ref 119, .int 0, .int 0, .int 0, .ref 120, .int 0, .int 0, .int 0, .int 0, .int (-1), .int 0, .ref 121, .int 0, .ref 122, .int 0, .ref 123, .ref 124, .ref 125, .ref 126, .int 0, .ref 127, .ref 128, .int 0, .ref 129, .ref 130, .ref 131, .int 0, .null, .int 0, .null, .null, .int 0, .null, .null, .int 0, .null, .null, .null, .null, .int 0, .null, .null, .null, .int 0, .null, .null, .null, .null, .int 0, .int 0, .int 0, .null], z0, zn)) dm_init_1083 fum_92 ⟨_, _, _, _, rfl, rfl, rfl, rfl⟩ hc_12 (Nat.le_of_ble_eq_true rfl) rfl (Nat.le_of_ble_eq_true rfl) rfl rfl ?_
  refine c_aload (i := 0) dm_init_1086 rfl ?_
  refine c_iconst (x := 5) dm_init_1087 rfl ?_
  refine c_newi (N := 5) dm_init_1088 ar_i (by decide) rfl (by decide) (Nat.le_of_ble_eq_true rfl) (Nat.le_of_ble_eq_true rfl) ?_
  refine c_put (w := .ref 132) (cc := (12, 75, [.int 0, .ref 105, .ref 106, .int 0, .ref 107, .int 0, .int 0, .ref 108, .ref 109, .ref 110, .ref 111, .int 0, .int 0, .int 0, .int 0, .int 0, .ref 112, .ref 113, .ref 114, .ref 115, .ref 116, .ref 117, .ref 118, .ref 119, .int 0, .int 0, .int 0, .ref 120, .int 0, .int 0, .int 0, .int 0, .int (-1), .int 0, .ref 121, .int 0, .ref 122, .int 0, .ref 123, .ref 124, .ref 125, .ref 126, .int 0, .ref 127, .ref 128, .int 0, .ref 129, .ref 130, .ref 131, .int 0, .ref 132, .int 0, .null, .null, .int 0, .null, .null, .int 0, .null, .null, .null, .null, .int 0, .null, .null, .null, .int 0, .null, .null, .null, .null, .int 0, .int 0, .int 0, .null], z0, zn)) dm_init_1090 fum_95 ⟨_, _, _, _, rfl, rfl, rfl, rfl⟩ hc_12 (Nat.le_of_ble_eq_true rfl) rfl (Nat.le_of_ble_eq_true rfl) rfl rfl ?_
  refine c_aload (i := 0) dm_init_1093 rfl ?_
  refine c_bipush (x := 8) dm_init_1094 rfl ?_
  refine c_newi (N := 8) dm_init_1096 ar_i (by decide) rfl (by decide) (Nat.le_of_ble_eq_true rfl) (Nat.le_of_ble_eq_true rfl) ?_
  refine c_put (w := .ref 133) (cc := (12, 75, [.int 0, .ref 105, .ref 106, .int 0, .ref 107, .int 0, .int 0, .ref 108, .ref 109, .ref 110, .ref 111, .int 0, .int 0, .int 0, .int 0, .int 0, .ref 112, .ref 113, .ref 114, .ref 115, .ref 116, .ref 117, .ref 118, .ref 119, .int 0, .int 0, .int 0, .ref 120, .int 0, .int 0, .int 0, .int 0, .int (-1), .int 0, .ref 121, .int 0, .ref 122, .int 0, .ref 123, .ref 124, .ref 125, .ref 126, .int 0, .ref 127, .ref 128, .int 0, .ref 129, .ref 130, .ref 131, .int 0, .ref 132, .int 0, .ref 133, .null, .int 0, .null, .null, .int 0, .null, .null, .null, .null, .int 0, .null, .null, .null, .int 0, .null, .null, .null, .null, .int 0, .int 0, .int 0, .null], z0, zn)) dm_init_1098 fum_98 ⟨_, _, _, _, rfl, rfl, rfl, rfl⟩ hc_12 (Nat.le_of_ble_eq_true rfl) rfl (Nat.le_of_ble_eq_true rfl) rfl rfl ?_
  refine c_aload (i := 0) dm_init_1101 rfl ?_
  refine c_bipush (x := 8) dm_init_1102 rfl ?_
  refine c_newi (N := 8) dm_init_1104 ar_i (by decide) rfl (by decide) (Nat.le_of_ble_eq_true rfl) (Nat.le_of_ble_eq_true rfl) ?_
  refine c_put (w := .ref 134) (cc := (12, 75, [.int 0, .ref 105, .ref 106, .int 0, .ref 107, .int 0, .int 0, .ref 108, .ref 109, .ref 110, .ref 111, .int 0, .int 0, .int 0, .int 0, .int 0, .ref 112, .ref 113, .ref 114, .ref 115, .ref 116, .ref 117, .ref 118, .ref 119, .int 0, .int 0, .int 0, .ref 120, .int 0, .int 0, .int 0, .int 0, .int (-1), .int 0, .ref 121, .int 0, .ref 122, .int 0, .ref 123, .ref 124, .ref 125, .ref 126, .int 0, .ref 127, .ref 128, .int 0, .ref 129, .ref 130, .ref 131, .int 0, .ref 132, .int 0, .ref 133, .ref 134, .int 0, .null, .null, .int 0, .null, .null, .null, .null, .int 0, .null, .null, .null, .int 0, .null, .null, .null, .null, .int 0, .int 0, .int 0, .null], z0, zn)) dm_init_1106 fum_101 ⟨_, _, _, _, rfl, rfl, rfl, rfl⟩ hc_12 (Nat.le_of_ble_eq_true rfl) rfl (Nat.le_of_ble_eq_true rfl) rfl rfl ?_
  refine c_aload (i := 0) dm_init_1109 rfl ?_
  refine c_bipush (x := 16) dm_init_1110 rfl ?_
  refine c_newi (N := 16) dm_init_1112 ar_i (by decide) rfl (by decide) (Nat.le_of_ble_eq_true rfl) (Nat.le_of_ble_eq_true rfl) ?_
  refine c_put (w := .ref 135) (cc := (12, 75, [.int 0, .ref 105, .ref 106, .int 0, .ref 107, .int 0, .int 0, .ref 108, .ref 109, .ref 110, .ref 111, .int 0, .int 0, .int 0, .int 0, .int 0, .ref 112, .ref 113, .ref 114, .ref 115, .ref 116, .ref 117, .ref 118, .ref 119, .int 0, .int 0, .int 0, .ref 120, .int 0, .int 0, .int 0, .int 0, .int (-1), .int 0, .ref 121, .int 0, .ref 122, .int 0, .ref 123, .ref 124, .ref 125, .ref 126, .int 0, .ref 127, .ref 128, .int 0, .ref 129, .ref 130, .ref 131, .int 0, .ref 132, .int 0, .ref 133, .ref 134, .int 0, .ref 135, .null, .int 0, .null, .null, .null, .null, .int 0, .null, .null, .null, .int 0, .null, .null, .null, .null, .int 0, .int 0, .int 0, .null], z0, zn)) dm_init_1114 fum_104 ⟨_, _, _, _, rfl, rfl, rfl, rfl⟩ hc_12 (Nat.le_of_ble_eq_true rfl) rfl (Nat.le_of_ble_eq_true rfl) rfl rfl ?_
  refine c_aload (i := 0) dm_init_1117 rfl ?_
  refine c_sipush (x := 1681) dm_init_1118 rfl ?_
  refine c_newi (N := 1681) dm_init_1121 ar_i (by decide) rfl (by decide) (Nat.le_of_ble_eq_true rfl) (Nat.le_of_ble_eq_true rfl) ?_
  refine c_put (w := .ref 136) (cc := (12, 75, [.int 0, .ref 105, .ref 106, .int 0, .ref 107, .int 0, .int 0, .ref 108, .ref 109, .ref 110, .ref 111, .int 0, .int 0, .int 0, .int 0, .int 0, .ref 112, .ref 113, .ref 114, .ref 115, .ref 116, .ref 117, .ref 118, .ref 119, .int 0, .int 0, .int 0, .ref 120, .int 0, .int 0, .int 0, .int 0, .int (-1), .int 0, .ref 121, .int 0, .ref 122, .int 0, .ref 123, .ref 124, .ref 125, .ref 126, .int 0, .ref 127, .ref 128, .int 0, .ref 129, .ref 130, .ref 131, .int 0, .ref 132, .int 0, .ref 133, .ref 134, .int 0, .ref 135, .ref 136, .int 0, .null, .null, .null, .null, .int 0, .null, .null, .null, .int 0, .null, .null, .null, .null, .int 0, .int 0, .int 0, .null], z0, zn)) dm_init_1123 fum_107 ⟨_, _, _, _, rfl, rfl, rfl, rfl⟩ hc_12 (Nat.le_of_ble_eq_true rfl) rfl (Nat.le_of_ble_eq_true rfl) rfl rfl ?_
  refine c_aload (i := 0) dm_init_1126 rfl ?_
  refine c_bipush (x := 6) dm_init_1127 rfl ?_
  refine c_newi (N := 6) dm_init_1129 ar_i (by decide) rfl (by decide) (Nat.le_of_ble_eq_true rfl) (Nat.le_of_ble_eq_true rfl) ?_
  refine c_put (w := .ref 137) (cc := (12, 75, [.int 0, .ref 105, .ref 106, .int 0, .ref 107, .int 0, .int 0, .ref 108, .ref 109, .ref 110, .ref 111, .int 0, .int 0, .int 0, .int 0, .int 0, .ref 112, .ref 113, .ref 114, .ref 115, .ref 116, .ref 117, .ref 118, .ref 119, .int 0, .int 0, .int 0, .ref 120, .int 0, .int 0, .int 0, .int 0, .int (-1), .int 0, .ref 121, .int 0, .ref 122, .int 0, .ref 123, .ref 124, .ref 125, .ref 126, .int 0, .ref 127, .ref 128, .int 0, .ref 129, .ref 130, .ref 131, .int 0, .ref 132, .int 0, .ref 133, .ref 134, .int 0, .ref 135, .ref 136, .int 0, .ref 137, .null, .null, .null, .int 0, .null, .null, .null, .int 0, .null, .null, .null, .null, .int 0, .int 0, .int 0, .null], z0, zn)) dm_init_1131 fum_110 ⟨_, _, _, _, rfl, rfl, rfl, rfl⟩ hc_12 (Nat.le_of_ble_eq_true rfl) rfl (Nat.le_of_ble_eq_true rfl) rfl rfl ?_
  refine c_aload (i := 0) dm_init_1134 rfl ?_
  refine c_bipush (x := 6) dm_init_1135 rfl ?_
  refine c_newi (N := 6) dm_init_1137 ar_i (by decide) rfl (by decide) (Nat.le_of_ble_eq_true rfl) (Nat.le_of_ble_eq_true rfl) ?_
  refine c_put (w := .ref 138) (cc := (12, 75, [.int 0, .ref 105, .ref 106, .int 0, .ref 107, .int 0, .int 0, .ref 108, .ref 109, .ref 110, .ref 111, .int 0, .int 0, .int 0, .int 0, .int 0, .ref 112, .ref 113, .ref 114, .ref 115, .ref 116, .ref 117, .ref 118, .ref 119, .int 0, .int 0, .int 0, .ref 120, .int 0, .int 0, .int 0, .int 0, .int (-1), .int 0, .ref 121, .int 0, .ref 122, .int 0, .ref 123, .ref 124, .ref 125, .ref 126, .int 0, .ref 127, .ref 128, .int 0, .ref 129, .ref 130, .ref 131, .int 0, .ref 132, .int 0, .ref 133, .ref 134, .int 0, .ref 135, .ref 136, .int 0, .ref 137, .ref 138, .null, .null, .int 0, .null, .null, .null, .int 0, .null, .null, .null, .null, .int 0, .int 0, .int 0, .null], z0, zn)) dm_init_1139 fum_113 ⟨_, _, _, _, rfl, rfl, rfl, rfl⟩ hc_12 (Nat.le_of_ble_eq_true rfl) rfl (Nat.le_of_ble_eq_true rfl) rfl rfl ?_
  refine c_aload (i := 0) dm_init_1142 rfl ?_
  refine c_bipush (x := 6) dm_init_1143 rfl ?_
  refine c_newi (N := 6) dm_init_1145 ar_i (by decide) rfl (by decide) (Nat.le_of_ble_eq_true rfl) (Nat.le_of_ble_eq_true rfl) ?_
  refine c_put (w := .ref 139) (cc := (12, 75, [.int 0, .ref 105, .ref 106, .int 0, .ref 107, .int 0, .int 0, .ref 108, .ref 109, .ref 110, .ref 111, .int 0, .int 0, .int 0, .int 0, .int 0, .ref 112, .ref 113, .ref 114, .ref 115, .ref 116, .ref 117, .ref 118, .ref 119, .int 0, .int 0, .int 0, .ref 120, .int 0, .int 0, .int 0, .int 0, .int (-1), .int 0, .ref 121, .int 0, .ref 122, .int 0, .ref 123, .ref 124, .ref 125, .ref 126, .int 0, .ref 127, .ref 128, .int 0, .ref 129, .ref 130, .ref 131, .int 0, .ref 132, .int 0, .ref 133, .ref 134, .int 0, .ref 135, .ref 136, .int 0, .ref 137, .ref 138, .ref 139, .null, .int 0, .null, .null, .null, .int 0, .null, .null, .null, .null, .int 0, .int 0, .int 0, .null], z0, zn)) dm_init_1147 fum_116 ⟨_, _, _, _, rfl, rfl, rfl, rfl⟩ hc_12 (Nat.le_of_ble_eq_true rfl) rfl (Nat.le_of_ble_eq_true rfl) rfl rfl ?_
  refine c_aload (i := 0) dm_init_1150 rfl ?_
  refine c_bipush (x := 6) dm_init_1151 rfl ?_
  refine c_newi (N := 6) dm_init_1153 ar_i (by decide) rfl (by decide) (Nat.le_of_ble_eq_true rfl) (Nat.le_of_ble_eq_true rfl) ?_
  refine c_put (w := .ref 140) (cc := (12, 75, [.int 0, .ref 105, .ref 106, .int 0, .ref 107, .int 0, .int 0, .ref 108, .ref 109, .ref 110, .ref 111, .int 0, .int 0, .int 0, .int 0, .int 0, .ref 112, .ref 113, .ref 114, .ref 115, .ref 116, .ref 117, .ref 118, .ref 119, .int 0, .int 0, .int 0, .ref 120, .int 0, .int 0, .int 0, .int 0, .int (-1), .int 0, .ref 121, .int 0, .ref 122, .int 0, .ref 123, .ref 124, .ref 125, .ref 126, .int 0, .ref 127, .ref 128, .int 0, .ref 129, .ref 130, .ref 131, .int 0, .ref 132, .int 0, .ref 133, .ref 134, .int 0, .ref 135, .ref 136, .int 0, .ref 137, .ref 138, .ref 139, .ref 140, .int 0, .null, .null, .null, .int 0, .null, .null, .null, .null, .int 0, .int 0, .int 0, .null], z0, zn)) dm_init_1155 fum_119 ⟨_, _, _, _, rfl, rfl, rfl, rfl⟩ hc_12 (Nat.le_of_ble_eq_true rfl) rfl (Nat.le_of_ble_eq_true rfl) rfl rfl ?_
  refine c_aload (i := 0) dm_init_1158 rfl ?_
  refine c_bipush (x := 12) dm_init_1159 rfl ?_
  refine c_newi (N := 12) dm_init_1161 ar_i (by decide) rfl (by decide) (Nat.le_of_ble_eq_true rfl) (Nat.le_of_ble_eq_true rfl) ?_
  refine c_put (w := .ref 141) (cc := (12, 75, [.int 0, .ref 105, .ref 106, .int 0, .ref 107, .int 0, .int 0, .ref 108, .ref 109, .ref 110, .ref 111, .int 0, .int 0, .int 0, .int 0, .int 0, .ref 112, .ref 113, .ref 114, .ref 115, .ref 116, .ref 117, .ref 118, .ref 119, .int 0, .int 0, .int 0, .ref 120, .int 0, .int 0, .int 0, .int 0, .int (-1), .int 0, .ref 121, .int 0, .ref 122, .int 0, .ref 123, .ref 124, .ref 125, .ref 126, .int 0, .ref 127, .ref 128, .int 0, .ref 129, .ref 130, .ref 131, .int 0, .ref 132, .int 0, .ref 133, .ref 134, .int 0, .ref 135, .ref 136, .int 0, .ref 137, .ref 138, .ref 139, .ref 140, .int 0, .ref 141, .null, .null, .int 0, .null, .null, .null, .null, .int 0, .int 0, .int 0, .null], z0, zn)) dm_init_1163 fum_122 ⟨_, _, _, _, rfl, rfl, rfl, rfl⟩ hc_12 (Nat.le_of_ble_eq_true rfl) rfl (Nat.le_of_ble_eq_true rfl) rfl rfl ?_
  refine c_aload (i := 0) dm_init_1166 rfl ?_
  refine c_bipush (x := 21) dm_init_1167 rfl ?_
  refine c_newi (N := 21) dm_init_1169 ar_i (by decide) rfl (by decide) (Nat.le_of_ble_eq_true rfl) (Nat.le_of_ble_eq_true rfl) ?_
  refine c_put (w := .ref 142) (cc := (12, 75, [.int 0, .ref 105, .ref 106, .int 0, .ref 107, .int 0, .int 0, .ref 108, .ref 109, .ref 110, .ref 111, .int 0, .int 0, .int 0, .int 0, .int 0, .ref 112, .ref 113, .ref 114, .ref 115, .ref 116, .ref 117, .ref 118, .ref 119, .int 0, .int 0, .int 0, .ref 120, .int 0, .int 0, .int 0, .int 0, .int (-1), .int 0, .ref 121, .int 0, .ref 122, .int 0, .ref 123, .ref 124, .ref 125, .ref 126, .int 0, .ref 127, .ref 128, .int 0, .ref 129, .ref 130, .ref 131, .int 0, .ref 132, .int 0, .ref 133, .ref 134, .int 0, .ref 135, .ref 136, .int 0, .ref 137, .ref 138, .ref 139, .ref 140, .int 0, .ref 141, .ref 142, .null, .int 0, .null, .null, .null, .null, .int 0, .int 0, .int 0, .null], z0, zn)) dm_init_1171 fum_125 ⟨_, _, _, _, rfl, rfl, rfl, rfl⟩ hc_12 (Nat.le_of_ble_eq_true rfl) rfl (Nat.le_of_ble_eq_true rfl) rfl rfl ?_
  refine c_aload (i := 0) dm_init_1174 rfl ?_
  refine c_bipush (x := 21) dm_init_1175 rfl ?_
  refine c_newi (N := 21) dm_init_1177 ar_i (by decide) rfl (by decide) (Nat.le_of_ble_eq_true rfl) (Nat.le_of_ble_eq_true rfl) ?_
  refine c_put (w := .ref 143) (cc := (12, 75, [.int 0, .ref 105, .ref 106, .int 0, .ref 107, .int 0, .int 0, .ref 108, .ref 109, .ref 110, .ref 111, .int 0, .int 0, .int 0, .int 0, .int 0, .ref 112, .ref 113, .ref 114, .ref 115, .ref 116, .ref 117, .ref 118, .ref 119, .int 0, .int 0, .int 0, .ref 120, .int 0, .int 0, .int 0, .int 0, .int (-1), .int 0, .ref 121, .int 0, .ref 122, .int 0, .ref 123, .ref 124, .ref 125, .ref 126, .int 0, .ref 127, .ref 128, .int 0, .ref 129, .ref 130, .ref 131, .int 0, .ref 132, .int 0, .ref 133, .ref 134, .int 0, .ref 135, .ref 136, .int 0, .ref 137, .ref 138, .ref 139, .ref 140, .int 0, .ref 141, .ref 142, .ref 143, .int 0, .null, .null, .null, .null, .int 0, .int 0, .int 0, .null], z0, zn)) dm_init_1179 fum_128 ⟨_, _, _, _, rfl, rfl, rfl, rfl⟩ hc_12 (Nat.le_of_ble_eq_true rfl) rfl (Nat.le_of_ble_eq_true rfl) rfl rfl ?_
  refine c_aload (i := 0) dm_init_1182 rfl ?_
  refine c_bipush (x := 8) dm_init_1183 rfl ?_
  refine c_newi (N := 8) dm_init_1185 ar_i (by decide) rfl (by decide) (Nat.le_of_ble_eq_true rfl) (Nat.le_of_ble_eq_true rfl) ?_
  refine c_put (w := .ref 144) (cc := (12, 75, [.int 0, .ref 105, .ref 106, .int 0, .ref 107, .int 0, .int 0, .ref 108, .ref 109, .ref 110, .ref 111, .int 0, .int 0, .int 0, .int 0, .int 0, .ref 112, .ref 113, .ref 114, .ref 115, .ref 116, .ref 117, .ref 118, .ref 119, .int 0, .int 0, .int 0, .ref 120, .int 0, .int 0, .int 0, .int 0, .int (-1), .int 0, .ref 121, .int 0, .ref 122, .int 0, .ref 123, .ref 124, .ref 125, .ref 126, .int 0, .ref 127, .ref 128, .int 0, .ref 129, .ref 130, .ref 131, .int 0, .ref 132, .int 0, .ref 133, .ref 134, .int 0, .ref 135, .ref 136, .int 0, .ref 137, .ref 138, .ref 139, .ref 140, .int 0, .ref 141, .ref 142, .ref 143, .int 0, .ref 144, .null, .null, .null, .int 0, .int 0, .int 0, .null], z0, zn)) dm_init_1187 fum_131 ⟨_, _, _, _, rfl, rfl, rfl, rfl⟩ hc_12 (Nat.le_of_ble_eq_true rfl) rfl (Nat.le_of_ble_eq_true rfl) rfl rfl ?_
  refine c_aload (i := 0) dm_init_1190 rfl ?_
  refine c_bipush (x := 8) dm_init_1191 rfl ?_
  refine c_newi (N := 8) dm_init_1193 ar_i (by decide) rfl (by decide) (Nat.le_of_ble_eq_true rfl) (Nat.le_of_ble_eq_true rfl) ?_
  refine c_put (w := .ref 145) (cc := (12, 75, [.int 0, .ref 105, .ref 106, .int 0, .ref 107, .int 0, .int 0, .ref 108, .ref 109, .ref 110, .ref 111, .int 0, .int 0, .int 0, .int 0, .int 0, .ref 112, .ref 113, .ref 114, .ref 115, .ref 116, .ref 117, .ref 118, .ref 119, .int 0, .int 0, .int 0, .ref 120, .int 0, .int 0, .int 0, .int 0, .int (-1), .int 0, .ref 121, .int 0, .ref 122, .int 0, .ref 123, .ref 124, .ref 125, .ref 126, .int 0, .ref 127, .ref 128, .int 0, .ref 129, .ref 130, .ref 131, .int 0, .ref 132, .int 0, .ref 133, .ref 134, .int 0, .ref 135, .ref 136, .int 0, .ref 137, .ref 138, .ref 139, .ref 140, .int 0, .ref 141, .ref 142, .ref 143, .int 0, .ref 144, .ref 145, .null, .null, .int 0, .int 0, .int 0, .null], z0, zn)) dm_init_1195 fum_134 ⟨_, _, _, _, rfl, rfl, rfl, rfl⟩ hc_12 (Nat.le_of_ble_eq_true rfl) rfl (Nat.le_of_ble_eq_true rfl) rfl rfl ?_
  refine c_aload (i := 0) dm_init_1198 rfl ?_
  refine c_sipush (x := 16807) dm_init_1199 rfl ?_
  refine c_newi (N := 16807) dm_init_1202 ar_i (by decide) rfl (by decide) (Nat.le_of_ble_eq_true rfl) (Nat.le_of_ble_eq_true rfl) ?_
  refine c_put (w := .ref 146) (cc := (12, 75, [.int 0, .ref 105, .ref 106, .int 0, .ref 107, .int 0, .int 0, .ref 108, .ref 109, .ref 110, .ref 111, .int 0, .int 0, .int 0, .int 0, .int 0, .ref 112, .ref 113, .ref 114, .ref 115, .ref 116, .ref 117, .ref 118, .ref 119, .int 0, .int 0, .int 0, .ref 120, .int 0, .int 0, .int 0, .int 0, .int (-1), .int 0, .ref 121, .int 0, .ref 122, .int 0, .ref 123, .ref 124, .ref 125, .ref 126, .int 0, .ref 127, .ref 128, .int 0, .ref 129, .ref 130, .ref 131, .int 0, .ref 132, .int 0, .ref 133, .ref 134, .int 0, .ref 135, .ref 136, .int 0, .ref 137, .ref 138, .ref 139, .ref 140, .int 0, .ref 141, .ref 142, .ref 143, .int 0, .ref 144, .ref 145, .ref 146, .null, .int 0, .int 0, .int 0, .null], z0, zn)) dm_init_1204 fum_137 ⟨_, _, _, _, rfl, rfl, rfl, rfl⟩ hc_12 (Nat.le_of_ble_eq_true rfl) rfl (Nat.le_of_ble_eq_true rfl) rfl rfl ?_
  refine c_aload (i := 0) dm_init_1207 rfl ?_
  refine c_iconst (x := 5) dm_init_1208 rfl ?_
  refine c_newi (N := 5) dm_init_1209 ar_i (by decide) rfl (by decide) (Nat.le_of_ble_eq_true rfl) (Nat.le_of_ble_eq_true rfl) ?_
  refine c_put (w := .ref 147) (cc := (12, 75, [.int 0, .ref 105, .ref 106, .int 0, .ref 107, .int 0, .int 0, .ref 108, .ref 109, .ref 110, .ref 111, .int 0, .int 0, .int 0, .int 0, .int 0, .ref 112, .ref 113, .ref 114, .ref 115, .ref 116, .ref 117, .ref 118, .ref 119, .int 0, .int 0, .int 0, .ref 120, .int 0, .int 0, .int 0, .int 0, .int (-1), .int 0, .ref 121, .int 0, .ref 122, .int 0, .ref 123, .ref 124, .ref 125, .ref 126, .int 0, .ref 127, .ref 128, .int 0, .ref 129, .ref 130, .ref 131, .int 0, .ref 132, .int 0, .ref 133, .ref 134, .int 0, .ref 135, .ref 136, .int 0, .ref 137, .ref 138, .ref 139, .ref 140, .int 0, .ref 141, .ref 142, .ref 143, .int 0, .ref 144, .ref 145, .ref 146, .ref 147, .int 0, .int 0, .int 0, .null], z0, zn)) dm_init_1211 fum_140 ⟨_, _, _, _, rfl, rfl, rfl, rfl⟩ hc_12 (Nat.le_of_ble_eq_true rfl) rfl (Nat.le_of_ble_eq_true rfl) rfl rfl ?_
  refine c_aload (i := 0) dm_init_1214 rfl ?_
  refine c_sipush (x := 2400) dm_init_1215 rfl ?_
  refine c_newi (N := 2400) dm_init_1218 ar_i (by decide) rfl (by decide) (Nat.le_of_ble_eq_true rfl) (Nat.le_of_ble_eq_true rfl) ?_
  refine c_put (w := .ref 148) (cc := (12, 75, [.int 0, .ref 105, .ref 106, .int 0, .ref 107, .int 0, .int 0, .ref 108, .ref 109, .ref 110, .ref 111, .int 0, .int 0, .int 0, .int 0, .int 0, .ref 112, .ref 113, .ref 114, .ref 115, .ref 116, .ref 117, .ref 118, .ref 119, .int 0, .int 0, .int 0, .ref 120, .int 0, .int 0, .int 0, .int 0, .int (-1), .int 0, .ref 121, .int 0, .ref 122, .int 0, .ref 123, .ref 124, .ref 125, .ref 126, .int 0, .ref 127, .ref 128, .int 0, .ref 129, .ref 130, .ref 131, .int 0, .ref 132, .int 0, .ref 133, .ref 134, .int 0, .ref 135, .ref 136, .int 0, .ref 137, .ref 138, .ref 139, .ref 140, .int 0, .ref 141, .ref 142, .ref 143, .int 0, .ref 144, .ref 145, .ref 146, .ref 147, .int 0, .int 0, .int 0, .ref 148], z0, zn)) dm_init_1220 fum_143 ⟨_, _, _, _, rfl, rfl, rfl, rfl⟩ hc_12 (Nat.le_of_ble_eq_true rfl) rfl (Nat.le_of_ble_eq_true rfl) rfl rfl ?_
  exact c_ret dm_init_1223 rfl rfl
