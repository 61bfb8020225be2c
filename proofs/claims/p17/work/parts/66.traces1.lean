set_option maxRecDepth 40000 in
theorem kx_51 (G : GG) (d : Nat) (F : CF) : Kc G tX_init (d + 2) 103 8761 [.ref (gB G + 0)] 1 (sF F 0 (0, 14, df_0, z0, zn)) 104 (pf_51 F) := by
  refine K_of_Vc (by decide) rfl (by simp [cat_i, cat_r]) (by simp [tX_init]) ?_
  refine c_aload (i := 0) dX_init_0 rfl ?_
  refine c_obj dX_init_1 mlX_1 (Nat.le_of_ble_eq_true rfl) ?_
  refine c_new (ci := 1) (ty := ty_1) df_1 dX_init_4 clX_7 in_1 iz_1 rfl ty_ok_1 df_ok_1 rfl (Nat.le_of_ble_eq_true rfl) (Nat.le_of_ble_eq_true rfl) ?_
  refine c_dup dX_init_7 rfl ?_
  refine c_callN (M' := tB_init) dX_init_8 mlX_9 okiB_init rfl rfl (Nat.le_of_ble_eq_true rfl) (Nat.le_of_ble_eq_true rfl) (Nat.le_of_ble_eq_true rfl) (kx_1 G (d + 1) _) ?_
  refine c_astore (i := 1) dX_init_11 (by decide) rfl ?_
  refine c_new (ci := 1) (ty := ty_1) df_1 dX_init_12 clX_7 in_1 iz_1 rfl ty_ok_1 df_ok_1 rfl (Nat.le_of_ble_eq_true rfl) (Nat.le_of_ble_eq_true rfl) ?_
  refine c_dup dX_init_15 rfl ?_
  refine c_callN (M' := tB_init) dX_init_16 mlX_9 okiB_init rfl rfl (Nat.le_of_ble_eq_true rfl) (Nat.le_of_ble_eq_true rfl) (Nat.le_of_ble_eq_true rfl) (kx_2 G (d + 1) _) ?_
  refine c_astore (i := 2) dX_init_19 (by decide) rfl ?_
  refine c_new (ci := 11) (ty := ty_11) df_11 dX_init_20 clX_10 in_11 iz_11 rfl ty_ok_11 df_ok_11 rfl (Nat.le_of_ble_eq_true rfl) (Nat.le_of_ble_eq_true rfl) ?_
  refine c_dup dX_init_23 rfl ?_
  refine c_callN (M' := tO_init) dX_init_24 mlX_12 okiO_init rfl rfl (Nat.le_of_ble_eq_true rfl) (Nat.le_of_ble_eq_true rfl) (Nat.le_of_ble_eq_true rfl) (kx_17 G d _) ?_
  refine c_astore (i := 3) dX_init_27 (by decide) rfl ?_
  refine c_new (ci := 3) (ty := ty_3) df_3 dX_init_28 clX_13 in_3 iz_3 rfl ty_ok_3 df_ok_3 rfl (Nat.le_of_ble_eq_true rfl) (Nat.le_of_ble_eq_true rfl) ?_
  refine c_dup dX_init_31 rfl ?_
  refine c_aload (i := 3) dX_init_32 rfl ?_
  refine c_get (w := .ref 6) (w' := .ref (gB G + 6)) dX_init_33 fuX_15 (Nat.le_of_ble_eq_true rfl) rfl rfl rfl ?_
  refine c_aload (i := 3) dX_init_36 rfl ?_
  refine c_get (w := .ref 8) (w' := .ref (gB G + 8)) dX_init_37 fuX_19 (Nat.le_of_ble_eq_true rfl) rfl rfl rfl ?_
  refine c_call (M' := tW_init) dX_init_40 mlX_22 okiW_init rfl rfl (Nat.le_of_ble_eq_true rfl) (Nat.le_of_ble_eq_true rfl) (Nat.le_of_ble_eq_true rfl) (kx_18 G (d + 1) _) ?_
  refine c_astore (i := 4) dX_init_43 (by decide) rfl ?_
  refine c_aload (i := 0) dX_init_45 rfl ?_
  refine c_aload (i := 1) dX_init_46 rfl ?_
  refine c_put (w := .ref 1) (cc := (0, 14, [.ref 1, .null, .null, .null, .null, .null, .null, .null, .null, .null, .null, .null, .null, .int 0], z0, zn)) dX_init_47 fuX_25 ⟨_, _, _, _, rfl, rfl, rfl, rfl⟩ hc_0 (Nat.le_of_ble_eq_true rfl) rfl (Nat.le_of_ble_eq_true rfl) rfl rfl ?_
  refine c_aload (i := 0) dX_init_50 rfl ?_
  refine c_aload (i := 2) dX_init_51 rfl ?_
  refine c_put (w := .ref 3) (cc := (0, 14, [.ref 1, .null, .ref 3, .null, .null, .null, .null, .null, .null, .null, .null, .null, .null, .int 0], z0, zn)) dX_init_52 fuX_31 ⟨_, _, _, _, rfl, rfl, rfl, rfl⟩ hc_0 (Nat.le_of_ble_eq_true rfl) rfl (Nat.le_of_ble_eq_true rfl) rfl rfl ?_
  refine c_aload (i := 0) dX_init_55 rfl ?_
  refine c_aload (i := 3) dX_init_56 rfl ?_
  refine c_put (w := .ref 5) (cc := (0, 14, [.ref 1, .null, .ref 3, .ref 5, .null, .null, .null, .null, .null, .null, .null, .null, .null, .int 0], z0, zn)) dX_init_57 fuX_34 ⟨_, _, _, _, rfl, rfl, rfl, rfl⟩ hc_0 (Nat.le_of_ble_eq_true rfl) rfl (Nat.le_of_ble_eq_true rfl) rfl rfl ?_
  refine c_aload (i := 0) dX_init_60 rfl ?_
  refine c_new (ci := 1) (ty := ty_1) df_1 dX_init_61 clX_7 in_1 iz_1 rfl ty_ok_1 df_ok_1 rfl (Nat.le_of_ble_eq_true rfl) (Nat.le_of_ble_eq_true rfl) ?_
  refine c_dup dX_init_64 rfl ?_
  refine c_callN (M' := tB_init) dX_init_65 mlX_9 okiB_init rfl rfl (Nat.le_of_ble_eq_true rfl) (Nat.le_of_ble_eq_true rfl) (Nat.le_of_ble_eq_true rfl) (kx_19 G (d + 1) _) ?_
  refine c_put (w := .ref 37) (cc := (0, 14, [.ref 1, .ref 37, .ref 3, .ref 5, .null, .null, .null, .null, .null, .null, .null, .null, .null, .int 0], z0, zn)) dX_init_68 fuX_38 ⟨_, _, _, _, rfl, rfl, rfl, rfl⟩ hc_0 (Nat.le_of_ble_eq_true rfl) rfl (Nat.le_of_ble_eq_true rfl) rfl rfl ?_
  refine c_aload (i := 0) dX_init_71 rfl ?_
  refine c_new (ci := 11) (ty := ty_11) df_11 dX_init_72 clX_10 in_11 iz_11 rfl ty_ok_11 df_ok_11 rfl (Nat.le_of_ble_eq_true rfl) (Nat.le_of_ble_eq_true rfl) ?_
  refine c_dup dX_init_75 rfl ?_
  refine c_callN (M' := tO_init) dX_init_76 mlX_12 okiO_init rfl rfl (Nat.le_of_ble_eq_true rfl) (Nat.le_of_ble_eq_true rfl) (Nat.le_of_ble_eq_true rfl) (kx_34 G d _) ?_
  refine c_put (w := .ref 39) (cc := (0, 14, [.ref 1, .ref 37, .ref 3, .ref 5, .ref 39, .null, .null, .null, .null, .null, .null, .null, .null, .int 0], z0, zn)) dX_init_79 fuX_41 ⟨_, _, _, _, rfl, rfl, rfl, rfl⟩ hc_0 (Nat.le_of_ble_eq_true rfl) rfl (Nat.le_of_ble_eq_true rfl) rfl rfl ?_
  refine c_aload (i := 0) dX_init_82 rfl ?_
  refine c_new (ci := 7) (ty := ty_7) df_7 dX_init_83 clX_44 in_7 iz_7 rfl ty_ok_7 df_ok_7 rfl (Nat.le_of_ble_eq_true rfl) (Nat.le_of_ble_eq_true rfl) ?_
  refine c_dup dX_init_86 rfl ?_
  refine c_aload (i := 1) dX_init_87 rfl ?_
  refine c_aload (i := 3) dX_init_88 rfl ?_
  refine c_aload (i := 4) dX_init_89 rfl ?_
  refine c_iconst (x := 1) dX_init_91 rfl ?_
  refine c_call (M' := tS_init) dX_init_92 mlX_46 okiS_init rfl rfl (Nat.le_of_ble_eq_true rfl) (Nat.le_of_ble_eq_true rfl) (Nat.le_of_ble_eq_true rfl) (kx_35 G (d + 1) _) ?_
  refine c_put (w := .ref 68) (cc := (0, 14, [.ref 1, .ref 37, .ref 3, .ref 5, .ref 39, .ref 68, .null, .null, .null, .null, .null, .null, .null, .int 0], z0, zn)) dX_init_95 fuX_49 ⟨_, _, _, _, rfl, rfl, rfl, rfl⟩ hc_0 (Nat.le_of_ble_eq_true rfl) rfl (Nat.le_of_ble_eq_true rfl) rfl rfl ?_
  refine c_aload (i := 0) dX_init_98 rfl ?_
  refine c_new (ci := 7) (ty := ty_7) df_7 dX_init_99 clX_44 in_7 iz_7 rfl ty_ok_7 df_ok_7 rfl (Nat.le_of_ble_eq_true rfl) (Nat.le_of_ble_eq_true rfl) ?_
  refine c_dup dX_init_102 rfl ?_
  refine c_aload (i := 2) dX_init_103 rfl ?_
  refine c_aload (i := 3) dX_init_104 rfl ?_
  refine c_aload (i := 4) dX_init_105 rfl ?_
  refine c_iconst (x := 0) dX_init_107 rfl ?_
  refine c_call (M' := tS_init) dX_init_108 mlX_46 okiS_init rfl rfl (Nat.le_of_ble_eq_true rfl) (Nat.le_of_ble_eq_true rfl) (Nat.le_of_ble_eq_true rfl) (kx_36 G (d + 1) _) ?_
  refine c_put (w := .ref 69) (cc := (0, 14, [.ref 1, .ref 37, .ref 3, .ref 5, .ref 39, .ref 68, .ref 69, .null, .null, .null, .null, .null, .null, .int 0], z0, zn)) dX_init_111 fuX_53 ⟨_, _, _, _, rfl, rfl, rfl, rfl⟩ hc_0 (Nat.le_of_ble_eq_true rfl) rfl (Nat.le_of_ble_eq_true rfl) rfl rfl ?_
  refine c_aload (i := 0) dX_init_114 rfl ?_
  refine c_new (ci := 4) (ty := ty_4) df_4 dX_init_115 clX_56 in_4 iz_4 rfl ty_ok_4 df_ok_4 rfl (Nat.le_of_ble_eq_true rfl) (Nat.le_of_ble_eq_true rfl) ?_
  refine c_dup dX_init_118 rfl ?_
  refine c_call (M' := tP_init) dX_init_119 mlX_58 okiP_init rfl rfl (Nat.le_of_ble_eq_true rfl) (Nat.le_of_ble_eq_true rfl) (Nat.le_of_ble_eq_true rfl) (kx_43 G d _) ?_
  refine c_put (w := .ref 70) (cc := (0, 14, [.ref 1, .ref 37, .ref 3, .ref 5, .ref 39, .ref 68, .ref 69, .ref 70, .null, .null, .null, .null, .null, .int 0], z0, zn)) dX_init_122 fuX_59 ⟨_, _, _, _, rfl, rfl, rfl, rfl⟩ hc_0 (Nat.le_of_ble_eq_true rfl) rfl (Nat.le_of_ble_eq_true rfl) rfl rfl ?_
  refine c_new (ci := 10) (ty := ty_10) df_10 dX_init_125 clX_63 in_10 iz_10 rfl ty_ok_10 df_ok_10 rfl (Nat.le_of_ble_eq_true rfl) (Nat.le_of_ble_eq_true rfl) ?_
  refine c_dup dX_init_128 rfl ?_
  refine c_callN (M' := tA_init) dX_init_129 mlX_65 okiA_init rfl rfl (Nat.le_of_ble_eq_true rfl) (Nat.le_of_ble_eq_true rfl) (Nat.le_of_ble_eq_true rfl) (kx_44 G (d + 1) _) ?_
  refine c_astore (i := 5) dX_init_132 (by decide) rfl ?_
  refine c_aload (i := 0) dX_init_134 rfl ?_
  refine c_aload (i := 5) dX_init_135 rfl ?_
  refine c_put (w := .ref 85) (cc := (0, 14, [.ref 1, .ref 37, .ref 3, .ref 5, .ref 39, .ref 68, .ref 69, .ref 70, .ref 85, .null, .null, .null, .null, .int 0], z0, zn)) dX_init_137 fuX_66 ⟨_, _, _, _, rfl, rfl, rfl, rfl⟩ hc_0 (Nat.le_of_ble_eq_true rfl) rfl (Nat.le_of_ble_eq_true rfl) rfl rfl ?_
  refine c_aload (i := 0) dX_init_140 rfl ?_
  refine c_new (ci := 5) (ty := ty_5) df_5 dX_init_141 clX_70 in_5 iz_5 rfl ty_ok_5 df_ok_5 rfl (Nat.le_of_ble_eq_true rfl) (Nat.le_of_ble_eq_true rfl) ?_
  refine c_dup dX_init_144 rfl ?_
  refine c_aload (i := 5) dX_init_145 rfl ?_
  refine c_call (M' := tD_init) dX_init_147 mlX_72 okiD_init rfl rfl (Nat.le_of_ble_eq_true rfl) (Nat.le_of_ble_eq_true rfl) (Nat.le_of_ble_eq_true rfl) (kx_47 G d _) ?_
  refine c_put (w := .ref 90) (cc := (0, 14, [.ref 1, .ref 37, .ref 3, .ref 5, .ref 39, .ref 68, .ref 69, .ref 70, .ref 85, .ref 90, .null, .null, .null, .int 0], z0, zn)) dX_init_150 fuX_75 ⟨_, _, _, _, rfl, rfl, rfl, rfl⟩ hc_0 (Nat.le_of_ble_eq_true rfl) rfl (Nat.le_of_ble_eq_true rfl) rfl rfl ?_
  refine c_aload (i := 0) dX_init_153 rfl ?_
  refine c_new (ci := 9) (ty := ty_9) df_9 dX_init_154 clX_79 in_9 iz_9 rfl ty_ok_9 df_ok_9 rfl (Nat.le_of_ble_eq_true rfl) (Nat.le_of_ble_eq_true rfl) ?_
  refine c_dup dX_init_157 rfl ?_
  refine c_callN (M' := tT_init) dX_init_158 mlX_81 okiT_init rfl rfl (Nat.le_of_ble_eq_true rfl) (Nat.le_of_ble_eq_true rfl) (Nat.le_of_ble_eq_true rfl) (kx_48 G (d + 1) _) ?_
  refine c_put (w := .ref 95) (cc := (0, 14, [.ref 1, .ref 37, .ref 3, .ref 5, .ref 39, .ref 68, .ref 69, .ref 70, .ref 85, .ref 90, .ref 95, .null, .null, .int 0], z0, zn)) dX_init_161 fuX_82 ⟨_, _, _, _, rfl, rfl, rfl, rfl⟩ hc_0 (Nat.le_of_ble_eq_true rfl) rfl (Nat.le_of_ble_eq_true rfl) rfl rfl ?_
  refine c_aload (i := 0) dX_init_164 rfl ?_
  refine c_new (ci := 2) (ty := ty_2) df_2 dX_init_165 clX_86 in_2 iz_2 rfl ty_ok_2 df_ok_2 rfl (Nat.le_of_ble_eq_true rfl) (Nat.le_of_ble_eq_true rfl) ?_
  refine c_dup dX_init_168 rfl ?_
  refine c_callN (M' := tK_init) dX_init_169 mlX_88 okiK_init rfl rfl (Nat.le_of_ble_eq_true rfl) (Nat.le_of_ble_eq_true rfl) (Nat.le_of_ble_eq_true rfl) (kx_49 G (d + 1) _) ?_
  refine c_put (w := .ref 98) (cc := (0, 14, [.ref 1, .ref 37, .ref 3, .ref 5, .ref 39, .ref 68, .ref 69, .ref 70, .ref 85, .ref 90, .ref 95, .ref 98, .null, .int 0], z0, zn)) dX_init_172 fuX_89 ⟨_, _, _, _, rfl, rfl, rfl, rfl⟩ hc_0 (Nat.le_of_ble_eq_true rfl) rfl (Nat.le_of_ble_eq_true rfl) rfl rfl ?_
  refine c_aload (i := 0) dX_init_175 rfl ?_
  refine c_new (ci := 8) (ty := ty_8) df_8 dX_init_176 clX_93 in_8 iz_8 rfl ty_ok_8 df_ok_8 rfl (Nat.le_of_ble_eq_true rfl) (Nat.le_of_ble_eq_true rfl) ?_
  refine c_dup dX_init_179 rfl ?_
  refine c_callN (M' := tL_init) dX_init_180 mlX_95 okiL_init rfl rfl (Nat.le_of_ble_eq_true rfl) (Nat.le_of_ble_eq_true rfl) (Nat.le_of_ble_eq_true rfl) (kx_50 G (d + 1) _) ?_
  refine c_put (w := .ref 102) (cc := (0, 14, [.ref 1, .ref 37, .ref 3, .ref 5, .ref 39, .ref 68, .ref 69, .ref 70, .ref 85, .ref 90, .ref 95, .ref 98, .ref 102, .int 0], z0, zn)) dX_init_183 fuX_96 ⟨_, _, _, _, rfl, rfl, rfl, rfl⟩ hc_0 (Nat.le_of_ble_eq_true rfl) rfl (Nat.le_of_ble_eq_true rfl) rfl rfl ?_
  refine c_aload (i := 0) dX_init_186 rfl ?_
  refine c_iconst (x := 0) dX_init_187 rfl ?_
  refine c_put (w := .int 0) (cc := (0, 14, [.ref 1, .ref 37, .ref 3, .ref 5, .ref 39, .ref 68, .ref 69, .ref 70, .ref 85, .ref 90, .ref 95, .ref 98, .ref 102, .int 0], z0, zn)) dX_init_188 fuX_100 ⟨_, _, _, _, rfl, rfl, rfl, rfl⟩ hc_0 (Nat.le_of_ble_eq_true rfl) rfl (Nat.le_of_ble_eq_true rfl) rfl rfl ?_
  exact c_ret dX_init_191 rfl rfl
def wz_7 : Nat → Int32 := upd z0 0 32
def wz_8 : Nat → Int32 := upd wz_7 1 114
def wz_9 : Nat → Int32 := upd wz_8 2 101
def wz_10 : Nat → Int32 := upd wz_9 3 110
def wz_11 : Nat → Int32 := upd wz_10 4 116
def wz_12 : Nat → Int32 := upd wz_11 5 32
def wz_13 : Nat → Int32 := upd wz_12 6 103
def wz_14 : Nat → Int32 := upd wz_13 7 110
def wz_15 : Nat → Int32 := upd wz_14 8 97
def wz_16 : Nat → Int32 := upd wz_15 9 119
def wz_17 : Nat → Int32 := upd wz_16 10 115
def wz_18 : Nat → Int32 := upd wz_17 11 32
def wz_19 : Nat → Int32 := upd wz_18 12 109
def wz_20 : Nat → Int32 := upd wz_19 13 101
def wz_21 : Nat → Int32 := upd wz_20 14 108
def wz_22 : Nat → Int32 := upd wz_21 15 116
def wz_23 : Nat → Int32 := upd wz_22 16 115
def wz_24 : Nat → Int32 := upd wz_23 17 32
def wz_25 : Nat → Int32 := upd wz_24 18 119
def wz_26 : Nat → Int32 := upd wz_25 19 104
def wz_27 : Nat → Int32 := upd wz_26 20 101
def wz_28 : Nat → Int32 := upd wz_27 21 110
def wz_29 : Nat → Int32 := upd wz_28 22 32
def wz_30 : Nat → Int32 := upd wz_29 23 111
def wz_31 : Nat → Int32 := upd wz_30 24 114
def wz_32 : Nat → Int32 := upd wz_31 25 32
def wz_33 : Nat → Int32 := upd wz_32 26 97
def wz_34 : Nat → Int32 := upd wz_33 27 110
def wz_35 : Nat → Int32 := upd wz_34 28 100
def wz_36 : Nat → Int32 := upd wz_35 29 32
def wz_37 : Nat → Int32 := upd wz_36 30 110
def wz_38 : Nat → Int32 := upd wz_37 31 111
def wz_39 : Nat → Int32 := upd wz_38 32 116
def wz_40 : Nat → Int32 := upd wz_39 33 32
def wz_41 : Nat → Int32 := upd wz_40 34 119
def wz_42 : Nat → Int32 := upd wz_41 35 97
def wz_43 : Nat → Int32 := upd wz_42 36 108
def wz_44 : Nat → Int32 := upd wz_43 37 108
def wz_45 : Nat → Int32 := upd wz_44 38 32
def wz_46 : Nat → Int32 := upd wz_45 39 115
def wz_47 : Nat → Int32 := upd wz_46 40 117
def wz_48 : Nat → Int32 := upd wz_47 41 109
def wz_49 : Nat → Int32 := upd wz_48 42 32
def wz_50 : Nat → Int32 := upd wz_49 43 97
def wz_51 : Nat → Int32 := upd wz_50 44 108
def wz_52 : Nat → Int32 := upd wz_51 45 109
def wz_53 : Nat → Int32 := upd wz_52 46 111
def wz_54 : Nat → Int32 := upd wz_53 47 110
def wz_55 : Nat → Int32 := upd wz_54 48 100
def wz_56 : Nat → Int32 := upd wz_55 49 115
def wz_57 : Nat → Int32 := upd wz_56 50 32
def wz_58 : Nat → Int32 := upd wz_57 51 116
def wz_59 : Nat → Int32 := upd wz_58 52 101
def wz_60 : Nat → Int32 := upd wz_59 53 101
def wz_61 : Nat → Int32 := upd wz_60 54 116
def wz_62 : Nat → Int32 := upd wz_61 55 104
def wz_63 : Nat → Int32 := upd wz_62 56 32
def wz_64 : Nat → Int32 := upd wz_63 57 104
def wz_65 : Nat → Int32 := upd wz_64 58 97
def wz_66 : Nat → Int32 := upd wz_65 59 114
def wz_67 : Nat → Int32 := upd wz_66 60 100
def wz_68 : Nat → Int32 := upd wz_67 61 32
def wz_69 : Nat → Int32 := upd wz_68 62 105
def wz_70 : Nat → Int32 := upd wz_69 63 99
def wz_71 : Nat → Int32 := upd wz_70 64 105
def wz_72 : Nat → Int32 := upd wz_71 65 110
def wz_73 : Nat → Int32 := upd wz_72 66 103
def wz_74 : Nat → Int32 := upd wz_73 67 32
def wz_75 : Nat → Int32 := upd wz_74 68 108
def wz_76 : Nat → Int32 := upd wz_75 69 111
def wz_77 : Nat → Int32 := upd wz_76 70 100
def wz_78 : Nat → Int32 := upd wz_77 71 103
def wz_79 : Nat → Int32 := upd wz_78 72 101
def wz_80 : Nat → Int32 := upd wz_79 73 114
def wz_81 : Nat → Int32 := upd wz_80 74 115
def wz_82 : Nat → Int32 := upd wz_81 75 32
def wz_83 : Nat → Int32 := upd wz_82 76 100
def wz_84 : Nat → Int32 := upd wz_83 77 111
def wz_85 : Nat → Int32 := upd wz_84 78 111
def wz_86 : Nat → Int32 := upd wz_85 79 114
def wz_87 : Nat → Int32 := upd wz_86 80 32
def wz_88 : Nat → Int32 := upd wz_87 81 97
def wz_89 : Nat → Int32 := upd wz_88 82 103
def wz_90 : Nat → Int32 := upd wz_89 83 101
def wz_91 : Nat → Int32 := upd wz_90 84 32
def wz_92 : Nat → Int32 := upd wz_91 85 114
def wz_93 : Nat → Int32 := upd wz_92 86 97
def wz_94 : Nat → Int32 := upd wz_93 87 105
def wz_95 : Nat → Int32 := upd wz_94 88 110
def wz_96 : Nat → Int32 := upd wz_95 89 32
def wz_97 : Nat → Int32 := upd wz_96 90 102
def wz_98 : Nat → Int32 := upd wz_97 91 114
def wz_99 : Nat → Int32 := upd wz_98 92 111
def wz_100 : Nat → Int32 := upd wz_99 93 115
def wz_101 : Nat → Int32 := upd wz_100 94 116
def wz_102 : Nat → Int32 := upd wz_101 95 32
def wz_103 : Nat → Int32 := upd wz_102 96 113
def wz_104 : Nat → Int32 := upd wz_103 97 117
def wz_105 : Nat → Int32 := upd wz_104 98 97
def wz_106 : Nat → Int32 := upd wz_105 99 114
def wz_107 : Nat → Int32 := upd wz_106 100 116
def wz_108 : Nat → Int32 := upd wz_107 101 101
def wz_109 : Nat → Int32 := upd wz_108 102 114
def wz_110 : Nat → Int32 := upd wz_109 103 32
def wz_111 : Nat → Int32 := upd wz_110 104 105
def wz_112 : Nat → Int32 := upd wz_111 105 110
def wz_113 : Nat → Int32 := upd wz_112 106 32
def wz_114 : Nat → Int32 := upd wz_113 107 116
def wz_115 : Nat → Int32 := upd wz_114 108 104
def wz_116 : Nat → Int32 := upd wz_115 109 97
def wz_117 : Nat → Int32 := upd wz_116 110 119
def wz_118 : Nat → Int32 := upd wz_117 111 32
def wz_119 : Nat → Int32 := upd wz_118 112 105
def wz_120 : Nat → Int32 := upd wz_119 113 99
def wz_121 : Nat → Int32 := upd wz_120 114 101
def wz_122 : Nat → Int32 := upd wz_121 115 32
def wz_123 : Nat → Int32 := upd wz_122 116 98
def wz_124 : Nat → Int32 := upd wz_123 117 97
def wz_125 : Nat → Int32 := upd wz_124 118 107
def wz_126 : Nat → Int32 := upd wz_125 119 101
def wz_127 : Nat → Int32 := upd wz_126 120 32
def wz_128 : Nat → Int32 := upd wz_127 121 119
def wz_129 : Nat → Int32 := upd wz_128 122 101
def wz_130 : Nat → Int32 := upd wz_129 123 100
def wz_131 : Nat → Int32 := upd wz_130 124 32
def wz_132 : Nat → Int32 := upd wz_131 125 114
def wz_133 : Nat → Int32 := upd wz_132 126 97
def wz_134 : Nat → Int32 := upd wz_133 127 122
def wz_135 : Nat → Int32 := upd wz_134 128 101
def wz_136 : Nat → Int32 := upd wz_135 129 32
def wz_137 : Nat → Int32 := upd wz_136 130 104
def wz_138 : Nat → Int32 := upd wz_137 131 111
def wz_139 : Nat → Int32 := upd wz_138 132 117
def wz_140 : Nat → Int32 := upd wz_139 133 115
def wz_141 : Nat → Int32 := upd wz_140 134 101
def wz_142 : Nat → Int32 := upd wz_141 135 32
def wz_143 : Nat → Int32 := upd wz_142 136 110
def wz_144 : Nat → Int32 := upd wz_143 137 101
def wz_145 : Nat → Int32 := upd wz_144 138 120
def wz_146 : Nat → Int32 := upd wz_145 139 116
def wz_147 : Nat → Int32 := upd wz_146 140 32
noncomputable def pf_52 (F : CF) : CF := wr F [(104, (12, 75, df_12, z0, zn)), (105, (20, 115, [], z0, zn)), (104, (12, 75, [.int 0, .ref 105, .null, .int 0, .null, .int 0, .int 0, .null, .null, .null, .null, .int 0, .int 0, .int 0, .int 0, .int 0, .null, .null, .null, .null, .null, .null, .null, .null, .int 0, .int 0, .int 0, .null, .int 0, .int 0, .int 0, .int 0, .int 0, .int 0, .null, .int 0, .null, .int 0, .null, .null, .null, .null, .int 0, .null, .null, .int 0, .null, .null, .null, .int 0, .null, .int 0, .null, .null, .int 0, .null, .null, .int 0, .null, .null, .null, .null, .int 0, .null, .null, .null, .int 0, .null, .null, .null, .null, .int 0, .int 0, .int 0, .null], z0, zn)), (106, (20, 690, [], z0, zn)), (104, (12, 75, [.int 0, .ref 105, .ref 106, .int 0, .null, .int 0, .int 0, .null, .null, .null, .null, .int 0, .int 0, .int 0, .int 0, .int 0, .null, .null, .null, .null, .null, .null, .null, .null, .int 0, .int 0, .int 0, .null, .int 0, .int 0, .int 0, .int 0, .int 0, .int 0, .null, .int 0, .null, .int 0, .null, .null, .null, .null, .int 0, .null, .null, .int 0, .null, .null, .null, .int 0, .null, .int 0, .null, .null, .int 0, .null, .null, .int 0, .null, .null, .null, .null, .int 0, .null, .null, .null, .int 0, .null, .null, .null, .null, .int 0, .int 0, .int 0, .null], z0, zn)), (107, (20, 115, [], z0, zn)), (104, (12, 75, [.int 0, .ref 105, .ref 106, .int 0, .ref 107, .int 0, .int 0, .null, .null, .null, .null, .int 0, .int 0, .int 0, .int 0, .int 0, .null, .null, .null, .null, .null, .null, .null, .null, .int 0, .int 0, .int 0, .null, .int 0, .int 0, .int 0, .int 0, .int 0, .int 0, .null, .int 0, .null, .int 0, .null, .null, .null, .null, .int 0, .null, .null, .int 0, .null, .null, .null, .int 0, .null, .int 0, .null, .null, .int 0, .null, .null, .int 0, .null, .null, .null, .null, .int 0, .null, .null, .null, .int 0, .null, .null, .null, .null, .int 0, .int 0, .int 0, .null], z0, zn)), (108, (20, 12, [], z0, zn)), (104, (12, 75, [.int 0, .ref 105, .ref 106, .int 0, .ref 107, .int 0, .int 0, .ref 108, .null, .null, .null, .int 0, .int 0, .int 0, .int 0, .int 0, .null, .null, .null, .null, .null, .null, .null, .null, .int 0, .int 0, .int 0, .null, .int 0, .int 0, .int 0, .int 0, .int 0, .int 0, .null, .int 0, .null, .int 0, .null, .null, .null, .null, .int 0, .null, .null, .int 0, .null, .null, .null, .int 0, .null, .int 0, .null, .null, .int 0, .null, .null, .int 0, .null, .null, .null, .null, .int 0, .null, .null, .null, .int 0, .null, .null, .null, .null, .int 0, .int 0, .int 0, .null], z0, zn)), (109, (20, 12, [], z0, zn)), (104, (12, 75, [.int 0, .ref 105, .ref 106, .int 0, .ref 107, .int 0, .int 0, .ref 108, .ref 109, .null, .null, .int 0, .int 0, .int 0, .int 0, .int 0, .null, .null, .null, .null, .null, .null, .null, .null, .int 0, .int 0, .int 0, .null, .int 0, .int 0, .int 0, .int 0, .int 0, .int 0, .null, .int 0, .null, .int 0, .null, .null, .null, .null, .int 0, .null, .null, .int 0, .null, .null, .null, .int 0, .null, .int 0, .null, .null, .int 0, .null, .null, .int 0, .null, .null, .null, .null, .int 0, .null, .null, .null, .int 0, .null, .null, .null, .null, .int 0, .int 0, .int 0, .null], z0, zn)), (110, (20, 600, [], z0, zn)), (104, (12, 75, [.int 0, .ref 105, .ref 106, .int 0, .ref 107, .int 0, .int 0, .ref 108, .ref 109, .ref 110, .null, .int 0, .int 0, .int 0, .int 0, .int 0, .null, .null, .null, .null, .null, .null, .null, .null, .int 0, .int 0, .int 0, .null, .int 0, .int 0, .int 0, .int 0, .int 0, .int 0, .null, .int 0, .null, .int 0, .null, .null, .null, .null, .int 0, .null, .null, .int 0, .null, .null, .null, .int 0, .null, .int 0, .null, .null, .int 0, .null, .null, .int 0, .null, .null, .null, .null, .int 0, .null, .null, .null, .int 0, .null, .null, .null, .null, .int 0, .int 0, .int 0, .null], z0, zn)), (111, (20, 400, [], z0, zn)), (104, (12, 75, [.int 0, .ref 105, .ref 106, .int 0, .ref 107, .int 0, .int 0, .ref 108, .ref 109, .ref 110, .ref 111, .int 0, .int 0, .int 0, .int 0, .int 0, .null, .null, .null, .null, .null, .null, .null, .null, .int 0, .int 0, .int 0, .null, .int 0, .int 0, .int 0, .int 0, .int 0, .int 0, .null, .int 0, .null, .int 0, .null, .null, .null, .null, .int 0, .null, .null, .int 0, .null, .null, .null, .int 0, .null, .int 0, .null, .null, .int 0, .null, .null, .int 0, .null, .null, .null, .null, .int 0, .null, .null, .null, .int 0, .null, .null, .null, .null, .int 0, .int 0, .int 0, .null], z0, zn)), (112, (20, 141, [], z0, zn)), (112, (20, 141, [], wz_7, zn)), (112, (20, 141, [], wz_8, zn)), (112, (20, 141, [], wz_9, zn)), (112, (20, 141, [], wz_10, zn)), (112, (20, 141, [], wz_11, zn)), (112, (20, 141, [], wz_12, zn)), (112, (20, 141, [], wz_13, zn)), (112, (20, 141, [], wz_14, zn)), (112, (20, 141, [], wz_15, zn)), (112, (20, 141, [], wz_16, zn)), (112, (20, 141, [], wz_17, zn)), (112, (20, 141, [], wz_18, zn)), (112, (20, 141, [], wz_19, zn)), (112, (20, 141, [], wz_20, zn)), (112, (20, 141, [], wz_21, zn)), (112, (20, 141, [], wz_22, zn)), (112, (20, 141, [], wz_23, zn)), (112, (20, 141, [], wz_24, zn)), (112, (20, 141, [], wz_25, zn)), (112, (20, 141, [], wz_26, zn)), (112, (20, 141, [], wz_27, zn)), (112, (20, 141, [], wz_28, zn)), (112, (20, 141, [], wz_29, zn)), (112, (20, 141, [], wz_30, zn)), (112, (20, 141, [], wz_31, zn)), (112, (20, 141, [], wz_32, zn)), (112, (20, 141, [], wz_33, zn)), (112, (20, 141, [], wz_34, zn)), (112, (20, 141, [], wz_35, zn)), (112, (20, 141, [], wz_36, zn)), (112, (20, 141, [], wz_37, zn)), (112, (20, 141, [], wz_38, zn)), (112, (20, 141, [], wz_39, zn)), (112, (20, 141, [], wz_40, zn)), (112, (20, 141, [], wz_41, zn)), (112, (20, 141, [], wz_42, zn)), (112, (20, 141, [], wz_43, zn)), (112, (20, 141, [], wz_44, zn)), (112, (20, 141, [], wz_45, zn)), (112, (20, 141, [], wz_46, zn)), (112, (20, 141, [], wz_47, zn)), (112, (20, 141, [], wz_48, zn)), (112, (20, 141, [], wz_49, zn)), (112, (20, 141, [], wz_50, zn)), (112, (20, 141, [], wz_51, zn)), (112, (20, 141, [], wz_52, zn)), (112, (20, 141, [], wz_53, zn)), (112, (20, 141, [], wz_54, zn)), (112, (20, 141, [], wz_55, zn)), (112, (20, 141, [], wz_56, zn)), (112, (20, 141, [], wz_57, zn)), (112, (20, 141, [], wz_58, zn)), (112, (20, 141, [], wz_59, zn)), (112, (20, 141, [], wz_60, zn)), (112, (20, 141, [], wz_61, zn)), (112, (20, 141, [], wz_62, zn)), (112, (20, 141, [], wz_63, zn)), (112, (20, 141, [], wz_64, zn)), (112, (20, 141, [], wz_65, zn)), (112, (20, 141, [], wz_66, zn)), (112, (20, 141, [], wz_67, zn)), (112, (20, 141, [], wz_68, zn)), (112, (20, 141, [], wz_69, zn)), (112, (20, 141, [], wz_70, zn)), (112, (20, 141, [], wz_71, zn)), (112, (20, 141, [], wz_72, zn)), (112, (20, 141, [], wz_73, zn)), (112, (20, 141, [], wz_74, zn)), (112, (20, 141, [], wz_75, zn)), (112, (20, 141, [], wz_76, zn)), (112, (20, 141, [], wz_77, zn)), (112, (20, 141, [], wz_78, zn)), (112, (20, 141, [], wz_79, zn)), (112, (20, 141, [], wz_80, zn)), (112, (20, 141, [], wz_81, zn)), (112, (20, 141, [], wz_82, zn)), (112, (20, 141, [], wz_83, zn)), (112, (20, 141, [], wz_84, zn)), (112, (20, 141, [], wz_85, zn)), (112, (20, 141, [], wz_86, zn)), (112, (20, 141, [], wz_87, zn)), (112, (20, 141, [], wz_88, zn)), (112, (20, 141, [], wz_89, zn)), (112, (20, 141, [], wz_90, zn)), (112, (20, 141, [], wz_91, zn)), (112, (20, 141, [], wz_92, zn)), (112, (20, 141, [], wz_93, zn)), (112, (20, 141, [], wz_94, zn)), (112, (20, 141, [], wz_95, zn)), (112, (20, 141, [], wz_96, zn)), (112, (20, 141, [], wz_97, zn)), (112, (20, 141, [], wz_98, zn)), (112, (20, 141, [], wz_99, zn)), (112, (20, 141, [], wz_100, zn)), (112, (20, 141, [], wz_101, zn)), (112, (20, 141, [], wz_102, zn)), (112, (20, 141, [], wz_103, zn)), (112, (20, 141, [], wz_104, zn)), (112, (20, 141, [], wz_105, zn)), (112, (20, 141, [], wz_106, zn)), (112, (20, 141, [], wz_107, zn)), (112, (20, 141, [], wz_108, zn)), (112, (20, 141, [], wz_109, zn)), (112, (20, 141, [], wz_110, zn)), (112, (20, 141, [], wz_111, zn)), (112, (20, 141, [], wz_112, zn)), (112, (20, 141, [], wz_113, zn)), (112, (20, 141, [], wz_114, zn)), (112, (20, 141, [], wz_115, zn)), (112, (20, 141, [], wz_116, zn)), (112, (20, 141, [], wz_117, zn)), (112, (20, 141, [], wz_118, zn)), (112, (20, 141, [], wz_119, zn)), (112, (20, 141, [], wz_120, zn)), (112, (20, 141, [], wz_121, zn)), (112, (20, 141, [], wz_122, zn)), (112, (20, 141, [], wz_123, zn)), (112, (20, 141, [], wz_124, zn)), (112, (20, 141, [], wz_125, zn)), (112, (20, 141, [], wz_126, zn)), (112, (20, 141, [], wz_127, zn)), (112, (20, 141, [], wz_128, zn)), (112, (20, 141, [], wz_129, zn)), (112, (20, 141, [], wz_130, zn)), (112, (20, 141, [], wz_131, zn)), (112, (20, 141, [], wz_132, zn)), (112, (20, 141, [], wz_133, zn)), (112, (20, 141, [], wz_134, zn)), (112, (20, 141, [], wz_135, zn)), (112, (20, 141, [], wz_136, zn)), (112, (20, 141, [], wz_137, zn)), (112, (20, 141, [], wz_138, zn)), (112, (20, 141, [], wz_139, zn)), (112, (20, 141, [], wz_140, zn)), (112, (20, 141, [], wz_141, zn)), (112, (20, 141, [], wz_142, zn)), (112, (20, 141, [], wz_143, zn)), (112, (20, 141, [], wz_144, zn)), (112, (20, 141, [], wz_145, zn)), (112, (20, 141, [], wz_146, zn)), (112, (20, 141, [], wz_147, zn)), (104, (12, 75, [.int 0, .ref 105, .ref 106, .int 0, .ref 107, .int 0, .int 0, .ref 108, .ref 109, .ref 110, .ref 111, .int 0, .int 0, .int 0, .int 0, .int 0, .ref 112, .null, .null, .null, .null, .null, .null, .null, .int 0, .int 0, .int 0, .null, .int 0, .int 0, .int 0, .int 0, .int 0, .int 0, .null, .int 0, .null, .int 0, .null, .null, .null, .null, .int 0, .null, .null, .int 0, .null, .null, .null, .int 0, .null, .int 0, .null, .null, .int 0, .null, .null, .int 0, .null, .null, .null, .null, .int 0, .null, .null, .null, .int 0, .null, .null, .null, .null, .int 0, .int 0, .int 0, .null], z0, zn)), (113, (20, 2, [], z0, zn)), (104, (12, 75, [.int 0, .ref 105, .ref 106, .int 0, .ref 107, .int 0, .int 0, .ref 108, .ref 109, .ref 110, .ref 111, .int 0, .int 0, .int 0, .int 0, .int 0, .ref 112, .ref 113, .null, .null, .null, .null, .null, .null, .int 0, .int 0, .int 0, .null, .int 0, .int 0, .int 0, .int 0, .int 0, .int 0, .null, .int 0, .null, .int 0, .null, .null, .null, .null, .int 0, .null, .null, .int 0, .null, .null, .null, .int 0, .null, .int 0, .null, .null, .int 0, .null, .null, .int 0, .null, .null, .null, .null, .int 0, .null, .null, .null, .int 0, .null, .null, .null, .null, .int 0, .int 0, .int 0, .null], z0, zn)), (114, (20, 48, [], z0, zn)), (104, (12, 75, [.int 0, .ref 105, .ref 106, .int 0, .ref 107, .int 0, .int 0, .ref 108, .ref 109, .ref 110, .ref 111, .int 0, .int 0, .int 0, .int 0, .int 0, .ref 112, .ref 113, .ref 114, .null, .null, .null, .null, .null, .int 0, .int 0, .int 0, .null, .int 0, .int 0, .int 0, .int 0, .int 0, .int 0, .null, .int 0, .null, .int 0, .null, .null, .null, .null, .int 0, .null, .null, .int 0, .null, .null, .null, .int 0, .null, .int 0, .null, .null, .int 0, .null, .null, .int 0, .null, .null, .null, .null, .int 0, .null, .null, .null, .int 0, .null, .null, .null, .null, .int 0, .int 0, .int 0, .null], z0, zn)), (115, (20, 48, [], z0, zn)), (104, (12, 75, [.int 0, .ref 105, .ref 106, .int 0, .ref 107, .int 0, .int 0, .ref 108, .ref 109, .ref 110, .ref 111, .int 0, .int 0, .int 0, .int 0, .int 0, .ref 112, .ref 113, .ref 114, .ref 115, .null, .null, .null, .null, .int 0, .int 0, .int 0, .null, .int 0, .int 0, .int 0, .int 0, .int 0, .int 0, .null, .int 0, .null, .int 0, .null, .null, .null, .null, .int 0, .null, .null, .int 0, .null, .null, .null, .int 0, .null, .int 0, .null, .null, .int 0, .null, .null, .int 0, .null, .null, .null, .null, .int 0, .null, .null, .null, .int 0, .null, .null, .null, .null, .int 0, .int 0, .int 0, .null], z0, zn)), (116, (20, 48, [], z0, zn)), (104, (12, 75, [.int 0, .ref 105, .ref 106, .int 0, .ref 107, .int 0, .int 0, .ref 108, .ref 109, .ref 110, .ref 111, .int 0, .int 0, .int 0, .int 0, .int 0, .ref 112, .ref 113, .ref 114, .ref 115, .ref 116, .null, .null, .null, .int 0, .int 0, .int 0, .null, .int 0, .int 0, .int 0, .int 0, .int 0, .int 0, .null, .int 0, .null, .int 0, .null, .null, .null, .null, .int 0, .null, .null, .int 0, .null, .null, .null, .int 0, .null, .int 0, .null, .null, .int 0, .null, .null, .int 0, .null, .null, .null, .null, .int 0, .null, .null, .null, .int 0, .null, .null, .null, .null, .int 0, .int 0, .int 0, .null], z0, zn)), (117, (20, 48, [], z0, zn)), (104, (12, 75, [.int 0, .ref 105, .ref 106, .int 0, .ref 107, .int 0, .int 0, .ref 108, .ref 109, .ref 110, .ref 111, .int 0, .int 0, .int 0, .int 0, .int 0, .ref 112, .ref 113, .ref 114, .ref 115, .ref 116, .ref 117, .null, .null, .int 0, .int 0, .int 0, .null, .int 0, .int 0, .int 0, .int 0, .int 0, .int 0, .null, .int 0, .null, .int 0, .null, .null, .null, .null, .int 0, .null, .null, .int 0, .null, .null, .null, .int 0, .null, .int 0, .null, .null, .int 0, .null, .null, .int 0, .null, .null, .null, .null, .int 0, .null, .null, .null, .int 0, .null, .null, .null, .null, .int 0, .int 0, .int 0, .null], z0, zn)), (118, (20, 1200, [], z0, zn)), (104, (12, 75, [.int 0, .ref 105, .ref 106, .int 0, .ref 107, .int 0, .int 0, .ref 108, .ref 109, .ref 110, .ref 111, .int 0, .int 0, .int 0, .int 0, .int 0, .ref 112, .ref 113, .ref 114, .ref 115, .ref 116, .ref 117, .ref 118, .null, .int 0, .int 0, .int 0, .null, .int 0, .int 0, .int 0, .int 0, .int 0, .int 0, .null, .int 0, .null, .int 0, .null, .null, .null, .null, .int 0, .null, .null, .int 0, .null, .null, .null, .int 0, .null, .int 0, .null, .null, .int 0, .null, .null, .int 0, .null, .null, .null, .null, .int 0, .null, .null, .null, .int 0, .null, .null, .null, .null, .int 0, .int 0, .int 0, .null], z0, zn)), (119, (20, 1200, [], z0, zn)), (104, (12, 75, [.int 0, .ref 105, .ref 106, .int 0, .ref 107, .int 0, .int 0, .ref 108, .ref 109, .ref 110, .ref 111, .int 0, .int 0, .int 0, .int 0, .int 0, .ref 112, .ref 113, .ref 114, .ref 115, .ref 116, .ref 117, .ref 118, .ref 119, .int 0, .int 0, .int 0, .null, .int 0, .int 0, .int 0, .int 0, .int 0, .int 0, .null, .int 0, .null, .int 0, .null, .null, .null, .null, .int 0, .null, .null, .int 0, .null, .null, .null, .int 0, .null, .int 0, .null, .null, .int 0, .null, .null, .int 0, .null, .null, .null, .null, .int 0, .null, .null, .null, .int 0, .null, .null, .null, .null, .int 0, .int 0, .int 0, .null], z0, zn)), (120, (20, 40, [], z0, zn)), (104, (12, 75, [.int 0, .ref 105, .ref 106, .int 0, .ref 107, .int 0, .int 0, .ref 108, .ref 109, .ref 110, .ref 111, .int 0, .int 0, .int 0, .int 0, .int 0, .ref 112, .ref 113, .ref 114, .ref 115, .ref 116, .ref 117, .ref 118, .ref 119, .int 0, .int 0, .int 0, .ref 120, .int 0, .int 0, .int 0, .int 0, .int 0, .int 0, .null, .int 0, .null, .int 0, .null, .null, .null, .null, .int 0, .null, .null, .int 0, .null, .null, .null, .int 0, .null, .int 0, .null, .null, .int 0, .null, .null, .int 0, .null, .null, .null, .null, .int 0, .null, .null, .null, .int 0, .null, .null, .null, .null, .int 0, .int 0, .int 0, .null], z0, zn)), (104, (12, 75, [.int 0, .ref 105, .ref 106, .int 0, .ref 107, .int 0, .int 0, .ref 108, .ref 109, .ref 110, .ref 111, .int 0, .int 0, .int 0, .int 0, .int 0, .ref 112, .ref 113, .ref 114, .ref 115, .ref 116, .ref 117, .ref 118, .ref 119, .int 0, .int 0, .int 0, .ref 120, .int 0, .int 0, .int 0, .int 0, .int (-1), .int 0, .null, .int 0, .null, .int 0, .null, .null, .null, .null, .int 0, .null, .null, .int 0, .null, .null, .null, .int 0, .null, .int 0, .null, .null, .int 0, .null, .null, .int 0, .null, .null, .null, .null, .int 0, .null, .null, .null, .int 0, .null, .null, .null, .null, .int 0, .int 0, .int 0, .null], z0, zn)), (121, (20, 96, [], z0, zn)), (104, (12, 75, [.int 0, .ref 105, .ref 106, .int 0, .ref 107, .int 0, .int 0, .ref 108, .ref 109, .ref 110, .ref 111, .int 0, .int 0, .int 0, .int 0, .int 0, .ref 112, .ref 113, .ref 114, .ref 115, .ref 116, .ref 117, .ref 118, .ref 119, .int 0, .int 0, .int 0, .ref 120, .int 0, .int 0, .int 0, .int 0, .int (-1), .int 0, .ref 121, .int 0, .null, .int 0, .null, .null, .null, .null, .int 0, .null, .null, .int 0, .null, .null, .null, .int 0, .null, .int 0, .null, .null, .int 0, .null, .null, .int 0, .null, .null, .null, .null, .int 0, .null, .null, .null, .int 0, .null, .null, .null, .null, .int 0, .int 0, .int 0, .null], z0, zn)), (122, (20, 160, [], z0, zn)), (104, (12, 75, [.int 0, .ref 105, .ref 106, .int 0, .ref 107, .int 0, .int 0, .ref 108, .ref 109, .ref 110, .ref 111, .int 0, .int 0, .int 0, .int 0, .int 0, .ref 112, .ref 113, .ref 114, .ref 115, .ref 116, .ref 117, .ref 118, .ref 119, .int 0, .int 0, .int 0, .ref 120, .int 0, .int 0, .int 0, .int 0, .int (-1), .int 0, .ref 121, .int 0, .ref 122, .int 0, .null, .null, .null, .null, .int 0, .null, .null, .int 0, .null, .null, .null, .int 0, .null, .int 0, .null, .null, .int 0, .null, .null, .int 0, .null, .null, .null, .null, .int 0, .null, .null, .null, .int 0, .null, .null, .null, .null, .int 0, .int 0, .int 0, .null], z0, zn)), (123, (20, 24, [], z0, zn)), (104, (12, 75, [.int 0, .ref 105, .ref 106, .int 0, .ref 107, .int 0, .int 0, .ref 108, .ref 109, .ref 110, .ref 111, .int 0, .int 0, .int 0, .int 0, .int 0, .ref 112, .ref 113, .ref 114, .ref 115, .ref 116, .ref 117, .ref 118, .ref 119, .int 0, .int 0, .int 0, .ref 120, .int 0, .int 0, .int 0, .int 0, .int (-1), .int 0, .ref 121, .int 0, .ref 122, .int 0, .ref 123, .null, .null, .null, .int 0, .null, .null, .int 0, .null, .null, .null, .int 0, .null, .int 0, .null, .null, .int 0, .null, .null, .int 0, .null, .null, .null, .null, .int 0, .null, .null, .null, .int 0, .null, .null, .null, .null, .int 0, .int 0, .int 0, .null], z0, zn)), (124, (20, 12, [], z0, zn)), (104, (12, 75, [.int 0, .ref 105, .ref 106, .int 0, .ref 107, .int 0, .int 0, .ref 108, .ref 109, .ref 110, .ref 111, .int 0, .int 0, .int 0, .int 0, .int 0, .ref 112, .ref 113, .ref 114, .ref 115, .ref 116, .ref 117, .ref 118, .ref 119, .int 0, .int 0, .int 0, .ref 120, .int 0, .int 0, .int 0, .int 0, .int (-1), .int 0, .ref 121, .int 0, .ref 122, .int 0, .ref 123, .ref 124, .null, .null, .int 0, .null, .null, .int 0, .null, .null, .null, .int 0, .null, .int 0, .null, .null, .int 0, .null, .null, .int 0, .null, .null, .null, .null, .int 0, .null, .null, .null, .int 0, .null, .null, .null, .null, .int 0, .int 0, .int 0, .null], z0, zn)), (125, (20, 420, [], z0, zn)), (104, (12, 75, [.int 0, .ref 105, .ref 106, .int 0, .ref 107, .int 0, .int 0, .ref 108, .ref 109, .ref 110, .ref 111, .int 0, .int 0, .int 0, .int 0, .int 0, .ref 112, .ref 113, .ref 114, .ref 115, .ref 116, .ref 117, .ref 118, .ref 119, .int 0, .int 0, .int 0, .ref 120, .int 0, .int 0, .int 0, .int 0, .int (-1), .int 0, .ref 121, .int 0, .ref 122, .int 0, .ref 123, .ref 124, .ref 125, .null, .int 0, .null, .null, .int 0, .null, .null, .null, .int 0, .null, .int 0, .null, .null, .int 0, .null, .null, .int 0, .null, .null, .null, .null, .int 0, .null, .null, .null, .int 0, .null, .null, .null, .null, .int 0, .int 0, .int 0, .null], z0, zn)), (126, (20, 12, [], z0, zn)), (104, (12, 75, [.int 0, .ref 105, .ref 106, .int 0, .ref 107, .int 0, .int 0, .ref 108, .ref 109, .ref 110, .ref 111, .int 0, .int 0, .int 0, .int 0, .int 0, .ref 112, .ref 113, .ref 114, .ref 115, .ref 116, .ref 117, .ref 118, .ref 119, .int 0, .int 0, .int 0, .ref 120, .int 0, .int 0, .int 0, .int 0, .int (-1), .int 0, .ref 121, .int 0, .ref 122, .int 0, .ref 123, .ref 124, .ref 125, .ref 126, .int 0, .null, .null, .int 0, .null, .null, .null, .int 0, .null, .int 0, .null, .null, .int 0, .null, .null, .int 0, .null, .null, .null, .null, .int 0, .null, .null, .null, .int 0, .null, .null, .null, .null, .int 0, .int 0, .int 0, .null], z0, zn)), (127, (20, 9, [], z0, zn)), (104, (12, 75, [.int 0, .ref 105, .ref 106, .int 0, .ref 107, .int 0, .int 0, .ref 108, .ref 109, .ref 110, .ref 111, .int 0, .int 0, .int 0, .int 0, .int 0, .ref 112, .ref 113, .ref 114, .ref 115, .ref 116, .ref 117, .ref 118, .ref 119, .int 0, .int 0, .int 0, .ref 120, .int 0, .int 0, .int 0, .int 0, .int (-1), .int 0, .ref 121, .int 0, .ref 122, .int 0, .ref 123, .ref 124, .ref 125, .ref 126, .int 0, .ref 127, .null, .int 0, .null, .null, .null, .int 0, .null, .int 0, .null, .null, .int 0, .null, .null, .int 0, .null, .null, .null, .null, .int 0, .null, .null, .null, .int 0, .null, .null, .null, .null, .int 0, .int 0, .int 0, .null], z0, zn)), (128, (20, 100, [], z0, zn)), (104, (12, 75, [.int 0, .ref 105, .ref 106, .int 0, .ref 107, .int 0, .int 0, .ref 108, .ref 109, .ref 110, .ref 111, .int 0, .int 0, .int 0, .int 0, .int 0, .ref 112, .ref 113, .ref 114, .ref 115, .ref 116, .ref 117, .ref 118, .ref 119, .int 0, .int 0, .int 0, .ref 120, .int 0, .int 0, .int 0, .int 0, .int (-1), .int 0, .ref 121, .int 0, .ref 122, .int 0, .ref 123, .ref 124, .ref 125, .ref 126, .int 0, .ref 127, .ref 128, .int 0, .null, .null, .null, .int 0, .null, .int 0, .null, .null, .int 0, .null, .null, .int 0, .null, .null, .null, .null, .int 0, .null, .null, .null, .int 0, .null, .null, .null, .null, .int 0, .int 0, .int 0, .null], z0, zn)), (129, (20, 8, [], z0, zn)), (104, (12, 75, [.int 0, .ref 105, .ref 106, .int 0, .ref 107, .int 0, .int 0, .ref 108, .ref 109, .ref 110, .ref 111, .int 0, .int 0, .int 0, .int 0, .int 0, .ref 112, .ref 113, .ref 114, .ref 115, .ref 116, .ref 117, .ref 118, .ref 119, .int 0, .int 0, .int 0, .ref 120, .int 0, .int 0, .int 0, .int 0, .int (-1), .int 0, .ref 121, .int 0, .ref 122, .int 0, .ref 123, .ref 124, .ref 125, .ref 126, .int 0, .ref 127, .ref 128, .int 0, .ref 129, .null, .null, .int 0, .null, .int 0, .null, .null, .int 0, .null, .null, .int 0, .null, .null, .null, .null, .int 0, .null, .null, .null, .int 0, .null, .null, .null, .null, .int 0, .int 0, .int 0, .null], z0, zn)), (130, (20, 256, [], z0, zn)), (104, (12, 75, [.int 0, .ref 105, .ref 106, .int 0, .ref 107, .int 0, .int 0, .ref 108, .ref 109, .ref 110, .ref 111, .int 0, .int 0, .int 0, .int 0, .int 0, .ref 112, .ref 113, .ref 114, .ref 115, .ref 116, .ref 117, .ref 118, .ref 119, .int 0, .int 0, .int 0, .ref 120, .int 0, .int 0, .int 0, .int 0, .int (-1), .int 0, .ref 121, .int 0, .ref 122, .int 0, .ref 123, .ref 124, .ref 125, .ref 126, .int 0, .ref 127, .ref 128, .int 0, .ref 129, .ref 130, .null, .int 0, .null, .int 0, .null, .null, .int 0, .null, .null, .int 0, .null, .null, .null, .null, .int 0, .null, .null, .null, .int 0, .null, .null, .null, .null, .int 0, .int 0, .int 0, .null], z0, zn)), (131, (20, 8, [], z0, zn)), (104, (12, 75, [.int 0, .ref 105, .ref 106, .int 0, .ref 107, .int 0, .int 0, .ref 108, .ref 109, .ref 110, .ref 111, .int 0, .int 0, .int 0, .int 0, .int 0, .ref 112, .ref 113, .ref 114, .ref 115, .ref 116, .ref 117, .ref 118, .ref 119, .int 0, .int 0, .int 0, .ref 120, .int 0, .int 0, .int 0, .int 0, .int (-1), .int 0, .ref 121, .int 0, .ref 122, .int 0, .ref 123, .ref 124, .ref 125, .ref 126, .int 0, .ref 127, .ref 128, .int 0, .ref 129, .ref 130, .ref 131, .int 0, .null, .int 0, .null, .null, .int 0, .null, .null, .int 0, .null, .null, .null, .null, .int 0, .null, .null, .null, .int 0, .null, .null, .null, .null, .int 0, .int 0, .int 0, .null], z0, zn)), (132, (20, 5, [], z0, zn)), (104, (12, 75, [.int 0, .ref 105, .ref 106, .int 0, .ref 107, .int 0, .int 0, .ref 108, .ref 109, .ref 110, .ref 111, .int 0, .int 0, .int 0, .int 0, .int 0, .ref 112, .ref 113, .ref 114, .ref 115, .ref 116, .ref 117, .ref 118, .ref 119, .int 0, .int 0, .int 0, .ref 120, .int 0, .int 0, .int 0, .int 0, .int (-1), .int 0, .ref 121, .int 0, .ref 122, .int 0, .ref 123, .ref 124, .ref 125, .ref 126, .int 0, .ref 127, .ref 128, .int 0, .ref 129, .ref 130, .ref 131, .int 0, .ref 132, .int 0, .null, .null, .int 0, .null, .null, .int 0, .null, .null, .null, .null, .int 0, .null, .null, .null, .int 0, .null, .null, .null, .null, .int 0, .int 0, .int 0, .null], z0, zn)), (133, (20, 8, [], z0, zn)), (104, (12, 75, [.int 0, .ref 105, .ref 106, .int 0, .ref 107, .int 0, .int 0, .ref 108, .ref 109, .ref 110, .ref 111, .int 0, .int 0, .int 0, .int 0, .int 0, .ref 112, .ref 113, .ref 114, .ref 115, .ref 116, .ref 117, .ref 118, .ref 119, .int 0, .int 0, .int 0, .ref 120, .int 0, .int 0, .int 0, .int 0, .int (-1), .int 0, .ref 121, .int 0, .ref 122, .int 0, .ref 123, .ref 124, .ref 125, .ref 126, .int 0, .ref 127, .ref 128, .int 0, .ref 129, .ref 130, .ref 131, .int 0, .ref 132, .int 0, .ref 133, .null, .int 0, .null, .null, .int 0, .null, .null, .null, .null, .int 0, .null, .null, .null, .int 0, .null, .null, .null, .null, .int 0, .int 0, .int 0, .null], z0, zn)), (134, (20, 8, [], z0, zn)), (104, (12, 75, [.int 0, .ref 105, .ref 106, .int 0, .ref 107, .int 0, .int 0, .ref 108, .ref 109, .ref 110, .ref 111, .int 0, .int 0, .int 0, .int 0, .int 0, .ref 112, .ref 113, .ref 114, .ref 115, .ref 116, .ref 117, .ref 118, .ref 119, .int 0, .int 0, .int 0, .ref 120, .int 0, .int 0, .int 0, .int 0, .int (-1), .int 0, .ref 121, .int 0, .ref 122, .int 0, .ref 123, .ref 124, .ref 125, .ref 126, .int 0, .ref 127, .ref 128, .int 0, .ref 129, .ref 130, .ref 131, .int 0, .ref 132, .int 0, .ref 133, .ref 134, .int 0, .null, .null, .int 0, .null, .null, .null, .null, .int 0, .null, .null, .null, .int 0, .null, .null, .null, .null, .int 0, .int 0, .int 0, .null], z0, zn)), (135, (20, 16, [], z0, zn)), (104, (12, 75, [.int 0, .ref 105, .ref 106, .int 0, .ref 107, .int 0, .int 0, .ref 108, .ref 109, .ref 110, .ref 111, .int 0, .int 0, .int 0, .int 0, .int 0, .ref 112, .ref 113, .ref 114, .ref 115, .ref 116, .ref 117, .ref 118, .ref 119, .int 0, .int 0, .int 0, .ref 120, .int 0, .int 0, .int 0, .int 0, .int (-1), .int 0, .ref 121, .int 0, .ref 122, .int 0, .ref 123, .ref 124, .ref 125, .ref 126, .int 0, .ref 127, .ref 128, .int 0, .ref 129, .ref 130, .ref 131, .int 0, .ref 132, .int 0, .ref 133, .ref 134, .int 0, .ref 135, .null, .int 0, .null, .null, .null, .null, .int 0, .null, .null, .null, .int 0, .null, .null, .null, .null, .int 0, .int 0, .int 0, .null], z0, zn)), (136, (20, 1681, [], z0, zn)), (104, (12, 75, [.int 0, .ref 105, .ref 106, .int 0, .ref 107, .int 0, .int 0, .ref 108, .ref 109, .ref 110, .ref 111, .int 0, .int 0, .int 0, .int 0, .int 0, .ref 112, .ref 113, .ref 114, .ref 115, .ref 116, .ref 117, .ref 118, .ref 119, .int 0, .int 0, .int 0, .ref 120, .int 0, .int 0, .int 0, .int 0, .int (-1), .int 0, .ref 121, .int 0, .ref 122, .int 0, .ref 123, .ref 124, .ref 125, .ref 126, .int 0, .ref 127, .ref 128, .int 0, .ref 129, .ref 130, .ref 131, .int 0, .ref 132, .int 0, .ref 133, .ref 134, .int 0, .ref 135, .ref 136, .int 0, .null, .null, .null, .null, .int 0, .null, .null, .null, .int 0, .null, .null, .null, .null, .int 0, .int 0, .int 0, .null], z0, zn)), (137, (20, 6, [], z0, zn)), (104, (12, 75, [.int 0, .ref 105, .ref 106, .int 0, .ref 107, .int 0, .int 0, .ref 108, .ref 109, .ref 110, .ref 111, .int 0, .int 0, .int 0, .int 0, .int 0, .ref 112, .ref 113, .ref 114, .ref 115, .ref 116, .ref 117, .ref 118, .ref 119, .int 0, .int 0, .int 0, .ref 120, .int 0, .int 0, .int 0, .int 0, .int (-1), .int 0, .ref 121, .int 0, .ref 122, .int 0, .ref 123, .ref 124, .ref 125, .ref 126, .int 0, .ref 127, .ref 128, .int 0, .ref 129, .ref 130, .ref 131, .int 0, .ref 132, .int 0, .ref 133, .ref 134, .int 0, .ref 135, .ref 136, .int 0, .ref 137, .null, .null, .null, .int 0, .null, .null, .null, .int 0, .null, .null, .null, .null, .int 0, .int 0, .int 0, .null], z0, zn)), (138, (20, 6, [], z0, zn)), (104, (12, 75, [.int 0, .ref 105, .ref 106, .int 0, .ref 107, .int 0, .int 0, .ref 108, .ref 109, .ref 110, .ref 111, .int 0, .int 0, .int 0, .int 0, .int 0, .ref 112, .ref 113, .ref 114, .ref 115, .ref 116, .ref 117, .ref 118, .ref 119, .int 0, .int 0, .int 0, .ref 120, .int 0, .int 0, .int 0, .int 0, .int (-1), .int 0, .ref 121, .int 0, .ref 122, .int 0, .ref 123, .ref 124, .ref 125, .ref 126, .int 0, .ref 127, .ref 128, .int 0, .ref 129, .ref 130, .ref 131, .int 0, .ref 132, .int 0, .ref 133, .ref 134, .int 0, .ref 135, .ref 136, .int 0, .ref 137, .ref 138, .null, .null, .int 0, .null, .null, .null, .int 0, .null, .null, .null, .null, .int 0, .int 0, .int 0, .null], z0, zn)), (139, (20, 6, [], z0, zn)), (104, (12, 75, [.int 0, .ref 105, .ref 106, .int 0, .ref 107, .int 0, .int 0, .ref 108, .ref 109, .ref 110, .ref 111, .int 0, .int 0, .int 0, .int 0, .int 0, .ref 112, .ref 113, .ref 114, .ref 115, .ref 116, .ref 117, .ref 118, .ref 119, .int 0, .int 0, .int 0, .ref 120, .int 0, .int 0, .int 0, .int 0, .int (-1), .int 0, .ref 121, .int 0, .ref 122, .int 0, .ref 123, .ref 124, .ref 125, .ref 126, .int 0, .ref 127, .ref 128, .int 0, .ref 129, .ref 130, .ref 131, .int 0, .ref 132, .int 0, .ref 133, .ref 134, .int 0, .ref 135, .ref 136, .int 0, .ref 137, .ref 138, .ref 139, .null, .int 0, .null, .null, .null, .int 0, .null, .null, .null, .null, .int 0, .int 0, .int 0, .null], z0, zn)), (140, (20, 6, [], z0, zn)), (104, (12, 75, [.int 0, .ref 105, .ref 106, .int 0, .ref 107, .int 0, .int 0, .ref 108, .ref 109, .ref 110, .ref 111, .int 0, .int 0, .int 0, .int 0, .int 0, .ref 112, .ref 113, .ref 114, .ref 115, .ref 116, .ref 117, .ref 118, .ref 119, .int 0, .int 0, .int 0, .ref 120, .int 0, .int 0, .int 0, .int 0, .int (-1), .int 0, .ref 121, .int 0, .ref 122, .int 0, .ref 123, .ref 124, .ref 125, .ref 126, .int 0, .ref 127, .ref 128, .int 0, .ref 129, .ref 130, .ref 131, .int 0, .ref 132, .int 0, .ref 133, .ref 134, .int 0, .ref 135, .ref 136, .int 0, .ref 137, .ref 138, .ref 139, .ref 140, .int 0, .null, .null, .null, .int 0, .null, .null, .null, .null, .int 0, .int 0, .int 0, .null], z0, zn)), (141, (20, 12, [], z0, zn)), (104, (12, 75, [.int 0, .ref 105, .ref 106, .int 0, .ref 107, .int 0, .int 0, .ref 108, .ref 109, .ref 110, .ref 111, .int 0, .int 0, .int 0, .int 0, .int 0, .ref 112, .ref 113, .ref 114, .ref 115, .ref 116, .ref 117, .ref 118, .ref 119, .int 0, .int 0, .int 0, .ref 120, .int 0, .int 0, .int 0, .int 0, .int (-1), .int 0, .ref 121, .int 0, .ref 122, .int 0, .ref 123, .ref 124, .ref 125, .ref 126, .int 0, .ref 127, .ref 128, .int 0, .ref 129, .ref 130, .ref 131, .int 0, .ref 132, .int 0, .ref 133, .ref 134, .int 0, .ref 135, .ref 136, .int 0, .ref 137, .ref 138, .ref 139, .ref 140, .int 0, .ref 141, .null, .null, .int 0, .null, .null, .null, .null, .int 0, .int 0, .int 0, .null], z0, zn)), (142, (20, 21, [], z0, zn)), (104, (12, 75, [.int 0, .ref 105, .ref 106, .int 0, .ref 107, .int 0, .int 0, .ref 108, .ref 109, .ref 110, .ref 111, .int 0, .int 0, .int 0, .int 0, .int 0, .ref 112, .ref 113, .ref 114, .ref 115, .ref 116, .ref 117, .ref 118, .ref 119, .int 0, .int 0, .int 0, .ref 120, .int 0, .int 0, .int 0, .int 0, .int (-1), .int 0, .ref 121, .int 0, .ref 122, .int 0, .ref 123, .ref 124, .ref 125, .ref 126, .int 0, .ref 127, .ref 128, .int 0, .ref 129, .ref 130, .ref 131, .int 0, .ref 132, .int 0, .ref 133, .ref 134, .int 0, .ref 135, .ref 136, .int 0, .ref 137, .ref 138, .ref 139, .ref 140, .int 0, .ref 141, .ref 142, .null, .int 0, .null, .null, .null, .null, .int 0, .int 0, .int 0, .null], z0, zn)), (143, (20, 21, [], z0, zn)), (104, (12, 75, [.int 0, .ref 105, .ref 106, .int 0, .ref 107, .int 0, .int 0, .ref 108, .ref 109, .ref 110, .ref 111, .int 0, .int 0, .int 0, .int 0, .int 0, .ref 112, .ref 113, .ref 114, .ref 115, .ref 116, .ref 117, .ref 118, .ref 119, .int 0, .int 0, .int 0, .ref 120, .int 0, .int 0, .int 0, .int 0, .int (-1), .int 0, .ref 121, .int 0, .ref 122, .int 0, .ref 123, .ref 124, .ref 125, .ref 126, .int 0, .ref 127, .ref 128, .int 0, .ref 129, .ref 130, .ref 131, .int 0, .ref 132, .int 0, .ref 133, .ref 134, .int 0, .ref 135, .ref 136, .int 0, .ref 137, .ref 138, .ref 139, .ref 140, .int 0, .ref 141, .ref 142, .ref 143, .int 0, .null, .null, .null, .null, .int 0, .int 0, .int 0, .null], z0, zn)), (144, (20, 8, [], z0, zn)), (104, (12, 75, [.int 0, .ref 105, .ref 106, .int 0, .ref 107, .int 0, .int 0, .ref 108, .ref 109, .ref 110, .ref 111, .int 0, .int 0, .int 0, .int 0, .int 0, .ref 112, .ref 113, .ref 114, .ref 115, .ref 116, .ref 117, .ref 118, .ref 119, .int 0, .int 0, .int 0, .ref 120, .int 0, .int 0, .int 0, .int 0, .int (-1), .int 0, .ref 121, .int 0, .ref 122, .int 0, .ref 123, .ref 124, .ref 125, .ref 126, .int 0, .ref 127, .ref 128, .int 0, .ref 129, .ref 130, .ref 131, .int 0, .ref 132, .int 0, .ref 133, .ref 134, .int 0, .ref 135, .ref 136, .int 0, .ref 137, .ref 138, .ref 139, .ref 140, .int 0, .ref 141, .ref 142, .ref 143, .int 0, .ref 144, .null, .null, .null, .int 0, .int 0, .int 0, .null], z0, zn)), (145, (20, 8, [], z0, zn)), (104, (12, 75, [.int 0, .ref 105, .ref 106, .int 0, .ref 107, .int 0, .int 0, .ref 108, .ref 109, .ref 110, .ref 111, .int 0, .int 0, .int 0, .int 0, .int 0, .ref 112, .ref 113, .ref 114, .ref 115, .ref 116, .ref 117, .ref 118, .ref 119, .int 0, .int 0, .int 0, .ref 120, .int 0, .int 0, .int 0, .int 0, .int (-1), .int 0, .ref 121, .int 0, .ref 122, .int 0, .ref 123, .ref 124, .ref 125, .ref 126, .int 0, .ref 127, .ref 128, .int 0, .ref 129, .ref 130, .ref 131, .int 0, .ref 132, .int 0, .ref 133, .ref 134, .int 0, .ref 135, .ref 136, .int 0, .ref 137, .ref 138, .ref 139, .ref 140, .int 0, .ref 141, .ref 142, .ref 143, .int 0, .ref 144, .ref 145, .null, .null, .int 0, .int 0, .int 0, .null], z0, zn)), (146, (20, 16807, [], z0, zn)), (104, (12, 75, [.int 0, .ref 105, .ref 106, .int 0, .ref 107, .int 0, .int 0, .ref 108, .ref 109, .ref 110, .ref 111, .int 0, .int 0, .int 0, .int 0, .int 0, .ref 112, .ref 113, .ref 114, .ref 115, .ref 116, .ref 117, .ref 118, .ref 119, .int 0, .int 0, .int 0, .ref 120, .int 0, .int 0, .int 0, .int 0, .int (-1), .int 0, .ref 121, .int 0, .ref 122, .int 0, .ref 123, .ref 124, .ref 125, .ref 126, .int 0, .ref 127, .ref 128, .int 0, .ref 129, .ref 130, .ref 131, .int 0, .ref 132, .int 0, .ref 133, .ref 134, .int 0, .ref 135, .ref 136, .int 0, .ref 137, .ref 138, .ref 139, .ref 140, .int 0, .ref 141, .ref 142, .ref 143, .int 0, .ref 144, .ref 145, .ref 146, .null, .int 0, .int 0, .int 0, .null], z0, zn)), (147, (20, 5, [], z0, zn)), (104, (12, 75, [.int 0, .ref 105, .ref 106, .int 0, .ref 107, .int 0, .int 0, .ref 108, .ref 109, .ref 110, .ref 111, .int 0, .int 0, .int 0, .int 0, .int 0, .ref 112, .ref 113, .ref 114, .ref 115, .ref 116, .ref 117, .ref 118, .ref 119, .int 0, .int 0, .int 0, .ref 120, .int 0, .int 0, .int 0, .int 0, .int (-1), .int 0, .ref 121, .int 0, .ref 122, .int 0, .ref 123, .ref 124, .ref 125, .ref 126, .int 0, .ref 127, .ref 128, .int 0, .ref 129, .ref 130, .ref 131, .int 0, .ref 132, .int 0, .ref 133, .ref 134, .int 0, .ref 135, .ref 136, .int 0, .ref 137, .ref 138, .ref 139, .ref 140, .int 0, .ref 141, .ref 142, .ref 143, .int 0, .ref 144, .ref 145, .ref 146, .ref 147, .int 0, .int 0, .int 0, .null], z0, zn)), (148, (20, 2400, [], z0, zn)), (104, (12, 75, [.int 0, .ref 105, .ref 106, .int 0, .ref 107, .int 0, .int 0, .ref 108, .ref 109, .ref 110, .ref 111, .int 0, .int 0, .int 0, .int 0, .int 0, .ref 112, .ref 113, .ref 114, .ref 115, .ref 116, .ref 117, .ref 118, .ref 119, .int 0, .int 0, .int 0, .ref 120, .int 0, .int 0, .int 0, .int 0, .int (-1), .int 0, .ref 121, .int 0, .ref 122, .int 0, .ref 123, .ref 124, .ref 125, .ref 126, .int 0, .ref 127, .ref 128, .int 0, .ref 129, .ref 130, .ref 131, .int 0, .ref 132, .int 0, .ref 133, .ref 134, .int 0, .ref 135, .ref 136, .int 0, .ref 137, .ref 138, .ref 139, .ref 140, .int 0, .ref 141, .ref 142, .ref 143, .int 0, .ref 144, .ref 145, .ref 146, .ref 147, .int 0, .int 0, .int 0, .ref 148], z0, zn))]
set_option maxRecDepth 40000 in
theorem kx_52 (G : GG) (d : Nat) (F : CF) : Kc G tm_init d 44 26848 [.ref (gB G + 104)] 105 (sF F 104 (12, 75, df_12, z0, zn)) 149 (pf_52 F) := by
  refine K_of_Vc (by decide) rfl (by simp [cat_i, cat_r]) (by simp [tm_init]) ?_
  refine c_aload (i := 0) dm_init_0 rfl ?_
  refine c_obj dm_init_1 mlm_1 (Nat.le_of_ble_eq_true rfl) ?_
  refine c_aload (i := 0) dm_init_4 rfl ?_
  refine c_bipush (x := 115) dm_init_5 rfl ?_
  refine c_newi (N := 115) dm_init_7 ar_i (by decide) rfl (by decide) (Nat.le_of_ble_eq_true rfl) (Nat.le_of_ble_eq_true rfl) ?_
  refine c_put (w := .ref 105) (cc := (12, 75, [.int 0, .ref 105, .null, .int 0, .null, .int 0, .int 0, .null, .null, .null, .null, .int 0, .int 0, .int 0, .int 0, .int 0, .null, .null, .null, .null, .null, .null, .null, .null, .int 0, .int 0, .int 0, .null, .int 0, .int 0, .int 0, .int 0, .int 0, .int 0, .null, .int 0, .null, .int 0, .null, .null, .null, .null, .int 0, .null, .null, .int 0, .null, .null, .null, .int 0, .null, .int 0, .null, .null, .int 0, .null, .null, .int 0, .null, .null, .null, .null, .int 0, .null, .null, .null, .int 0, .null, .null, .null, .null, .int 0, .int 0, .int 0, .null], z0, zn)) dm_init_9 fum_7 ⟨_, _, _, _, rfl, rfl, rfl, rfl⟩ hc_12 (Nat.le_of_ble_eq_true rfl) rfl (Nat.le_of_ble_eq_true rfl) rfl rfl ?_
  refine c_aload (i := 0) dm_init_12 rfl ?_
  refine c_sipush (x := 690) dm_init_13 rfl ?_
  refine c_newi (N := 690) dm_init_16 ar_i (by decide) rfl (by decide) (Nat.le_of_ble_eq_true rfl) (Nat.le_of_ble_eq_true rfl) ?_
  refine c_put (w := .ref 106) (cc := (12, 75, [.int 0, .ref 105, .ref 106, .int 0, .null, .int 0, .int 0, .null, .null, .null, .null, .int 0, .int 0, .int 0, .int 0, .int 0, .null, .null, .null, .null, .null, .null, .null, .null, .int 0, .int 0, .int 0, .null, .int 0, .int 0, .int 0, .int 0, .int 0, .int 0, .null, .int 0, .null, .int 0, .null, .null, .null, .null, .int 0, .null, .null, .int 0, .null, .null, .null, .int 0, .null, .int 0, .null, .null, .int 0, .null, .null, .int 0, .null, .null, .null, .null, .int 0, .null, .null, .null, .int 0, .null, .null, .null, .null, .int 0, .int 0, .int 0, .null], z0, zn)) dm_init_18 fum_13 ⟨_, _, _, _, rfl, rfl, rfl, rfl⟩ hc_12 (Nat.le_of_ble_eq_true rfl) rfl (Nat.le_of_ble_eq_true rfl) rfl rfl ?_
  refine c_aload (i := 0) dm_init_21 rfl ?_
  refine c_bipush (x := 115) dm_init_22 rfl ?_
  refine c_newi (N := 115) dm_init_24 ar_i (by decide) rfl (by decide) (Nat.le_of_ble_eq_true rfl) (Nat.le_of_ble_eq_true rfl) ?_
  refine c_put (w := .ref 107) (cc := (12, 75, [.int 0, .ref 105, .ref 106, .int 0, .ref 107, .int 0, .int 0, .null, .null, .null, .null, .int 0, .int 0, .int 0, .int 0, .int 0, .null, .null, .null, .null, .null, .null, .null, .null, .int 0, .int 0, .int 0, .null, .int 0, .int 0, .int 0, .int 0, .int 0, .int 0, .null, .int 0, .null, .int 0, .null, .null, .null, .null, .int 0, .null, .null, .int 0, .null, .null, .null, .int 0, .null, .int 0, .null, .null, .int 0, .null, .null, .int 0, .null, .null, .null, .null, .int 0, .null, .null, .null, .int 0, .null, .null, .null, .null, .int 0, .int 0, .int 0, .null], z0, zn)) dm_init_26 fum_16 ⟨_, _, _, _, rfl, rfl, rfl, rfl⟩ hc_12 (Nat.le_of_ble_eq_true rfl) rfl (Nat.le_of_ble_eq_true rfl) rfl rfl ?_
  refine c_aload (i := 0) dm_init_29 rfl ?_
  refine c_bipush (x := 12) dm_init_30 rfl ?_
  refine c_newi (N := 12) dm_init_32 ar_i (by decide) rfl (by decide) (Nat.le_of_ble_eq_true rfl) (Nat.le_of_ble_eq_true rfl) ?_
  refine c_put (w := .ref 108) (cc := (12, 75, [.int 0, .ref 105, .ref 106, .int 0, .ref 107, .int 0, .int 0, .ref 108, .null, .null, .null, .int 0, .int 0, .int 0, .int 0, .int 0, .null, .null, .null, .null, .null, .null, .null, .null, .int 0, .int 0, .int 0, .null, .int 0, .int 0, .int 0, .int 0, .int 0, .int 0, .null, .int 0, .null, .int 0, .null, .null, .null, .null, .int 0, .null, .null, .int 0, .null, .null, .null, .int 0, .null, .int 0, .null, .null, .int 0, .null, .null, .int 0, .null, .null, .null, .null, .int 0, .null, .null, .null, .int 0, .null, .null, .null, .null, .int 0, .int 0, .int 0, .null], z0, zn)) dm_init_34 fum_19 ⟨_, _, _, _, rfl, rfl, rfl, rfl⟩ hc_12 (Nat.le_of_ble_eq_true rfl) rfl (Nat.le_of_ble_eq_true rfl) rfl rfl ?_
  refine c_aload (i := 0) dm_init_37 rfl ?_
  refine c_bipush (x := 12) dm_init_38 rfl ?_
  refine c_newi (N := 12) dm_init_40 ar_i (by decide) rfl (by decide) (Nat.le_of_ble_eq_true rfl) (Nat.le_of_ble_eq_true rfl) ?_
  refine c_put (w := .ref 109) (cc := (12, 75, [.int 0, .ref 105, .ref 106, .int 0, .ref 107, .int 0, .int 0, .ref 108, .ref 109, .null, .null, .int 0, .int 0, .int 0, .int 0, .int 0, .null, .null, .null, .null, .null, .null, .null, .null, .int 0, .int 0, .int 0, .null, .int 0, .int 0, .int 0, .int 0, .int 0, .int 0, .null, .int 0, .null, .int 0, .null, .null, .null, .null, .int 0, .null, .null, .int 0, .null, .null, .null, .int 0, .null, .int 0, .null, .null, .int 0, .null, .null, .int 0, .null, .null, .null, .null, .int 0, .null, .null, .null, .int 0, .null, .null, .null, .null, .int 0, .int 0, .int 0, .null], z0, zn)) dm_init_42 fum_22 ⟨_, _, _, _, rfl, rfl, rfl, rfl⟩ hc_12 (Nat.le_of_ble_eq_true rfl) rfl (Nat.le_of_ble_eq_true rfl) rfl rfl ?_
  refine c_aload (i := 0) dm_init_45 rfl ?_
  refine c_sipush (x := 600) dm_init_46 rfl ?_
  refine c_newi (N := 600) dm_init_49 ar_i (by decide) rfl (by decide) (Nat.le_of_ble_eq_true rfl) (Nat.le_of_ble_eq_true rfl) ?_
  refine c_put (w := .ref 110) (cc := (12, 75, [.int 0, .ref 105, .ref 106, .int 0, .ref 107, .int 0, .int 0, .ref 108, .ref 109, .ref 110, .null, .int 0, .int 0, .int 0, .int 0, .int 0, .null, .null, .null, .null, .null, .null, .null, .null, .int 0, .int 0, .int 0, .null, .int 0, .int 0, .int 0, .int 0, .int 0, .int 0, .null, .int 0, .null, .int 0, .null, .null, .null, .null, .int 0, .null, .null, .int 0, .null, .null, .null, .int 0, .null, .int 0, .null, .null, .int 0, .null, .null, .int 0, .null, .null, .null, .null, .int 0, .null, .null, .null, .int 0, .null, .null, .null, .null, .int 0, .int 0, .int 0, .null], z0, zn)) dm_init_51 fum_25 ⟨_, _, _, _, rfl, rfl, rfl, rfl⟩ hc_12 (Nat.le_of_ble_eq_true rfl) rfl (Nat.le_of_ble_eq_true rfl) rfl rfl ?_
  refine c_aload (i := 0) dm_init_54 rfl ?_
  refine c_sipush (x := 400) dm_init_55 rfl ?_
  refine c_newi (N := 400) dm_init_58 ar_i (by decide) rfl (by decide) (Nat.le_of_ble_eq_true rfl) (Nat.le_of_ble_eq_true rfl) ?_
  refine c_put (w := .ref 111) (cc := (12, 75, [.int 0, .ref 105, .ref 106, .int 0, .ref 107, .int 0, .int 0, .ref 108, .ref 109, .ref 110, .ref 111, .int 0, .int 0, .int 0, .int 0, .int 0, .null, .null, .null, .null, .null, .null, .null, .null, .int 0, .int 0, .int 0, .null, .int 0, .int 0, .int 0, .int 0, .int 0, .int 0, .null, .int 0, .null, .int 0, .null, .null, .null, .null, .int 0, .null, .null, .int 0, .null, .null, .null, .int 0, .null, .int 0, .null, .null, .int 0, .null, .null, .int 0, .null, .null, .null, .null, .int 0, .null, .null, .null, .int 0, .null, .null, .null, .null, .int 0, .int 0, .int 0, .null], z0, zn)) dm_init_60 fum_28 ⟨_, _, _, _, rfl, rfl, rfl, rfl⟩ hc_12 (Nat.le_of_ble_eq_true rfl) rfl (Nat.le_of_ble_eq_true rfl) rfl rfl ?_
  refine c_aload (i := 0) dm_init_63 rfl ?_
  refine c_sipush (x := 141) dm_init_64 rfl ?_
  refine c_newi (N := 141) dm_init_67 ar_i (by decide) rfl (by decide) (Nat.le_of_ble_eq_true rfl) (Nat.le_of_ble_eq_true rfl) ?_
  refine c_dup dm_init_69 rfl ?_
  refine c_iconst (x := 0) dm_init_70 rfl ?_
  refine c_bipush (x := 32) dm_init_71 rfl ?_
  refine c_iast (N := 141) (cc := (20, 141, [], wz_7, zn)) dm_init_73 (Nat.le_of_ble_eq_true rfl) rfl rfl (by unfold vp_in; decide) rfl ?_
  refine c_dup dm_init_74 rfl ?_
  refine c_iconst (x := 1) dm_init_75 rfl ?_
  refine c_bipush (x := 114) dm_init_76 rfl ?_
  refine c_iast (N := 141) (cc := (20, 141, [], wz_8, zn)) dm_init_78 (Nat.le_of_ble_eq_true rfl) rfl rfl (by unfold vp_in; decide) rfl ?_
  refine c_dup dm_init_79 rfl ?_
  refine c_iconst (x := 2) dm_init_80 rfl ?_
  refine c_bipush (x := 101) dm_init_81 rfl ?_
  refine c_iast (N := 141) (cc := (20, 141, [], wz_9, zn)) dm_init_83 (Nat.le_of_ble_eq_true rfl) rfl rfl (by unfold vp_in; decide) rfl ?_
  refine c_dup dm_init_84 rfl ?_
  refine c_iconst (x := 3) dm_init_85 rfl ?_
  refine c_bipush (x := 110) dm_init_86 rfl ?_
  refine c_iast (N := 141) (cc := (20, 141, [], wz_10, zn)) dm_init_88 (Nat.le_of_ble_eq_true rfl) rfl rfl (by unfold vp_in; decide) rfl ?_
  refine c_dup dm_init_89 rfl ?_
  refine c_iconst (x := 4) dm_init_90 rfl ?_
  refine c_bipush (x := 116) dm_init_91 rfl ?_
  refine c_iast (N := 141) (cc := (20, 141, [], wz_11, zn)) dm_init_93 (Nat.le_of_ble_eq_true rfl) rfl rfl (by unfold vp_in; decide) rfl ?_
  refine c_dup dm_init_94 rfl ?_
  refine c_iconst (x := 5) dm_init_95 rfl ?_
  refine c_bipush (x := 32) dm_init_96 rfl ?_
  refine c_iast (N := 141) (cc := (20, 141, [], wz_12, zn)) dm_init_98 (Nat.le_of_ble_eq_true rfl) rfl rfl (by unfold vp_in; decide) rfl ?_
  refine c_dup dm_init_99 rfl ?_
  refine c_bipush (x := 6) dm_init_100 rfl ?_
  refine c_bipush (x := 103) dm_init_102 rfl ?_
  refine c_iast (N := 141) (cc := (20, 141, [], wz_13, zn)) dm_init_104 (Nat.le_of_ble_eq_true rfl) rfl rfl (by unfold vp_in; decide) rfl ?_
  refine c_dup dm_init_105 rfl ?_
  refine c_bipush (x := 7) dm_init_106 rfl ?_
  refine c_bipush (x := 110) dm_init_108 rfl ?_
  refine c_iast (N := 141) (cc := (20, 141, [], wz_14, zn)) dm_init_110 (Nat.le_of_ble_eq_true rfl) rfl rfl (by unfold vp_in; decide) rfl ?_
  refine c_dup dm_init_111 rfl ?_
  refine c_bipush (x := 8) dm_init_112 rfl ?_
  refine c_bipush (x := 97) dm_init_114 rfl ?_
  refine c_iast (N := 141) (cc := (20, 141, [], wz_15, zn)) dm_init_116 (Nat.le_of_ble_eq_true rfl) rfl rfl (by unfold vp_in; decide) rfl ?_
  refine c_dup dm_init_117 rfl ?_
  refine c_bipush (x := 9) dm_init_118 rfl ?_
  refine c_bipush (x := 119) dm_init_120 rfl ?_
  refine c_iast (N := 141) (cc := (20, 141, [], wz_16, zn)) dm_init_122 (Nat.le_of_ble_eq_true rfl) rfl rfl (by unfold vp_in; decide) rfl ?_
  refine c_dup dm_init_123 rfl ?_
  refine c_bipush (x := 10) dm_init_124 rfl ?_
  refine c_bipush (x := 115) dm_init_126 rfl ?_
  refine c_iast (N := 141) (cc := (20, 141, [], wz_17, zn)) dm_init_128 (Nat.le_of_ble_eq_true rfl) rfl rfl (by unfold vp_in; decide) rfl ?_
  refine c_dup dm_init_129 rfl ?_
  refine c_bipush (x := 11) dm_init_130 rfl ?_
  refine c_bipush (x := 32) dm_init_132 rfl ?_
  refine c_iast (N := 141) (cc := (20, 141, [], wz_18, zn)) dm_init_134 (Nat.le_of_ble_eq_true rfl) rfl rfl (by unfold vp_in; decide) rfl ?_
  refine c_dup dm_init_135 rfl ?_
  refine c_bipush (x := 12) dm_init_136 rfl ?_
  refine c_bipush (x := 109) dm_init_138 rfl ?_
  refine c_iast (N := 141) (cc := (20, 141, [], wz_19, zn)) dm_init_140 (Nat.le_of_ble_eq_true rfl) rfl rfl (by unfold vp_in; decide) rfl ?_
  refine c_dup dm_init_141 rfl ?_
  refine c_bipush (x := 13) dm_init_142 rfl ?_
  refine c_bipush (x := 101) dm_init_144 rfl ?_
  refine c_iast (N := 141) (cc := (20, 141, [], wz_20, zn)) dm_init_146 (Nat.le_of_ble_eq_true rfl) rfl rfl (by unfold vp_in; decide) rfl ?_
  refine c_dup dm_init_147 rfl ?_
  refine c_bipush (x := 14) dm_init_148 rfl ?_
  refine c_bipush (x := 108) dm_init_150 rfl ?_
  refine c_iast (N := 141) (cc := (20, 141, [], wz_21, zn)) dm_init_152 (Nat.le_of_ble_eq_true rfl) rfl rfl (by unfold vp_in; decide) rfl ?_
  refine c_dup dm_init_153 rfl ?_
  refine c_bipush (x := 15) dm_init_154 rfl ?_
  refine c_bipush (x := 116) dm_init_156 rfl ?_
  refine c_iast (N := 141) (cc := (20, 141, [], wz_22, zn)) dm_init_158 (Nat.le_of_ble_eq_true rfl) rfl rfl (by unfold vp_in; decide) rfl ?_
  refine c_dup dm_init_159 rfl ?_
  refine c_bipush (x := 16) dm_init_160 rfl ?_
  refine c_bipush (x := 115) dm_init_162 rfl ?_
  refine c_iast (N := 141) (cc := (20, 141, [], wz_23, zn)) dm_init_164 (Nat.le_of_ble_eq_true rfl) rfl rfl (by unfold vp_in; decide) rfl ?_
  refine c_dup dm_init_165 rfl ?_
  refine c_bipush (x := 17) dm_init_166 rfl ?_
  refine c_bipush (x := 32) dm_init_168 rfl ?_
  refine c_iast (N := 141) (cc := (20, 141, [], wz_24, zn)) dm_init_170 (Nat.le_of_ble_eq_true rfl) rfl rfl (by unfold vp_in; decide) rfl ?_
  refine c_dup dm_init_171 rfl ?_
  refine c_bipush (x := 18) dm_init_172 rfl ?_
  refine c_bipush (x := 119) dm_init_174 rfl ?_
  refine c_iast (N := 141) (cc := (20, 141, [], wz_25, zn)) dm_init_176 (Nat.le_of_ble_eq_true rfl) rfl rfl (by unfold vp_in; decide) rfl ?_
  refine c_dup dm_init_177 rfl ?_
  refine c_bipush (x := 19) dm_init_178 rfl ?_
  refine c_bipush (x := 104) dm_init_180 rfl ?_
  refine c_iast (N := 141) (cc := (20, 141, [], wz_26, zn)) dm_init_182 (Nat.le_of_ble_eq_true rfl) rfl rfl (by unfold vp_in; decide) rfl ?_
  refine c_dup dm_init_183 rfl ?_
  refine c_bipush (x := 20) dm_init_184 rfl ?_
  refine c_bipush (x := 101) dm_init_186 rfl ?_
  refine c_iast (N := 141) (cc := (20, 141, [], wz_27, zn)) dm_init_188 (Nat.le_of_ble_eq_true rfl) rfl rfl (by unfold vp_in; decide) rfl ?_
  refine c_dup dm_init_189 rfl ?_
  refine c_bipush (x := 21) dm_init_190 rfl ?_
  refine c_bipush (x := 110) dm_init_192 rfl ?_
  refine c_iast (N := 141) (cc := (20, 141, [], wz_28, zn)) dm_init_194 (Nat.le_of_ble_eq_true rfl) rfl rfl (by unfold vp_in; decide) rfl ?_
  refine c_dup dm_init_195 rfl ?_
  refine c_bipush (x := 22) dm_init_196 rfl ?_
  refine c_bipush (x := 32) dm_init_198 rfl ?_
  refine c_iast (N := 141) (cc := (20, 141, [], wz_29, zn)) dm_init_200 (Nat.le_of_ble_eq_true rfl) rfl rfl (by unfold vp_in; decide) rfl ?_
  refine c_dup dm_init_201 rfl ?_
  refine c_bipush (x := 23) dm_init_202 rfl ?_
  refine c_bipush (x := 111) dm_init_204 rfl ?_
  refine c_iast (N := 141) (cc := (20, 141, [], wz_30, zn)) dm_init_206 (Nat.le_of_ble_eq_true rfl) rfl rfl (by unfold vp_in; decide) rfl ?_
  refine c_dup dm_init_207 rfl ?_
  refine c_bipush (x := 24) dm_init_208 rfl ?_
  refine c_bipush (x := 114) dm_init_210 rfl ?_
  refine c_iast (N := 141) (cc := (20, 141, [], wz_31, zn)) dm_init_212 (Nat.le_of_ble_eq_true rfl) rfl rfl (by unfold vp_in; decide) rfl ?_
  refine c_dup dm_init_213 rfl ?_
  refine c_bipush (x := 25) dm_init_214 rfl ?_
  refine c_bipush (x := 32) dm_init_216 rfl ?_
  refine c_iast (N := 141) (cc := (20, 141, [], wz_32, zn)) dm_init_218 (Nat.le_of_ble_eq_true rfl) rfl rfl (by unfold vp_in; decide) rfl ?_
  refine c_dup dm_init_219 rfl ?_
  refine c_bipush (x := 26) dm_init_220 rfl ?_
  refine c_bipush (x := 97) dm_init_222 rfl ?_
  refine c_iast (N := 141) (cc := (20, 141, [], wz_33, zn)) dm_init_224 (Nat.le_of_ble_eq_true rfl) rfl rfl (by unfold vp_in; decide) rfl ?_
  refine c_dup dm_init_225 rfl ?_
  refine c_bipush (x := 27) dm_init_226 rfl ?_
  refine c_bipush (x := 110) dm_init_228 rfl ?_
  refine c_iast (N := 141) (cc := (20, 141, [], wz_34, zn)) dm_init_230 (Nat.le_of_ble_eq_true rfl) rfl rfl (by unfold vp_in; decide) rfl ?_
  refine c_dup dm_init_231 rfl ?_
  refine c_bipush (x := 28) dm_init_232 rfl ?_
  refine c_bipush (x := 100) dm_init_234 rfl ?_
  refine c_iast (N := 141) (cc := (20, 141, [], wz_35, zn)) dm_init_236 (Nat.le_of_ble_eq_true rfl) rfl rfl (by unfold vp_in; decide) rfl ?_
  refine c_dup dm_init_237 rfl ?_
  refine c_bipush (x := 29) dm_init_238 rfl ?_
  refine c_bipush (x := 32) dm_init_240 rfl ?_
  refine c_iast (N := 141) (cc := (20, 141, [], wz_36, zn)) dm_init_242 (Nat.le_of_ble_eq_true rfl) rfl rfl (by unfold vp_in; decide) rfl ?_
  refine c_dup dm_init_243 rfl ?_
  refine c_bipush (x := 30) dm_init_244 rfl ?_
  refine c_bipush (x := 110) dm_init_246 rfl ?_
  refine c_iast (N := 141) (cc := (20, 141, [], wz_37, zn)) dm_init_248 (Nat.le_of_ble_eq_true rfl) rfl rfl (by unfold vp_in; decide) rfl ?_
  refine c_dup dm_init_249 rfl ?_
  refine c_bipush (x := 31) dm_init_250 rfl ?_
  refine c_bipush (x := 111) dm_init_252 rfl ?_
  refine c_iast (N := 141) (cc := (20, 141, [], wz_38, zn)) dm_init_254 (Nat.le_of_ble_eq_true rfl) rfl rfl (by unfold vp_in; decide) rfl ?_
  refine c_dup dm_init_255 rfl ?_
  refine c_bipush (x := 32) dm_init_256 rfl ?_
  refine c_bipush (x := 116) dm_init_258 rfl ?_
  refine c_iast (N := 141) (cc := (20, 141, [], wz_39, zn)) dm_init_260 (Nat.le_of_ble_eq_true rfl) rfl rfl (by unfold vp_in; decide) rfl ?_
  refine c_dup dm_init_261 rfl ?_
  refine c_bipush (x := 33) dm_init_262 rfl ?_
  refine c_bipush (x := 32) dm_init_264 rfl ?_
  refine c_iast (N := 141) (cc := (20, 141, [], wz_40, zn)) dm_init_266 (Nat.le_of_ble_eq_true rfl) rfl rfl (by unfold vp_in; decide) rfl ?_
  refine c_dup dm_init_267 rfl ?_
  refine c_bipush (x := 34) dm_init_268 rfl ?_
  refine c_bipush (x := 119) dm_init_270 rfl ?_
  refine c_iast (N := 141) (cc := (20, 141, [], wz_41, zn)) dm_init_272 (Nat.le_of_ble_eq_true rfl) rfl rfl (by unfold vp_in; decide) rfl ?_
  refine c_dup dm_init_273 rfl ?_
  refine c_bipush (x := 35) dm_init_274 rfl ?_
  refine c_bipush (x := 97) dm_init_276 rfl ?_
  refine c_iast (N := 141) (cc := (20, 141, [], wz_42, zn)) dm_init_278 (Nat.le_of_ble_eq_true rfl) rfl rfl (by unfold vp_in; decide) rfl ?_
  refine c_dup dm_init_279 rfl ?_
  refine c_bipush (x := 36) dm_init_280 rfl ?_
  refine c_bipush (x := 108) dm_init_282 rfl ?_
  refine c_iast (N := 141) (cc := (20, 141, [], wz_43, zn)) dm_init_284 (Nat.le_of_ble_eq_true rfl) rfl rfl (by unfold vp_in; decide) rfl ?_
  refine c_dup dm_init_285 rfl ?_
  refine c_bipush (x := 37) dm_init_286 rfl ?_
  refine c_bipush (x := 108) dm_init_288 rfl ?_
  refine c_iast (N := 141) (cc := (20, 141, [], wz_44, zn)) dm_init_290 (Nat.le_of_ble_eq_true rfl) rfl rfl (by unfold vp_in; decide) rfl ?_
  refine c_dup dm_init_291 rfl ?_
  refine c_bipush (x := 38) dm_init_292 rfl ?_
  refine c_bipush (x := 32) dm_init_294 rfl ?_
  refine c_iast (N := 141) (cc := (20, 141, [], wz_45, zn)) dm_init_296 (Nat.le_of_ble_eq_true rfl) rfl rfl (by unfold vp_in; decide) rfl ?_
  refine c_dup dm_init_297 rfl ?_
  refine c_bipush (x := 39) dm_init_298 rfl ?_
  refine c_bipush (x := 115) dm_init_300 rfl ?_
  refine c_iast (N := 141) (cc := (20, 141, [], wz_46, zn)) dm_init_302 (Nat.le_of_ble_eq_true rfl) rfl rfl (by unfold vp_in; decide) rfl ?_
  refine c_dup dm_init_303 rfl ?_
  refine c_bipush (x := 40) dm_init_304 rfl ?_
  refine c_bipush (x := 117) dm_init_306 rfl ?_
  refine c_iast (N := 141) (cc := (20, 141, [], wz_47, zn)) dm_init_308 (Nat.le_of_ble_eq_true rfl) rfl rfl (by unfold vp_in; decide) rfl ?_
  refine c_dup dm_init_309 rfl ?_
  refine c_bipush (x := 41) dm_init_310 rfl ?_
  refine c_bipush (x := 109) dm_init_312 rfl ?_
  refine c_iast (N := 141) (cc := (20, 141, [], wz_48, zn)) dm_init_314 (Nat.le_of_ble_eq_true rfl) rfl rfl (by unfold vp_in; decide) rfl ?_
  refine c_dup dm_init_315 rfl ?_
  refine c_bipush (x := 42) dm_init_316 rfl ?_
  refine c_bipush (x := 32) dm_init_318 rfl ?_
  refine c_iast (N := 141) (cc := (20, 141, [], wz_49, zn)) dm_init_320 (Nat.le_of_ble_eq_true rfl) rfl rfl (by unfold vp_in; decide) rfl ?_
  refine c_dup dm_init_321 rfl ?_
  refine c_bipush (x := 43) dm_init_322 rfl ?_
  refine c_bipush (x := 97) dm_init_324 rfl ?_
  refine c_iast (N := 141) (cc := (20, 141, [], wz_50, zn)) dm_init_326 (Nat.le_of_ble_eq_true rfl) rfl rfl (by unfold vp_in; decide) rfl ?_
  refine c_dup dm_init_327 rfl ?_
  refine c_bipush (x := 44) dm_init_328 rfl ?_
  refine c_bipush (x := 108) dm_init_330 rfl ?_
  refine c_iast (N := 141) (cc := (20, 141, [], wz_51, zn)) dm_init_332 (Nat.le_of_ble_eq_true rfl) rfl rfl (by unfold vp_in; decide) rfl ?_
  refine c_dup dm_init_333 rfl ?_
  refine c_bipush (x := 45) dm_init_334 rfl ?_
  refine c_bipush (x := 109) dm_init_336 rfl ?_
  refine c_iast (N := 141) (cc := (20, 141, [], wz_52, zn)) dm_init_338 (Nat.le_of_ble_eq_true rfl) rfl rfl (by unfold vp_in; decide) rfl ?_
  refine c_dup dm_init_339 rfl ?_
  refine c_bipush (x := 46) dm_init_340 rfl ?_
  refine c_bipush (x := 111) dm_init_342 rfl ?_
  refine c_iast (N := 141) (cc := (20, 141, [], wz_53, zn)) dm_init_344 (Nat.le_of_ble_eq_true rfl) rfl rfl (by unfold vp_in; decide) rfl ?_
  refine c_dup dm_init_345 rfl ?_
  refine c_bipush (x := 47) dm_init_346 rfl ?_
  refine c_bipush (x := 110) dm_init_348 rfl ?_
  refine c_iast (N := 141) (cc := (20, 141, [], wz_54, zn)) dm_init_350 (Nat.le_of_ble_eq_true rfl) rfl rfl (by unfold vp_in; decide) rfl ?_
  refine c_dup dm_init_351 rfl ?_
  refine c_bipush (x := 48) dm_init_352 rfl ?_
  refine c_bipush (x := 100) dm_init_354 rfl ?_
  refine c_iast (N := 141) (cc := (20, 141, [], wz_55, zn)) dm_init_356 (Nat.le_of_ble_eq_true rfl) rfl rfl (by unfold vp_in; decide) rfl ?_
  refine c_dup dm_init_357 rfl ?_
  refine c_bipush (x := 49) dm_init_358 rfl ?_
  refine c_bipush (x := 115) dm_init_360 rfl ?_
  refine c_iast (N := 141) (cc := (20, 141, [], wz_56, zn)) dm_init_362 (Nat.le_of_ble_eq_true rfl) rfl rfl (by unfold vp_in; decide) rfl ?_
  refine c_dup dm_init_363 rfl ?_
  refine c_bipush (x := 50) dm_init_364 rfl ?_
  refine c_bipush (x := 32) dm_init_366 rfl ?_
  refine c_iast (N := 141) (cc := (20, 141, [], wz_57, zn)) dm_init_368 (Nat.le_of_ble_eq_true rfl) rfl rfl (by unfold vp_in; decide) rfl ?_
  refine c_dup dm_init_369 rfl ?_
  refine c_bipush (x := 51) dm_init_370 rfl ?_
  refine c_bipush (x := 116) dm_init_372 rfl ?_
  refine c_iast (N := 141) (cc := (20, 141, [], wz_58, zn)) dm_init_374 (Nat.le_of_ble_eq_true rfl) rfl rfl (by unfold vp_in; decide) rfl ?_
  refine c_dup dm_init_375 rfl ?_
  refine c_bipush (x := 52) dm_init_376 rfl ?_
  refine c_bipush (x := 101) dm_init_378 rfl ?_
  refine c_iast (N := 141) (cc := (20, 141, [], wz_59, zn)) dm_init_380 (Nat.le_of_ble_eq_true rfl) rfl rfl (by unfold vp_in; decide) rfl ?_
  refine c_dup dm_init_381 rfl ?_
  refine c_bipush (x := 53) dm_init_382 rfl ?_
  refine c_bipush (x := 101) dm_init_384 rfl ?_
  refine c_iast (N := 141) (cc := (20, 141, [], wz_60, zn)) dm_init_386 (Nat.le_of_ble_eq_true rfl) rfl rfl (by unfold vp_in; decide) rfl ?_
  refine c_dup dm_init_387 rfl ?_
  refine c_bipush (x := 54) dm_init_388 rfl ?_
  refine c_bipush (x := 116) dm_init_390 rfl ?_
  refine c_iast (N := 141) (cc := (20, 141, [], wz_61, zn)) dm_init_392 (Nat.le_of_ble_eq_true rfl) rfl rfl (by unfold vp_in; decide) rfl ?_
  refine c_dup dm_init_393 rfl ?_
  refine c_bipush (x := 55) dm_init_394 rfl ?_
  refine c_bipush (x := 104) dm_init_396 rfl ?_
  refine c_iast (N := 141) (cc := (20, 141, [], wz_62, zn)) dm_init_398 (Nat.le_of_ble_eq_true rfl) rfl rfl (by unfold vp_in; decide) rfl ?_
  refine c_dup dm_init_399 rfl ?_
  refine c_bipush (x := 56) dm_init_400 rfl ?_
  refine c_bipush (x := 32) dm_init_402 rfl ?_
  refine c_iast (N := 141) (cc := (20, 141, [], wz_63, zn)) dm_init_404 (Nat.le_of_ble_eq_true rfl) rfl rfl (by unfold vp_in; decide) rfl ?_
  refine c_dup dm_init_405 rfl ?_
  refine c_bipush (x := 57) dm_init_406 rfl ?_
  refine c_bipush (x := 104) dm_init_408 rfl ?_
  refine c_iast (N := 141) (cc := (20, 141, [], wz_64, zn)) dm_init_410 (Nat.le_of_ble_eq_true rfl) rfl rfl (by unfold vp_in; decide) rfl ?_
  refine c_dup dm_init_411 rfl ?_
  refine c_bipush (x := 58) dm_init_412 rfl ?_
  refine c_bipush (x := 97) dm_init_414 rfl ?_
  refine c_iast (N := 141) (cc := (20, 141, [], wz_65, zn)) dm_init_416 (Nat.le_of_ble_eq_true rfl) rfl rfl (by unfold vp_in; decide) rfl ?_
  refine c_dup dm_init_417 rfl ?_
  refine c_bipush (x := 59) dm_init_418 rfl ?_
  refine c_bipush (x := 114) dm_init_420 rfl ?_
  refine c_iast (N := 141) (cc := (20, 141, [], wz_66, zn)) dm_init_422 (Nat.le_of_ble_eq_true rfl) rfl rfl (by unfold vp_in; decide) rfl ?_
  refine c_dup dm_init_423 rfl ?_
  refine c_bipush (x := 60) dm_init_424 rfl ?_
  refine c_bipush (x := 100) dm_init_426 rfl ?_
  refine c_iast (N := 141) (cc := (20, 141, [], wz_67, zn)) dm_init_428 (Nat.le_of_ble_eq_true rfl) rfl rfl (by unfold vp_in; decide) rfl ?_
  refine c_dup dm_init_429 rfl ?_
  refine c_bipush (x := 61) dm_init_430 rfl ?_
  refine c_bipush (x := 32) dm_init_432 rfl ?_
  refine c_iast (N := 141) (cc := (20, 141, [], wz_68, zn)) dm_init_434 (Nat.le_of_ble_eq_true rfl) rfl rfl (by unfold vp_in; decide) rfl ?_
  refine c_dup dm_init_435 rfl ?_
  refine c_bipush (x := 62) dm_init_436 rfl ?_
  refine c_bipush (x := 105) dm_init_438 rfl ?_
  refine c_iast (N := 141) (cc := (20, 141, [], wz_69, zn)) dm_init_440 (Nat.le_of_ble_eq_true rfl) rfl rfl (by unfold vp_in; decide) rfl ?_
  refine c_dup dm_init_441 rfl ?_
  refine c_bipush (x := 63) dm_init_442 rfl ?_
  refine c_bipush (x := 99) dm_init_444 rfl ?_
  refine c_iast (N := 141) (cc := (20, 141, [], wz_70, zn)) dm_init_446 (Nat.le_of_ble_eq_true rfl) rfl rfl (by unfold vp_in; decide) rfl ?_
  refine c_dup dm_init_447 rfl ?_
  refine c_bipush (x := 64) dm_init_448 rfl ?_
  refine c_bipush (x := 105) dm_init_450 rfl ?_
  refine c_iast (N := 141) (cc := (20, 141, [], wz_71, zn)) dm_init_452 (Nat.le_of_ble_eq_true rfl) rfl rfl (by unfold vp_in; decide) rfl ?_
  refine c_dup dm_init_453 rfl ?_
  refine c_bipush (x := 65) dm_init_454 rfl ?_
  refine c_bipush (x := 110) dm_init_456 rfl ?_
  refine c_iast (N := 141) (cc := (20, 141, [], wz_72, zn)) dm_init_458 (Nat.le_of_ble_eq_true rfl) rfl rfl (by unfold vp_in; decide) rfl ?_
  refine c_dup dm_init_459 rfl ?_
  refine c_bipush (x := 66) dm_init_460 rfl ?_
  refine c_bipush (x := 103) dm_init_462 rfl ?_
  refine c_iast (N := 141) (cc := (20, 141, [], wz_73, zn)) dm_init_464 (Nat.le_of_ble_eq_true rfl) rfl rfl (by unfold vp_in; decide) rfl ?_
  refine c_dup dm_init_465 rfl ?_
  refine c_bipush (x := 67) dm_init_466 rfl ?_
  refine c_bipush (x := 32) dm_init_468 rfl ?_
  refine c_iast (N := 141) (cc := (20, 141, [], wz_74, zn)) dm_init_470 (Nat.le_of_ble_eq_true rfl) rfl rfl (by unfold vp_in; decide) rfl ?_
  refine c_dup dm_init_471 rfl ?_
  refine c_bipush (x := 68) dm_init_472 rfl ?_
  refine c_bipush (x := 108) dm_init_474 rfl ?_
  refine c_iast (N := 141) (cc := (20, 141, [], wz_75, zn)) dm_init_476 (Nat.le_of_ble_eq_true rfl) rfl rfl (by unfold vp_in; decide) rfl ?_
  refine c_dup dm_init_477 rfl ?_
  refine c_bipush (x := 69) dm_init_478 rfl ?_
  refine c_bipush (x := 111) dm_init_480 rfl ?_
  refine c_iast (N := 141) (cc := (20, 141, [], wz_76, zn)) dm_init_482 (Nat.le_of_ble_eq_true rfl) rfl rfl (by unfold vp_in; decide) rfl ?_
  refine c_dup dm_init_483 rfl ?_
  refine c_bipush (x := 70) dm_init_484 rfl ?_
  refine c_bipush (x := 100) dm_init_486 rfl ?_
  refine c_iast (N := 141) (cc := (20, 141, [], wz_77, zn)) dm_init_488 (Nat.le_of_ble_eq_true rfl) rfl rfl (by unfold vp_in; decide) rfl ?_
  refine c_dup dm_init_489 rfl ?_
  refine c_bipush (x := 71) dm_init_490 rfl ?_
  refine c_bipush (x := 103) dm_init_492 rfl ?_
  refine c_iast (N := 141) (cc := (20, 141, [], wz_78, zn)) dm_init_494 (Nat.le_of_ble_eq_true rfl) rfl rfl (by unfold vp_in; decide) rfl ?_
  refine c_dup dm_init_495 rfl ?_
  refine c_bipush (x := 72) dm_init_496 rfl ?_
  refine c_bipush (x := 101) dm_init_498 rfl ?_
  refine c_iast (N := 141) (cc := (20, 141, [], wz_79, zn)) dm_init_500 (Nat.le_of_ble_eq_true rfl) rfl rfl (by unfold vp_in; decide) rfl ?_
  refine c_dup dm_init_501 rfl ?_
  refine c_bipush (x := 73) dm_init_502 rfl ?_
  refine c_bipush (x := 114) dm_init_504 rfl ?_
  refine c_iast (N := 141) (cc := (20, 141, [], wz_80, zn)) dm_init_506 (Nat.le_of_ble_eq_true rfl) rfl rfl (by unfold vp_in; decide) rfl ?_
  refine c_dup dm_init_507 rfl ?_
  refine c_bipush (x := 74) dm_init_508 rfl ?_
  refine c_bipush (x := 115) dm_init_510 rfl ?_
  refine c_iast (N := 141) (cc := (20, 141, [], wz_81, zn)) dm_init_512 (Nat.le_of_ble_eq_true rfl) rfl rfl (by unfold vp_in; decide) rfl ?_
  refine c_dup dm_init_513 rfl ?_
  refine c_bipush (x := 75) dm_init_514 rfl ?_
  refine c_bipush (x := 32) dm_init_516 rfl ?_
  refine c_iast (N := 141) (cc := (20, 141, [], wz_82, zn)) dm_init_518 (Nat.le_of_ble_eq_true rfl) rfl rfl (by unfold vp_in; decide) rfl ?_
  refine c_dup dm_init_519 rfl ?_
  refine c_bipush (x := 76) dm_init_520 rfl ?_
  refine c_bipush (x := 100) dm_init_522 rfl ?_
  refine c_iast (N := 141) (cc := (20, 141, [], wz_83, zn)) dm_init_524 (Nat.le_of_ble_eq_true rfl) rfl rfl (by unfold vp_in; decide) rfl ?_
  refine c_dup dm_init_525 rfl ?_
  refine c_bipush (x := 77) dm_init_526 rfl ?_
  refine c_bipush (x := 111) dm_init_528 rfl ?_
  refine c_iast (N := 141) (cc := (20, 141, [], wz_84, zn)) dm_init_530 (Nat.le_of_ble_eq_true rfl) rfl rfl (by unfold vp_in; decide) rfl ?_
  refine c_dup dm_init_531 rfl ?_
  refine c_bipush (x := 78) dm_init_532 rfl ?_
  refine c_bipush (x := 111) dm_init_534 rfl ?_
  refine c_iast (N := 141) (cc := (20, 141, [], wz_85, zn)) dm_init_536 (Nat.le_of_ble_eq_true rfl) rfl rfl (by unfold vp_in; decide) rfl ?_
  refine c_dup dm_init_537 rfl ?_
  refine c_bipush (x := 79) dm_init_538 rfl ?_
  refine c_bipush (x := 114) dm_init_540 rfl ?_
  refine c_iast (N := 141) (cc := (20, 141, [], wz_86, zn)) dm_init_542 (Nat.le_of_ble_eq_true rfl) rfl rfl (by unfold vp_in; decide) rfl ?_
  refine c_dup dm_init_543 rfl ?_
  refine c_bipush (x := 80) dm_init_544 rfl ?_
  refine c_bipush (x := 32) dm_init_546 rfl ?_
  refine c_iast (N := 141) (cc := (20, 141, [], wz_87, zn)) dm_init_548 (Nat.le_of_ble_eq_true rfl) rfl rfl (by unfold vp_in; decide) rfl ?_
  refine c_dup dm_init_549 rfl ?_
  refine c_bipush (x := 81) dm_init_550 rfl ?_
  refine c_bipush (x := 97) dm_init_552 rfl ?_
  refine c_iast (N := 141) (cc := (20, 141, [], wz_88, zn)) dm_init_554 (Nat.le_of_ble_eq_true rfl) rfl rfl (by unfold vp_in; decide) rfl ?_
  refine c_dup dm_init_555 rfl ?_
  refine c_bipush (x := 82) dm_init_556 rfl ?_
  refine c_bipush (x := 103) dm_init_558 rfl ?_
  refine c_iast (N := 141) (cc := (20, 141, [], wz_89, zn)) dm_init_560 (Nat.le_of_ble_eq_true rfl) rfl rfl (by unfold vp_in; decide) rfl ?_
  refine c_dup dm_init_561 rfl ?_
  refine c_bipush (x := 83) dm_init_562 rfl ?_
  refine c_bipush (x := 101) dm_init_564 rfl ?_
  refine c_iast (N := 141) (cc := (20, 141, [], wz_90, zn)) dm_init_566 (Nat.le_of_ble_eq_true rfl) rfl rfl (by unfold vp_in; decide) rfl ?_
  refine c_dup dm_init_567 rfl ?_
  refine c_bipush (x := 84) dm_init_568 rfl ?_
  refine c_bipush (x := 32) dm_init_570 rfl ?_
  refine c_iast (N := 141) (cc := (20, 141, [], wz_91, zn)) dm_init_572 (Nat.le_of_ble_eq_true rfl) rfl rfl (by unfold vp_in; decide) rfl ?_
  refine c_dup dm_init_573 rfl ?_
  refine c_bipush (x := 85) dm_init_574 rfl ?_
  refine c_bipush (x := 114) dm_init_576 rfl ?_
  refine c_iast (N := 141) (cc := (20, 141, [], wz_92, zn)) dm_init_578 (Nat.le_of_ble_eq_true rfl) rfl rfl (by unfold vp_in; decide) rfl ?_
  refine c_dup dm_init_579 rfl ?_
  refine c_bipush (x := 86) dm_init_580 rfl ?_
  refine c_bipush (x := 97) dm_init_582 rfl ?_
  refine c_iast (N := 141) (cc := (20, 141, [], wz_93, zn)) dm_init_584 (Nat.le_of_ble_eq_true rfl) rfl rfl (by unfold vp_in; decide) rfl ?_
  refine c_dup dm_init_585 rfl ?_
  refine c_bipush (x := 87) dm_init_586 rfl ?_
  refine c_bipush (x := 105) dm_init_588 rfl ?_
  refine c_iast (N := 141) (cc := (20, 141, [], wz_94, zn)) dm_init_590 (Nat.le_of_ble_eq_true rfl) rfl rfl (by unfold vp_in; decide) rfl ?_
  refine c_dup dm_init_591 rfl ?_
  refine c_bipush (x := 88) dm_init_592 rfl ?_
  refine c_bipush (x := 110) dm_init_594 rfl ?_
  refine c_iast (N := 141) (cc := (20, 141, [], wz_95, zn)) dm_init_596 (Nat.le_of_ble_eq_true rfl) rfl rfl (by unfold vp_in; decide) rfl ?_
  refine c_dup dm_init_597 rfl ?_
  refine c_bipush (x := 89) dm_init_598 rfl ?_
  refine c_bipush (x := 32) dm_init_600 rfl ?_
  refine c_iast (N := 141) (cc := (20, 141, [], wz_96, zn)) dm_init_602 (Nat.le_of_ble_eq_true rfl) rfl rfl (by unfold vp_in; decide) rfl ?_
  refine c_dup dm_init_603 rfl ?_
  refine c_bipush (x := 90) dm_init_604 rfl ?_
  refine c_bipush (x := 102) dm_init_606 rfl ?_
  refine c_iast (N := 141) (cc := (20, 141, [], wz_97, zn)) dm_init_608 (Nat.le_of_ble_eq_true rfl) rfl rfl (by unfold vp_in; decide) rfl ?_
  refine c_dup dm_init_609 rfl ?_
  refine c_bipush (x := 91) dm_init_610 rfl ?_
  refine c_bipush (x := 114) dm_init_612 rfl ?_
  refine c_iast (N := 141) (cc := (20, 141, [], wz_98, zn)) dm_init_614 (Nat.le_of_ble_eq_true rfl) rfl rfl (by unfold vp_in; decide) rfl ?_
  refine c_dup dm_init_615 rfl ?_
  refine c_bipush (x := 92) dm_init_616 rfl ?_
  refine c_bipush (x := 111) dm_init_618 rfl ?_
  refine c_iast (N := 141) (cc := (20, 141, [], wz_99, zn)) dm_init_620 (Nat.le_of_ble_eq_true rfl) rfl rfl (by unfold vp_in; decide) rfl ?_
  refine c_dup dm_init_621 rfl ?_
  refine c_bipush (x := 93) dm_init_622 rfl ?_
  refine c_bipush (x := 115) dm_init_624 rfl ?_
  refine c_iast (N := 141) (cc := (20, 141, [], wz_100, zn)) dm_init_626 (Nat.le_of_ble_eq_true rfl) rfl rfl (by unfold vp_in; decide) rfl ?_
  refine c_dup dm_init_627 rfl ?_
  refine c_bipush (x := 94) dm_init_628 rfl ?_
  refine c_bipush (x := 116) dm_init_630 rfl ?_
  refine c_iast (N := 141) (cc := (20, 141, [], wz_101, zn)) dm_init_632 (Nat.le_of_ble_eq_true rfl) rfl rfl (by unfold vp_in; decide) rfl ?_
  refine c_dup dm_init_633 rfl ?_
  refine c_bipush (x := 95) dm_init_634 rfl ?_
  refine c_bipush (x := 32) dm_init_636 rfl ?_
  refine c_iast (N := 141) (cc := (20, 141, [], wz_102, zn)) dm_init_638 (Nat.le_of_ble_eq_true rfl) rfl rfl (by unfold vp_in; decide) rfl ?_
  refine c_dup dm_init_639 rfl ?_
  refine c_bipush (x := 96) dm_init_640 rfl ?_
  refine c_bipush (x := 113) dm_init_642 rfl ?_
  refine c_iast (N := 141) (cc := (20, 141, [], wz_103, zn)) dm_init_644 (Nat.le_of_ble_eq_true rfl) rfl rfl (by unfold vp_in; decide) rfl ?_
  refine c_dup dm_init_645 rfl ?_
  refine c_bipush (x := 97) dm_init_646 rfl ?_
  refine c_bipush (x := 117) dm_init_648 rfl ?_
  refine c_iast (N := 141) (cc := (20, 141, [], wz_104, zn)) dm_init_650 (Nat.le_of_ble_eq_true rfl) rfl rfl (by unfold vp_in; decide) rfl ?_
  refine c_dup dm_init_651 rfl ?_
  refine c_bipush (x := 98) dm_init_652 rfl ?_
  refine c_bipush (x := 97) dm_init_654 rfl ?_
  refine c_iast (N := 141) (cc := (20, 141, [], wz_105, zn)) dm_init_656 (Nat.le_of_ble_eq_true rfl) rfl rfl (by unfold vp_in; decide) rfl ?_
  refine c_dup dm_init_657 rfl ?_
  refine c_bipush (x := 99) dm_init_658 rfl ?_
  refine c_bipush (x := 114) dm_init_660 rfl ?_
  refine c_iast (N := 141) (cc := (20, 141, [], wz_106, zn)) dm_init_662 (Nat.le_of_ble_eq_true rfl) rfl rfl (by unfold vp_in; decide) rfl ?_
  refine c_dup dm_init_663 rfl ?_
  refine c_bipush (x := 100) dm_init_664 rfl ?_
  refine c_bipush (x := 116) dm_init_666 rfl ?_
  refine c_iast (N := 141) (cc := (20, 141, [], wz_107, zn)) dm_init_668 (Nat.le_of_ble_eq_true rfl) rfl rfl (by unfold vp_in; decide) rfl ?_
  refine c_dup dm_init_669 rfl ?_
  refine c_bipush (x := 101) dm_init_670 rfl ?_
  refine c_bipush (x := 101) dm_init_672 rfl ?_
  refine c_iast (N := 141) (cc := (20, 141, [], wz_108, zn)) dm_init_674 (Nat.le_of_ble_eq_true rfl) rfl rfl (by unfold vp_in; decide) rfl ?_
  refine c_dup dm_init_675 rfl ?_
  refine c_bipush (x := 102) dm_init_676 rfl ?_
  refine c_bipush (x := 114) dm_init_678 rfl ?_
  refine c_iast (N := 141) (cc := (20, 141, [], wz_109, zn)) dm_init_680 (Nat.le_of_ble_eq_true rfl) rfl rfl (by unfold vp_in; decide) rfl ?_
  refine c_dup dm_init_681 rfl ?_
  refine c_bipush (x := 103) dm_init_682 rfl ?_
  refine c_bipush (x := 32) dm_init_684 rfl ?_
  refine c_iast (N := 141) (cc := (20, 141, [], wz_110, zn)) dm_init_686 (Nat.le_of_ble_eq_true rfl) rfl rfl (by unfold vp_in; decide) rfl ?_
  refine c_dup dm_init_687 rfl ?_
  refine c_bipush (x := 104) dm_init_688 rfl ?_
  refine c_bipush (x := 105) dm_init_690 rfl ?_
  refine c_iast (N := 141) (cc := (20, 141, [], wz_111, zn)) dm_init_692 (Nat.le_of_ble_eq_true rfl) rfl rfl (by unfold vp_in; decide) rfl ?_
  refine c_dup dm_init_693 rfl ?_
  refine c_bipush (x := 105) dm_init_694 rfl ?_
  refine c_bipush (x := 110) dm_init_696 rfl ?_
  refine c_iast (N := 141) (cc := (20, 141, [], wz_112, zn)) dm_init_698 (Nat.le_of_ble_eq_true rfl) rfl rfl (by unfold vp_in; decide) rfl ?_
  refine c_dup dm_init_699 rfl ?_
  refine c_bipush (x := 106) dm_init_700 rfl ?_
  refine c_bipush (x := 32) dm_init_702 rfl ?_
  refine c_iast (N := 141) (cc := (20, 141, [], wz_113, zn)) dm_init_704 (Nat.le_of_ble_eq_true rfl) rfl rfl (by unfold vp_in; decide) rfl ?_
  refine c_dup dm_init_705 rfl ?_
  refine c_bipush (x := 107) dm_init_706 rfl ?_
  refine c_bipush (x := 116) dm_init_708 rfl ?_
  refine c_iast (N := 141) (cc := (20, 141, [], wz_114, zn)) dm_init_710 (Nat.le_of_ble_eq_true rfl) rfl rfl (by unfold vp_in; decide) rfl ?_
  refine c_dup dm_init_711 rfl ?_
  refine c_bipush (x := 108) dm_init_712 rfl ?_
  refine c_bipush (x := 104) dm_init_714 rfl ?_
  refine c_iast (N := 141) (cc := (20, 141, [], wz_115, zn)) dm_init_716 (Nat.le_of_ble_eq_true rfl) rfl rfl (by unfold vp_in; decide) rfl ?_
  refine c_dup dm_init_717 rfl ?_
  refine c_bipush (x := 109) dm_init_718 rfl ?_
  refine c_bipush (x := 97) dm_init_720 rfl ?_
  refine c_iast (N := 141) (cc := (20, 141, [], wz_116, zn)) dm_init_722 (Nat.le_of_ble_eq_true rfl) rfl rfl (by unfold vp_in; decide) rfl ?_
  refine c_dup dm_init_723 rfl ?_
  refine c_bipush (x := 110) dm_init_724 rfl ?_
  refine c_bipush (x := 119) dm_init_726 rfl ?_
  refine c_iast (N := 141) (cc := (20, 141, [], wz_117, zn)) dm_init_728 (Nat.le_of_ble_eq_true rfl) rfl rfl (by unfold vp_in; decide) rfl ?_
  refine c_dup dm_init_729 rfl ?_
  refine c_bipush (x := 111) dm_init_730 rfl ?_
  refine c_bipush (x := 32) dm_init_732 rfl ?_
  refine c_iast (N := 141) (cc := (20, 141, [], wz_118, zn)) dm_init_734 (Nat.le_of_ble_eq_true rfl) rfl rfl (by unfold vp_in; decide) rfl ?_
  refine c_dup dm_init_735 rfl ?_
  refine c_bipush (x := 112) dm_init_736 rfl ?_
  refine c_bipush (x := 105) dm_init_738 rfl ?_
  refine c_iast (N := 141) (cc := (20, 141, [], wz_119, zn)) dm_init_740 (Nat.le_of_ble_eq_true rfl) rfl rfl (by unfold vp_in; decide) rfl ?_
  refine c_dup dm_init_741 rfl ?_
  refine c_bipush (x := 113) dm_init_742 rfl ?_
  refine c_bipush (x := 99) dm_init_744 rfl ?_
  refine c_iast (N := 141) (cc := (20, 141, [], wz_120, zn)) dm_init_746 (Nat.le_of_ble_eq_true rfl) rfl rfl (by unfold vp_in; decide) rfl ?_
  refine c_dup dm_init_747 rfl ?_
  refine c_bipush (x := 114) dm_init_748 rfl ?_
  refine c_bipush (x := 101) dm_init_750 rfl ?_
  refine c_iast (N := 141) (cc := (20, 141, [], wz_121, zn)) dm_init_752 (Nat.le_of_ble_eq_true rfl) rfl rfl (by unfold vp_in; decide) rfl ?_
  refine c_dup dm_init_753 rfl ?_
  refine c_bipush (x := 115) dm_init_754 rfl ?_
  refine c_bipush (x := 32) dm_init_756 rfl ?_
  refine c_iast (N := 141) (cc := (20, 141, [], wz_122, zn)) dm_init_758 (Nat.le_of_ble_eq_true rfl) rfl rfl (by unfold vp_in; decide) rfl ?_
  refine c_dup dm_init_759 rfl ?_
  refine c_bipush (x := 116) dm_init_760 rfl ?_
  refine c_bipush (x := 98) dm_init_762 rfl ?_
  refine c_iast (N := 141) (cc := (20, 141, [], wz_123, zn)) dm_init_764 (Nat.le_of_ble_eq_true rfl) rfl rfl (by unfold vp_in; decide) rfl ?_
  refine c_dup dm_init_765 rfl ?_
  refine c_bipush (x := 117) dm_init_766 rfl ?_
  refine c_bipush (x := 97) dm_init_768 rfl ?_
  refine c_iast (N := 141) (cc := (20, 141, [], wz_124, zn)) dm_init_770 (Nat.le_of_ble_eq_true rfl) rfl rfl (by unfold vp_in; decide) rfl ?_
  refine c_dup dm_init_771 rfl ?_
  refine c_bipush (x := 118) dm_init_772 rfl ?_
  refine c_bipush (x := 107) dm_init_774 rfl ?_
  refine c_iast (N := 141) (cc := (20, 141, [], wz_125, zn)) dm_init_776 (Nat.le_of_ble_eq_true rfl) rfl rfl (by unfold vp_in; decide) rfl ?_
  refine c_dup dm_init_777 rfl ?_
  refine c_bipush (x := 119) dm_init_778 rfl ?_
  refine c_bipush (x := 101) dm_init_780 rfl ?_
  refine c_iast (N := 141) (cc := (20, 141, [], wz_126, zn)) dm_init_782 (Nat.le_of_ble_eq_true rfl) rfl rfl (by unfold vp_in; decide) rfl ?_
  refine c_dup dm_init_783 rfl ?_
  refine c_bipush (x := 120) dm_init_784 rfl ?_
  refine c_bipush (x := 32) dm_init_786 rfl ?_
  refine c_iast (N := 141) (cc := (20, 141, [], wz_127, zn)) dm_init_788 (Nat.le_of_ble_eq_true rfl) rfl rfl (by unfold vp_in; decide) rfl ?_
  refine c_dup dm_init_789 rfl ?_
  refine c_bipush (x := 121) dm_init_790 rfl ?_
  refine c_bipush (x := 119) dm_init_792 rfl ?_
  refine c_iast (N := 141) (cc := (20, 141, [], wz_128, zn)) dm_init_794 (Nat.le_of_ble_eq_true rfl) rfl rfl (by unfold vp_in; decide) rfl ?_
  refine c_dup dm_init_795 rfl ?_
  refine c_bipush (x := 122) dm_init_796 rfl ?_
  refine c_bipush (x := 101) dm_init_798 rfl ?_
  refine c_iast (N := 141) (cc := (20, 141, [], wz_129, zn)) dm_init_800 (Nat.le_of_ble_eq_true rfl) rfl rfl (by unfold vp_in; decide) rfl ?_
  refine c_dup dm_init_801 rfl ?_
  refine c_bipush (x := 123) dm_init_802 rfl ?_
  refine c_bipush (x := 100) dm_init_804 rfl ?_
  refine c_iast (N := 141) (cc := (20, 141, [], wz_130, zn)) dm_init_806 (Nat.le_of_ble_eq_true rfl) rfl rfl (by unfold vp_in; decide) rfl ?_
  refine c_dup dm_init_807 rfl ?_
  refine c_bipush (x := 124) dm_init_808 rfl ?_
  refine c_bipush (x := 32) dm_init_810 rfl ?_
  refine c_iast (N := 141) (cc := (20, 141, [], wz_131, zn)) dm_init_812 (Nat.le_of_ble_eq_true rfl) rfl rfl (by unfold vp_in; decide) rfl ?_
  refine c_dup dm_init_813 rfl ?_
  refine c_bipush (x := 125) dm_init_814 rfl ?_
  refine c_bipush (x := 114) dm_init_816 rfl ?_
  refine c_iast (N := 141) (cc := (20, 141, [], wz_132, zn)) dm_init_818 (Nat.le_of_ble_eq_true rfl) rfl rfl (by unfold vp_in; decide) rfl ?_
  refine c_dup dm_init_819 rfl ?_
  refine c_bipush (x := 126) dm_init_820 rfl ?_
  refine c_bipush (x := 97) dm_init_822 rfl ?_
  refine c_iast (N := 141) (cc := (20, 141, [], wz_133, zn)) dm_init_824 (Nat.le_of_ble_eq_true rfl) rfl rfl (by unfold vp_in; decide) rfl ?_
  refine c_dup dm_init_825 rfl ?_
  refine c_bipush (x := 127) dm_init_826 rfl ?_
  refine c_bipush (x := 122) dm_init_828 rfl ?_
  refine c_iast (N := 141) (cc := (20, 141, [], wz_134, zn)) dm_init_830 (Nat.le_of_ble_eq_true rfl) rfl rfl (by unfold vp_in; decide) rfl ?_
  refine c_dup dm_init_831 rfl ?_
  refine c_sipush (x := 128) dm_init_832 rfl ?_
  refine c_bipush (x := 101) dm_init_835 rfl ?_
  refine c_iast (N := 141) (cc := (20, 141, [], wz_135, zn)) dm_init_837 (Nat.le_of_ble_eq_true rfl) rfl rfl (by unfold vp_in; decide) rfl ?_
  refine c_dup dm_init_838 rfl ?_
  refine c_sipush (x := 129) dm_init_839 rfl ?_
  refine c_bipush (x := 32) dm_init_842 rfl ?_
  refine c_iast (N := 141) (cc := (20, 141, [], wz_136, zn)) dm_init_844 (Nat.le_of_ble_eq_true rfl) rfl rfl (by unfold vp_in; decide) rfl ?_
  refine c_dup dm_init_845 rfl ?_
  refine c_sipush (x := 130) dm_init_846 rfl ?_
  refine c_bipush (x := 104) dm_init_849 rfl ?_
  refine c_iast (N := 141) (cc := (20, 141, [], wz_137, zn)) dm_init_851 (Nat.le_of_ble_eq_true rfl) rfl rfl (by unfold vp_in; decide) rfl ?_
  refine c_dup dm_init_852 rfl ?_
  refine c_sipush (x := 131) dm_init_853 rfl ?_
  refine c_bipush (x := 111) dm_init_856 rfl ?_
  refine c_iast (N := 141) (cc := (20, 141, [], wz_138, zn)) dm_init_858 (Nat.le_of_ble_eq_true rfl) rfl rfl (by unfold vp_in; decide) rfl ?_
  refine c_dup dm_init_859 rfl ?_
  refine c_sipush (x := 132) dm_init_860 rfl ?_
  refine c_bipush (x := 117) dm_init_863 rfl ?_
  refine c_iast (N := 141) (cc := (20, 141, [], wz_139, zn)) dm_init_865 (Nat.le_of_ble_eq_true rfl) rfl rfl (by unfold vp_in; decide) rfl ?_
  refine c_dup dm_init_866 rfl ?_
  refine c_sipush (x := 133) dm_init_867 rfl ?_
  refine c_bipush (x := 115) dm_init_870 rfl ?_
  refine c_iast (N := 141) (cc := (20, 141, [], wz_140, zn)) dm_init_872 (Nat.le_of_ble_eq_true rfl) rfl rfl (by unfold vp_in; decide) rfl ?_
  refine c_dup dm_init_873 rfl ?_
  refine c_sipush (x := 134) dm_init_874 rfl ?_
  refine c_bipush (x := 101) dm_init_877 rfl ?_
  refine c_iast (N := 141) (cc := (20, 141, [], wz_141, zn)) dm_init_879 (Nat.le_of_ble_eq_true rfl) rfl rfl (by unfold vp_in; decide) rfl ?_
  refine c_dup dm_init_880 rfl ?_
  refine c_sipush (x := 135) dm_init_881 rfl ?_
  refine c_bipush (x := 32) dm_init_884 rfl ?_
  refine c_iast (N := 141) (cc := (20, 141, [], wz_142, zn)) dm_init_886 (Nat.le_of_ble_eq_true rfl) rfl rfl (by unfold vp_in; decide) rfl ?_
  refine c_dup dm_init_887 rfl ?_
  refine c_sipush (x := 136) dm_init_888 rfl ?_
  refine c_bipush (x := 110) dm_init_891 rfl ?_
  refine c_iast (N := 141) (cc := (20, 141, [], wz_143, zn)) dm_init_893 (Nat.le_of_ble_eq_true rfl) rfl rfl (by unfold vp_in; decide) rfl ?_
  refine c_dup dm_init_894 rfl ?_
  refine c_sipush (x := 137) dm_init_895 rfl ?_
  refine c_bipush (x := 101) dm_init_898 rfl ?_
  refine c_iast (N := 141) (cc := (20, 141, [], wz_144, zn)) dm_init_900 (Nat.le_of_ble_eq_true rfl) rfl rfl (by unfold vp_in; decide) rfl ?_
  refine c_dup dm_init_901 rfl ?_
  refine c_sipush (x := 138) dm_init_902 rfl ?_
  refine c_bipush (x := 120) dm_init_905 rfl ?_
  refine c_iast (N := 141) (cc := (20, 141, [], wz_145, zn)) dm_init_907 (Nat.le_of_ble_eq_true rfl) rfl rfl (by unfold vp_in; decide) rfl ?_
  refine c_dup dm_init_908 rfl ?_
  refine c_sipush (x := 139) dm_init_909 rfl ?_
  refine c_bipush (x := 116) dm_init_912 rfl ?_
  refine c_iast (N := 141) (cc := (20, 141, [], wz_146, zn)) dm_init_914 (Nat.le_of_ble_eq_true rfl) rfl rfl (by unfold vp_in; decide) rfl ?_
  refine c_dup dm_init_915 rfl ?_
  refine c_sipush (x := 140) dm_init_916 rfl ?_
  refine c_bipush (x := 32) dm_init_919 rfl ?_
  refine c_iast (N := 141) (cc := (20, 141, [], wz_147, zn)) dm_init_921 (Nat.le_of_ble_eq_true rfl) rfl rfl (by unfold vp_in; decide) rfl ?_
  refine c_put (w := .ref 112) (cc := (12, 75, [.int 0, .ref 105, .ref 106, .int 0, .ref 107, .int 0, .int 0, .ref 108, .ref 109, .ref 110, .ref 111, .int 0, .int 0, .int 0, .int 0, .int 0, .ref 112, .null, .null, .null, .null, .null, .null, .null, .int 0, .int 0, .int 0, .null, .int 0, .int 0, .int 0, .int 0, .int 0, .int 0, .null, .int 0, .null, .int 0, .null, .null, .null, .null, .int 0, .null, .null, .int 0, .null, .null, .null, .int 0, .null, .int 0, .null, .null, .int 0, .null, .null, .int 0, .null, .null, .null, .null, .int 0, .null, .null, .null, .int 0, .null, .null, .null, .null, .int 0, .int 0, .int 0, .null], z0, zn)) dm_init_922 fum_31 ⟨_, _, _, _, rfl, rfl, rfl, rfl⟩ hc_12 (Nat.le_of_ble_eq_true rfl) rfl (Nat.le_of_ble_eq_true rfl) rfl rfl ?_
  refine c_aload (i := 0) dm_init_925 rfl ?_
  refine c_iconst (x := 2) dm_init_926 rfl ?_
  refine c_newi (N := 2) dm_init_927 ar_i (by decide) rfl (by decide) (Nat.le_of_ble_eq_true rfl) (Nat.le_of_ble_eq_true rfl) ?_
  refine c_put (w := .ref 113) (cc := (12, 75, [.int 0, .ref 105, .ref 106, .int 0, .ref 107, .int 0, .int 0, .ref 108, .ref 109, .ref 110, .ref 111, .int 0, .int 0, .int 0, .int 0, .int 0, .ref 112, .ref 113, .null, .null, .null, .null, .null, .null, .int 0, .int 0, .int 0, .null, .int 0, .int 0, .int 0, .int 0, .int 0, .int 0, .null, .int 0, .null, .int 0, .null, .null, .null, .null, .int 0, .null, .null, .int 0, .null, .null, .null, .int 0, .null, .int 0, .null, .null, .int 0, .null, .null, .int 0, .null, .null, .null, .null, .int 0, .null, .null, .null, .int 0, .null, .null, .null, .null, .int 0, .int 0, .int 0, .null], z0, zn)) dm_init_929 fum_34 ⟨_, _, _, _, rfl, rfl, rfl, rfl⟩ hc_12 (Nat.le_of_ble_eq_true rfl) rfl (Nat.le_of_ble_eq_true rfl) rfl rfl ?_
  refine c_aload (i := 0) dm_init_932 rfl ?_
  refine c_bipush (x := 48) dm_init_933 rfl ?_
  refine c_newi (N := 48) dm_init_935 ar_i (by decide) rfl (by decide) (Nat.le_of_ble_eq_true rfl) (Nat.le_of_ble_eq_true rfl) ?_
  refine c_put (w := .ref 114) (cc := (12, 75, [.int 0, .ref 105, .ref 106, .int 0, .ref 107, .int 0, .int 0, .ref 108, .ref 109, .ref 110, .ref 111, .int 0, .int 0, .int 0, .int 0, .int 0, .ref 112, .ref 113, .ref 114, .null, .null, .null, .null, .null, .int 0, .int 0, .int 0, .null, .int 0, .int 0, .int 0, .int 0, .int 0, .int 0, .null, .int 0, .null, .int 0, .null, .null, .null, .null, .int 0, .null, .null, .int 0, .null, .null, .null, .int 0, .null, .int 0, .null, .null, .int 0, .null, .null, .int 0, .null, .null, .null, .null, .int 0, .null, .null, .null, .int 0, .null, .null, .null, .null, .int 0, .int 0, .int 0, .null], z0, zn)) dm_init_937 fum_37 ⟨_, _, _, _, rfl, rfl, rfl, rfl⟩ hc_12 (Nat.le_of_ble_eq_true rfl) rfl (Nat.le_of_ble_eq_true rfl) rfl rfl ?_
  refine c_aload (i := 0) dm_init_940 rfl ?_
  refine c_bipush (x := 48) dm_init_941 rfl ?_
  refine c_newi (N := 48) dm_init_943 ar_i (by decide) rfl (by decide) (Nat.le_of_ble_eq_true rfl) (Nat.le_of_ble_eq_true rfl) ?_
  refine c_put (w := .ref 115) (cc := (12, 75, [.int 0, .ref 105, .ref 106, .int 0, .ref 107, .int 0, .int 0, .ref 108, .ref 109, .ref 110, .ref 111, .int 0, .int 0, .int 0, .int 0, .int 0, .ref 112, .ref 113, .ref 114, .ref 115, .null, .null, .null, .null, .int 0, .int 0, .int 0, .null, .int 0, .int 0, .int 0, .int 0, .int 0, .int 0, .null, .int 0, .null, .int 0, .null, .null, .null, .null, .int 0, .null, .null, .int 0, .null, .null, .null, .int 0, .null, .int 0, .null, .null, .int 0, .null, .null, .int 0, .null, .null, .null, .null, .int 0, .null, .null, .null, .int 0, .null, .null, .null, .null, .int 0, .int 0, .int 0, .null], z0, zn)) dm_init_945 fum_40 ⟨_, _, _, _, rfl, rfl, rfl, rfl⟩ hc_12 (Nat.le_of_ble_eq_true rfl) rfl (Nat.le_of_ble_eq_true rfl) rfl rfl ?_
  refine c_aload (i := 0) dm_init_948 rfl ?_
  refine c_bipush (x := 48) dm_init_949 rfl ?_
  refine c_newi (N := 48) dm_init_951 ar_i (by decide) rfl (by decide) (Nat.le_of_ble_eq_true rfl) (Nat.le_of_ble_eq_true rfl) ?_
  refine c_put (w := .ref 116) (cc := (12, 75, [.int 0, .ref 105, .ref 106, .int 0, .ref 107, .int 0, .int 0, .ref 108, .ref 109, .ref 110, .ref 111, .int 0, .int 0, .int 0, .int 0, .int 0, .ref 112, .ref 113, .ref 114, .ref 115, .ref 116, .null, .null, .null, .int 0, .int 0, .int 0, .null, .int 0, .int 0, .int 0, .int 0, .int 0, .int 0, .null, .int 0, .null, .int 0, .null, .null, .null, .null, .int 0, .null, .null, .int 0, .null, .null, .null, .int 0, .null, .int 0, .null, .null, .int 0, .null, .null, .int 0, .null, .null, .null, .null, .int 0, .null, .null, .null, .int 0, .null, .null, .null, .null, .int 0, .int 0, .int 0, .null], z0, zn)) dm_init_953 fum_43 ⟨_, _, _, _, rfl, rfl, rfl, rfl⟩ hc_12 (Nat.le_of_ble_eq_true rfl) rfl (Nat.le_of_ble_eq_true rfl) rfl rfl ?_
  refine c_aload (i := 0) dm_init_956 rfl ?_
  refine c_bipush (x := 48) dm_init_957 rfl ?_
  refine c_newi (N := 48) dm_init_959 ar_i (by decide) rfl (by decide) (Nat.le_of_ble_eq_true rfl) (Nat.le_of_ble_eq_true rfl) ?_
  refine c_put (w := .ref 117) (cc := (12, 75, [.int 0, .ref 105, .ref 106, .int 0, .ref 107, .int 0, .int 0, .ref 108, .ref 109, .ref 110, .ref 111, .int 0, .int 0, .int 0, .int 0, .int 0, .ref 112, .ref 113, .ref 114, .ref 115, .ref 116, .ref 117, .null, .null, .int 0, .int 0, .int 0, .null, .int 0, .int 0, .int 0, .int 0, .int 0, .int 0, .null, .int 0, .null, .int 0, .null, .null, .null, .null, .int 0, .null, .null, .int 0, .null, .null, .null, .int 0, .null, .int 0, .null, .null, .int 0, .null, .null, .int 0, .null, .null, .null, .null, .int 0, .null, .null, .null, .int 0, .null, .null, .null, .null, .int 0, .int 0, .int 0, .null], z0, zn)) dm_init_961 fum_46 ⟨_, _, _, _, rfl, rfl, rfl, rfl⟩ hc_12 (Nat.le_of_ble_eq_true rfl) rfl (Nat.le_of_ble_eq_true rfl) rfl rfl ?_
  refine c_aload (i := 0) dm_init_964 rfl ?_
  refine c_sipush (x := 1200) dm_init_965 rfl ?_
  refine c_newi (N := 1200) dm_init_968 ar_i (by decide) rfl (by decide) (Nat.le_of_ble_eq_true rfl) (Nat.le_of_ble_eq_true rfl) ?_
  refine c_put (w := .ref 118) (cc := (12, 75, [.int 0, .ref 105, .ref 106, .int 0, .ref 107, .int 0, .int 0, .ref 108, .ref 109, .ref 110, .ref 111, .int 0, .int 0, .int 0, .int 0, .int 0, .ref 112, .ref 113, .ref 114, .ref 115, .ref 116, .ref 117, .ref 118, .null, .int 0, .int 0, .int 0, .null, .int 0, .int 0, .int 0, .int 0, .int 0, .int 0, .null, .int 0, .null, .int 0, .null, .null, .null, .null, .int 0, .null, .null, .int 0, .null, .null, .null, .int 0, .null, .int 0, .null, .null, .int 0, .null, .null, .int 0, .null, .null, .null, .null, .int 0, .null, .null, .null, .int 0, .null, .null, .null, .null, .int 0, .int 0, .int 0, .null], z0, zn)) dm_init_970 fum_49 ⟨_, _, _, _, rfl, rfl, rfl, rfl⟩ hc_12 (Nat.le_of_ble_eq_true rfl) rfl (Nat.le_of_ble_eq_true rfl) rfl rfl ?_
  refine c_aload (i := 0) dm_init_973 rfl ?_
  refine c_sipush (x := 1200) dm_init_974 rfl ?_
  refine c_newi (N := 1200) dm_init_977 ar_i (by decide) rfl (by decide) (Nat.le_of_ble_eq_true rfl) (Nat.le_of_ble_eq_true rfl) ?_
  refine c_put (w := .ref 119) (cc := (12, 75, [.int 0, .ref 105, .ref 106, .int 0, .ref 107, .int 0, .int 0, .ref 108, .ref 109, .ref 110, .ref 111, .int 0, .int 0, .int 0, .int 0, .int 0, .ref 112, .ref 113, .ref 114, .ref 115, .ref 116, .ref 117, .ref 118, .ref 119, .int 0, .int 0, .int 0, .null, .int 0, .int 0, .int 0, .int 0, .int 0, .int 0, .null, .int 0, .null, .int 0, .null, .null, .null, .null, .int 0, .null, .null, .int 0, .null, .null, .null, .int 0, .null, .int 0, .null, .null, .int 0, .null, .null, .int 0, .null, .null, .null, .null, .int 0, .null, .null, .null, .int 0, .null, .null, .null, .null, .int 0, .int 0, .int 0, .null], z0, zn)) dm_init_979 fum_52 ⟨_, _, _, _, rfl, rfl, rfl, rfl⟩ hc_12 (Nat.le_of_ble_eq_true rfl) rfl (Nat.le_of_ble_eq_true rfl) rfl rfl ?_
  refine c_aload (i := 0) dm_init_982 rfl ?_
  refine c_bipush (x := 40) dm_init_983 rfl ?_
  refine c_newi (N := 40) dm_init_985 ar_i (by decide) rfl (by decide) (Nat.le_of_ble_eq_true rfl) (Nat.le_of_ble_eq_true rfl) ?_
  refine c_put (w := .ref 120) (cc := (12, 75, [.int 0, .ref 105, .ref 106, .int 0, .ref 107, .int 0, .int 0, .ref 108, .ref 109, .ref 110, .ref 111, .int 0, .int 0, .int 0, .int 0, .int 0, .ref 112, .ref 113, .ref 114, .ref 115, .ref 116, .ref 117, .ref 118, .ref 119, .int 0, .int 0, .int 0, .ref 120, .int 0, .int 0, .int 0, .int 0, .int 0, .int 0, .null, .int 0, .null, .int 0, .null, .null, .null, .null, .int 0, .null, .null, .int 0, .null, .null, .null, .int 0, .null, .int 0, .null, .null, .int 0, .null, .null, .int 0, .null, .null, .null, .null, .int 0, .null, .null, .null, .int 0, .null, .null, .null, .null, .int 0, .int 0, .int 0, .null], z0, zn)) dm_init_987 fum_55 ⟨_, _, _, _, rfl, rfl, rfl, rfl⟩ hc_12 (Nat.le_of_ble_eq_true rfl) rfl (Nat.le_of_ble_eq_true rfl) rfl rfl ?_
  refine c_aload (i := 0) dm_init_990 rfl ?_
  refine c_iconst (x := (-1)) dm_init_991 rfl ?_
  refine c_put (w := .int (-1)) (cc := (12, 75, [.int 0, .ref 105, .ref 106, .int 0, .ref 107, .int 0, .int 0, .ref 108, .ref 109, .ref 110, .ref 111, .int 0, .int 0, .int 0, .int 0, .int 0, .ref 112, .ref 113, .ref 114, .ref 115, .ref 116, .ref 117, .ref 118, .ref 119, .int 0, .int 0, .int 0, .ref 120, .int 0, .int 0, .int 0, .int 0, .int (-1), .int 0, .null, .int 0, .null, .int 0, .null, .null, .null, .null, .int 0, .null, .null, .int 0, .null, .null, .null, .int 0, .null, .int 0, .null, .null, .int 0, .null, .null, .int 0, .null, .null, .null, .null, .int 0, .null, .null, .null, .int 0, .null, .null, .null, .null, .int 0, .int 0, .int 0, .null], z0, zn)) dm_init_992 fum_58 ⟨_, _, _, _, rfl, rfl, rfl, rfl⟩ hc_12 (Nat.le_of_ble_eq_true rfl) rfl (Nat.le_of_ble_eq_true rfl) rfl rfl ?_
  refine c_aload (i := 0) dm_init_995 rfl ?_
  refine c_bipush (x := 96) dm_init_996 rfl ?_
  refine c_newi (N := 96) dm_init_998 ar_i (by decide) rfl (by decide) (Nat.le_of_ble_eq_true rfl) (Nat.le_of_ble_eq_true rfl) ?_
  refine c_put (w := .ref 121) (cc := (12, 75, [.int 0, .ref 105, .ref 106, .int 0, .ref 107, .int 0, .int 0, .ref 108, .ref 109, .ref 110, .ref 111, .int 0, .int 0, .int 0, .int 0, .int 0, .ref 112, .ref 113, .ref 114, .ref 115, .ref 116, .ref 117, .ref 118, .ref 119, .int 0, .int 0, .int 0, .ref 120, .int 0, .int 0, .int 0, .int 0, .int (-1), .int 0, .ref 121, .int 0, .null, .int 0, .null, .null, .null, .null, .int 0, .null, .null, .int 0, .null, .null, .null, .int 0, .null, .int 0, .null, .null, .int 0, .null, .null, .int 0, .null, .null, .null, .null, .int 0, .null, .null, .null, .int 0, .null, .null, .null, .null, .int 0, .int 0, .int 0, .null], z0, zn)) dm_init_1000 fum_62 ⟨_, _, _, _, rfl, rfl, rfl, rfl⟩ hc_12 (Nat.le_of_ble_eq_true rfl) rfl (Nat.le_of_ble_eq_true rfl) rfl rfl ?_
  refine c_aload (i := 0) dm_init_1003 rfl ?_
  refine c_sipush (x := 160) dm_init_1004 rfl ?_
  refine c_newi (N := 160) dm_init_1007 ar_i (by decide) rfl (by decide) (Nat.le_of_ble_eq_true rfl) (Nat.le_of_ble_eq_true rfl) ?_
  refine c_put (w := .ref 122) (cc := (12, 75, [.int 0, .ref 105, .ref 106, .int 0, .ref 107, .int 0, .int 0, .ref 108, .ref 109, .ref 110, .ref 111, .int 0, .int 0, .int 0, .int 0, .int 0, .ref 112, .ref 113, .ref 114, .ref 115, .ref 116, .ref 117, .ref 118, .ref 119, .int 0, .int 0, .int 0, .ref 120, .int 0, .int 0, .int 0, .int 0, .int (-1), .int 0, .ref 121, .int 0, .ref 122, .int 0, .null, .null, .null, .null, .int 0, .null, .null, .int 0, .null, .null, .null, .int 0, .null, .int 0, .null, .null, .int 0, .null, .null, .int 0, .null, .null, .null, .null, .int 0, .null, .null, .null, .int 0, .null, .null, .null, .null, .int 0, .int 0, .int 0, .null], z0, zn)) dm_init_1009 fum_65 ⟨_, _, _, _, rfl, rfl, rfl, rfl⟩ hc_12 (Nat.le_of_ble_eq_true rfl) rfl (Nat.le_of_ble_eq_true rfl) rfl rfl ?_
  refine c_aload (i := 0) dm_init_1012 rfl ?_
  refine c_bipush (x := 24) dm_init_1013 rfl ?_
  refine c_newi (N := 24) dm_init_1015 ar_i (by decide) rfl (by decide) (Nat.le_of_ble_eq_true rfl) (Nat.le_of_ble_eq_true rfl) ?_
  refine c_put (w := .ref 123) (cc := (12, 75, [.int 0, .ref 105, .ref 106, .int 0, .ref 107, .int 0, .int 0, .ref 108, .ref 109, .ref 110, .ref 111, .int 0, .int 0, .int 0, .int 0, .int 0, .ref 112, .ref 113, .ref 114, .ref 115, .ref 116, .ref 117, .ref 118, .ref 119, .int 0, .int 0, .int 0, .ref 120, .int 0, .int 0, .int 0, .int 0, .int (-1), .int 0, .ref 121, .int 0, .ref 122, .int 0, .ref 123, .null, .null, .null, .int 0, .null, .null, .int 0, .null, .null, .null, .int 0, .null, .int 0, .null, .null, .int 0, .null, .null, .int 0, .null, .null, .null, .null, .int 0, .null, .null, .null, .int 0, .null, .null, .null, .null, .int 0, .int 0, .int 0, .null], z0, zn)) dm_init_1017 fum_68 ⟨_, _, _, _, rfl, rfl, rfl, rfl⟩ hc_12 (Nat.le_of_ble_eq_true rfl) rfl (Nat.le_of_ble_eq_true rfl) rfl rfl ?_
  refine c_aload (i := 0) dm_init_1020 rfl ?_
  refine c_bipush (x := 12) dm_init_1021 rfl ?_
  refine c_newi (N := 12) dm_init_1023 ar_i (by decide) rfl (by decide) (Nat.le_of_ble_eq_true rfl) (Nat.le_of_ble_eq_true rfl) ?_
  refine c_put (w := .ref 124) (cc := (12, 75, [.int 0, .ref 105, .ref 106, .int 0, .ref 107, .int 0, .int 0, .ref 108, .ref 109, .ref 110, .ref 111, .int 0, .int 0, .int 0, .int 0, .int 0, .ref 112, .ref 113, .ref 114, .ref 115, .ref 116, .ref 117, .ref 118, .ref 119, .int 0, .int 0, .int 0, .ref 120, .int 0, .int 0, .int 0, .int 0, .int (-1), .int 0, .ref 121, .int 0, .ref 122, .int 0, .ref 123, .ref 124, .null, .null, .int 0, .null, .null, .int 0, .null, .null, .null, .int 0, .null, .int 0, .null, .null, .int 0, .null, .null, .int 0, .null, .null, .null, .null, .int 0, .null, .null, .null, .int 0, .null, .null, .null, .null, .int 0, .int 0, .int 0, .null], z0, zn)) dm_init_1025 fum_71 ⟨_, _, _, _, rfl, rfl, rfl, rfl⟩ hc_12 (Nat.le_of_ble_eq_true rfl) rfl (Nat.le_of_ble_eq_true rfl) rfl rfl ?_
  refine c_aload (i := 0) dm_init_1028 rfl ?_
  refine c_sipush (x := 420) dm_init_1029 rfl ?_
  refine c_newi (N := 420) dm_init_1032 ar_i (by decide) rfl (by decide) (Nat.le_of_ble_eq_true rfl) (Nat.le_of_ble_eq_true rfl) ?_
  refine c_put (w := .ref 125) (cc := (12, 75, [.int 0, .ref 105, .ref 106, .int 0, .ref 107, .int 0, .int 0, .ref 108, .ref 109, .ref 110, .ref 111, .int 0, .int 0, .int 0, .int 0, .int 0, .ref 112, .ref 113, .ref 114, .ref 115, .ref 116, .ref 117, .ref 118, .ref 119, .int 0, .int 0, .int 0, .ref 120, .int 0, .int 0, .int 0, .int 0, .int (-1), .int 0, .ref 121, .int 0, .ref 122, .int 0, .ref 123, .ref 124, .ref 125, .null, .int 0, .null, .null, .int 0, .null, .null, .null, .int 0, .null, .int 0, .null, .null, .int 0, .null, .null, .int 0, .null, .null, .null, .null, .int 0, .null, .null, .null, .int 0, .null, .null, .null, .null, .int 0, .int 0, .int 0, .null], z0, zn)) dm_init_1034 fum_74 ⟨_, _, _, _, rfl, rfl, rfl, rfl⟩ hc_12 (Nat.le_of_ble_eq_true rfl) rfl (Nat.le_of_ble_eq_true rfl) rfl rfl ?_
  refine c_aload (i := 0) dm_init_1037 rfl ?_
  refine c_bipush (x := 12) dm_init_1038 rfl ?_
  refine c_newi (N := 12) dm_init_1040 ar_i (by decide) rfl (by decide) (Nat.le_of_ble_eq_true rfl) (Nat.le_of_ble_eq_true rfl) ?_
  refine c_put (w := .ref 126) (cc := (12, 75, [.int 0, .ref 105, .ref 106, .int 0, .ref 107, .int 0, .int 0, .ref 108, .ref 109, .ref 110, .ref 111, .int 0, .int 0, .int 0, .int 0, .int 0, .ref 112, .ref 113, .ref 114, .ref 115, .ref 116, .ref 117, .ref 118, .ref 119, .int 0, .int 0, .int 0, .ref 120, .int 0, .int 0, .int 0, .int 0, .int (-1), .int 0, .ref 121, .int 0, .ref 122, .int 0, .ref 123, .ref 124, .ref 125, .ref 126, .int 0, .null, .null, .int 0, .null, .null, .null, .int 0, .null, .int 0, .null, .null, .int 0, .null, .null, .int 0, .null, .null, .null, .null, .int 0, .null, .null, .null, .int 0, .null, .null, .null, .null, .int 0, .int 0, .int 0, .null], z0, zn)) dm_init_1042 fum_77 ⟨_, _, _, _, rfl, rfl, rfl, rfl⟩ hc_12 (Nat.le_of_ble_eq_true rfl) rfl (Nat.le_of_ble_eq_true rfl) rfl rfl ?_
  refine c_aload (i := 0) dm_init_1045 rfl ?_
  refine c_bipush (x := 9) dm_init_1046 rfl ?_
  refine c_newi (N := 9) dm_init_1048 ar_i (by decide) rfl (by decide) (Nat.le_of_ble_eq_true rfl) (Nat.le_of_ble_eq_true rfl) ?_
  refine c_put (w := .ref 127) (cc := (12, 75, [.int 0, .ref 105, .ref 106, .int 0, .ref 107, .int 0, .int 0, .ref 108, .ref 109, .ref 110, .ref 111, .int 0, .int 0, .int 0, .int 0, .int 0, .ref 112, .ref 113, .ref 114, .ref 115, .ref 116, .ref 117, .ref 118, .ref 119, .int 0, .int 0, .int 0, .ref 120, .int 0, .int 0, .int 0, .int 0, .int (-1), .int 0, .ref 121, .int 0, .ref 122, .int 0, .ref 123, .ref 124, .ref 125, .ref 126, .int 0, .ref 127, .null, .int 0, .null, .null, .null, .int 0, .null, .int 0, .null, .null, .int 0, .null, .null, .int 0, .null, .null, .null, .null, .int 0, .null, .null, .null, .int 0, .null, .null, .null, .null, .int 0, .int 0, .int 0, .null], z0, zn)) dm_init_1050 fum_80 ⟨_, _, _, _, rfl, rfl, rfl, rfl⟩ hc_12 (Nat.le_of_ble_eq_true rfl) rfl (Nat.le_of_ble_eq_true rfl) rfl rfl ?_
  refine c_aload (i := 0) dm_init_1053 rfl ?_
  refine c_bipush (x := 100) dm_init_1054 rfl ?_
  refine c_newi (N := 100) dm_init_1056 ar_i (by decide) rfl (by decide) (Nat.le_of_ble_eq_true rfl) (Nat.le_of_ble_eq_true rfl) ?_
  refine c_put (w := .ref 128) (cc := (12, 75, [.int 0, .ref 105, .ref 106, .int 0, .ref 107, .int 0, .int 0, .ref 108, .ref 109, .ref 110, .ref 111, .int 0, .int 0, .int 0, .int 0, .int 0, .ref 112, .ref 113, .ref 114, .ref 115, .ref 116, .ref 117, .ref 118, .ref 119, .int 0, .int 0, .int 0, .ref 120, .int 0, .int 0, .int 0, .int 0, .int (-1), .int 0, .ref 121, .int 0, .ref 122, .int 0, .ref 123, .ref 124, .ref 125, .ref 126, .int 0, .ref 127, .ref 128, .int 0, .null, .null, .null, .int 0, .null, .int 0, .null, .null, .int 0, .null, .null, .int 0, .null, .null, .null, .null, .int 0, .null, .null, .null, .int 0, .null, .null, .null, .null, .int 0, .int 0, .int 0, .null], z0, zn)) dm_init_1058 fum_83 ⟨_, _, _, _, rfl, rfl, rfl, rfl⟩ hc_12 (Nat.le_of_ble_eq_true rfl) rfl (Nat.le_of_ble_eq_true rfl) rfl rfl ?_
  refine c_aload (i := 0) dm_init_1061 rfl ?_
  refine c_bipush (x := 8) dm_init_1062 rfl ?_
  refine c_newi (N := 8) dm_init_1064 ar_i (by decide) rfl (by decide) (Nat.le_of_ble_eq_true rfl) (Nat.le_of_ble_eq_true rfl) ?_
  refine c_put (w := .ref 129) (cc := (12, 75, [.int 0, .ref 105, .ref 106, .int 0, .ref 107, .int 0, .int 0, .ref 108, .ref 109, .ref 110, .ref 111, .int 0, .int 0, .int 0, .int 0, .int 0, .ref 112, .ref 113, .ref 114, .ref 115, .ref 116, .ref 117, .ref 118, .ref 119, .int 0, .int 0, .int 0, .ref 120, .int 0, .int 0, .int 0, .int 0, .int (-1), .int 0, .ref 121, .int 0, .ref 122, .int 0, .ref 123, .ref 124, .ref 125, .ref 126, .int 0, .ref 127, .ref 128, .int 0, .ref 129, .null, .null, .int 0, .null, .int 0, .null, .null, .int 0, .null, .null, .int 0, .null, .null, .null, .null, .int 0, .null, .null, .null, .int 0, .null, .null, .null, .null, .int 0, .int 0, .int 0, .null], z0, zn)) dm_init_1066 fum_86 ⟨_, _, _, _, rfl, rfl, rfl, rfl⟩ hc_12 (Nat.le_of_ble_eq_true rfl) rfl (Nat.le_of_ble_eq_true rfl) rfl rfl ?_
  refine c_aload (i := 0) dm_init_1069 rfl ?_
  refine c_sipush (x := 256) dm_init_1070 rfl ?_
  refine c_newi (N := 256) dm_init_1073 ar_i (by decide) rfl (by decide) (Nat.le_of_ble_eq_true rfl) (Nat.le_of_ble_eq_true rfl) ?_
  refine c_put (w := .ref 130) (cc := (12, 75, [.int 0, .ref 105, .ref 106, .int 0, .ref 107, .int 0, .int 0, .ref 108, .ref 109, .ref 110, .ref 111, .int 0, .int 0, .int 0, .int 0, .int 0, .ref 112, .ref 113, .ref 114, .ref 115, .ref 116, .ref 117, .ref 118, .ref 119, .int 0, .int 0, .int 0, .ref 120, .int 0, .int 0, .int 0, .int 0, .int (-1), .int 0, .ref 121, .int 0, .ref 122, .int 0, .ref 123, .ref 124, .ref 125, .ref 126, .int 0, .ref 127, .ref 128, .int 0, .ref 129, .ref 130, .null, .int 0, .null, .int 0, .null, .null, .int 0, .null, .null, .int 0, .null, .null, .null, .null, .int 0, .null, .null, .null, .int 0, .null, .null, .null, .null, .int 0, .int 0, .int 0, .null], z0, zn)) dm_init_1075 fum_89 ⟨_, _, _, _, rfl, rfl, rfl, rfl⟩ hc_12 (Nat.le_of_ble_eq_true rfl) rfl (Nat.le_of_ble_eq_true rfl) rfl rfl ?_
  refine c_aload (i := 0) dm_init_1078 rfl ?_
  refine c_bipush (x := 8) dm_init_1079 rfl ?_
  refine c_newi (N := 8) dm_init_1081 ar_i (by decide) rfl (by decide) (Nat.le_of_ble_eq_true rfl) (Nat.le_of_ble_eq_true rfl) ?_
  refine c_put (w := .ref 131) (cc := (12, 75, [.int 0, .ref 105, .ref 106, .int 0, .ref 107, .int 0, .int 0, .ref 108, .ref 109, .ref 110, .ref 111, .int 0, .int 0, .int 0, .int 0, .int 0, .ref 112, .ref 113, .ref 114, .ref 115, .ref 116, .ref 117, .ref 118, .ref 119, .int 0, .int 0, .int 0, .ref 120, .int 0, .int 0, .int 0, .int 0, .int (-1), .int 0, .ref 121, .int 0, .ref 122, .int 0, .ref 123, .ref 124, .ref 125, .ref 126, .int 0, .ref 127, .ref 128, .int 0, .ref 129, .ref 130, .ref 131, .int 0, .null, .int 0, .null, .null, .int 0, .null, .null, .int 0, .null, .null, .null, .null, .int 0, .null, .null, .null, .int 0, .null, .null, .null, .null, .int 0, .int 0, .int 0, .null], z0, zn)) dm_init_1083 fum_92 ⟨_, _, _, _, rfl, rfl, rfl, rfl⟩ hc_12 (Nat.le_of_ble_eq_true rfl) rfl (Nat.le_of_ble_eq_true rfl) rfl rfl ?_
  refine c_aload (i := 0) dm_init_1086 rfl ?_
  refine c_iconst (x := 5) dm_init_1087 rfl ?_
  refine c_newi (N := 5) dm_init_1088 ar_i (by decide) rfl (by decide) (Nat.le_of_ble_eq_true rfl) (Nat.le_of_ble_eq_true rfl) ?_
  refine c_put (w := .ref 132) (cc := (12, 75, [.int 0, .ref 105, .ref 106, .int 0, .ref 107, .int 0, .int 0, .ref 108, .ref 109, .ref 110, .ref 111, .int 0, .int 0, .int 0, .int 0, .int 0, .ref 112, .ref 113, .ref 114, .ref 115, .ref 116, .ref 117, .ref 118, .ref 119, .int 0, .int 0, .int 0, .ref 120, .int 0, .int 0, .int 0, .int 0, .int (-1), .int 0, .ref 121, .int 0, .ref 122, .int 0, .ref 123, .ref 124, .ref 125, .ref 126, .int 0, .ref 127, .ref 128, .int 0, .ref 129, .ref 130, .ref 131, .int 0, .ref 132, .int 0, .null, .null, .int 0, .null, .null, .int 0, .null, .null, .null, .null, .int 0, .null, .null, .null, .int 0, .null, .null, .null, .null, .int 0, .int 0, .int 0, .null], z0, zn)) dm_init_1090 fum_95 ⟨_, _, _, _, rfl, rfl, rfl, rfl⟩ hc_12 (Nat.le_of_ble_eq_true rfl) rfl (Nat.le_of_ble_eq_true rfl) rfl rfl ?_
  refine c_aload (i := 0) dm_init_1093 rfl ?_
  refine c_bipush (x := 8) dm_init_1094 rfl ?_
  refine c_newi (N := 8) dm_init_1096 ar_i (by decide) rfl (by decide) (Nat.le_of_ble_eq_true rfl) (Nat.le_of_ble_eq_true rfl) ?_
  refine c_put (w := .ref 133) (cc := (12, 75, [.int 0, .ref 105, .ref 106, .int 0, .ref 107, .int 0, .int 0, .ref 108, .ref 109, .ref 110, .ref 111, .int 0, .int 0, .int 0, .int 0, .int 0, .ref 112, .ref 113, .ref 114, .ref 115, .ref 116, .ref 117, .ref 118, .ref 119, .int 0, .int 0, .int 0, .ref 120, .int 0, .int 0, .int 0, .int 0, .int (-1), .int 0, .ref 121, .int 0, .ref 122, .int 0, .ref 123, .ref 124, .ref 125, .ref 126, .int 0, .ref 127, .ref 128, .int 0, .ref 129, .ref 130, .ref 131, .int 0, .ref 132, .int 0, .ref 133, .null, .int 0, .null, .null, .int 0, .null, .null, .null, .null, .int 0, .null, .null, .null, .int 0, .null, .null, .null, .null, .int 0, .int 0, .int 0, .null], z0, zn)) dm_init_1098 fum_98 ⟨_, _, _, _, rfl, rfl, rfl, rfl⟩ hc_12 (Nat.le_of_ble_eq_true rfl) rfl (Nat.le_of_ble_eq_true rfl) rfl rfl ?_
  refine c_aload (i := 0) dm_init_1101 rfl ?_
  refine c_bipush (x := 8) dm_init_1102 rfl ?_
  refine c_newi (N := 8) dm_init_1104 ar_i (by decide) rfl (by decide) (Nat.le_of_ble_eq_true rfl) (Nat.le_of_ble_eq_true rfl) ?_
  refine c_put (w := .ref 134) (cc := (12, 75, [.int 0, .ref 105, .ref 106, .int 0, .ref 107, .int 0, .int 0, .ref 108, .ref 109, .ref 110, .ref 111, .int 0, .int 0, .int 0, .int 0, .int 0, .ref 112, .ref 113, .ref 114, .ref 115, .ref 116, .ref 117, .ref 118, .ref 119, .int 0, .int 0, .int 0, .ref 120, .int 0, .int 0, .int 0, .int 0, .int (-1), .int 0, .ref 121, .int 0, .ref 122, .int 0, .ref 123, .ref 124, .ref 125, .ref 126, .int 0, .ref 127, .ref 128, .int 0, .ref 129, .ref 130, .ref 131, .int 0, .ref 132, .int 0, .ref 133, .ref 134, .int 0, .null, .null, .int 0, .null, .null, .null, .null, .int 0, .null, .null, .null, .int 0, .null, .null, .null, .null, .int 0, .int 0, .int 0, .null], z0, zn)) dm_init_1106 fum_101 ⟨_, _, _, _, rfl, rfl, rfl, rfl⟩ hc_12 (Nat.le_of_ble_eq_true rfl) rfl (Nat.le_of_ble_eq_true rfl) rfl rfl ?_
  refine c_aload (i := 0) dm_init_1109 rfl ?_
  refine c_bipush (x := 16) dm_init_1110 rfl ?_
  refine c_newi (N := 16) dm_init_1112 ar_i (by decide) rfl (by decide) (Nat.le_of_ble_eq_true rfl) (Nat.le_of_ble_eq_true rfl) ?_
  refine c_put (w := .ref 135) (cc := (12, 75, [.int 0, .ref 105, .ref 106, .int 0, .ref 107, .int 0, .int 0, .ref 108, .ref 109, .ref 110, .ref 111, .int 0, .int 0, .int 0, .int 0, .int 0, .ref 112, .ref 113, .ref 114, .ref 115, .ref 116, .ref 117, .ref 118, .ref 119, .int 0, .int 0, .int 0, .ref 120, .int 0, .int 0, .int 0, .int 0, .int (-1), .int 0, .ref 121, .int 0, .ref 122, .int 0, .ref 123, .ref 124, .ref 125, .ref 126, .int 0, .ref 127, .ref 128, .int 0, .ref 129, .ref 130, .ref 131, .int 0, .ref 132, .int 0, .ref 133, .ref 134, .int 0, .ref 135, .null, .int 0, .null, .null, .null, .null, .int 0, .null, .null, .null, .int 0, .null, .null, .null, .null, .int 0, .int 0, .int 0, .null], z0, zn)) dm_init_1114 fum_104 ⟨_, _, _, _, rfl, rfl, rfl, rfl⟩ hc_12 (Nat.le_of_ble_eq_true rfl) rfl (Nat.le_of_ble_eq_true rfl) rfl rfl ?_
  refine c_aload (i := 0) dm_init_1117 rfl ?_
  refine c_sipush (x := 1681) dm_init_1118 rfl ?_
  refine c_newi (N := 1681) dm_init_1121 ar_i (by decide) rfl (by decide) (Nat.le_of_ble_eq_true rfl) (Nat.le_of_ble_eq_true rfl) ?_
  refine c_put (w := .ref 136) (cc := (12, 75, [.int 0, .ref 105, .ref 106, .int 0, .ref 107, .int 0, .int 0, .ref 108, .ref 109, .ref 110, .ref 111, .int 0, .int 0, .int 0, .int 0, .int 0, .ref 112, .ref 113, .ref 114, .ref 115, .ref 116, .ref 117, .ref 118, .ref 119, .int 0, .int 0, .int 0, .ref 120, .int 0, .int 0, .int 0, .int 0, .int (-1), .int 0, .ref 121, .int 0, .ref 122, .int 0, .ref 123, .ref 124, .ref 125, .ref 126, .int 0, .ref 127, .ref 128, .int 0, .ref 129, .ref 130, .ref 131, .int 0, .ref 132, .int 0, .ref 133, .ref 134, .int 0, .ref 135, .ref 136, .int 0, .null, .null, .null, .null, .int 0, .null, .null, .null, .int 0, .null, .null, .null, .null, .int 0, .int 0, .int 0, .null], z0, zn)) dm_init_1123 fum_107 ⟨_, _, _, _, rfl, rfl, rfl, rfl⟩ hc_12 (Nat.le_of_ble_eq_true rfl) rfl (Nat.le_of_ble_eq_true rfl) rfl rfl ?_
  refine c_aload (i := 0) dm_init_1126 rfl ?_
  refine c_bipush (x := 6) dm_init_1127 rfl ?_
  refine c_newi (N := 6) dm_init_1129 ar_i (by decide) rfl (by decide) (Nat.le_of_ble_eq_true rfl) (Nat.le_of_ble_eq_true rfl) ?_
  refine c_put (w := .ref 137) (cc := (12, 75, [.int 0, .ref 105, .ref 106, .int 0, .ref 107, .int 0, .int 0, .ref 108, .ref 109, .ref 110, .ref 111, .int 0, .int 0, .int 0, .int 0, .int 0, .ref 112, .ref 113, .ref 114, .ref 115, .ref 116, .ref 117, .ref 118, .ref 119, .int 0, .int 0, .int 0, .ref 120, .int 0, .int 0, .int 0, .int 0, .int (-1), .int 0, .ref 121, .int 0, .ref 122, .int 0, .ref 123, .ref 124, .ref 125, .ref 126, .int 0, .ref 127, .ref 128, .int 0, .ref 129, .ref 130, .ref 131, .int 0, .ref 132, .int 0, .ref 133, .ref 134, .int 0, .ref 135, .ref 136, .int 0, .ref 137, .null, .null, .null, .int 0, .null, .null, .null, .int 0, .null, .null, .null, .null, .int 0, .int 0, .int 0, .null], z0, zn)) dm_init_1131 fum_110 ⟨_, _, _, _, rfl, rfl, rfl, rfl⟩ hc_12 (Nat.le_of_ble_eq_true rfl) rfl (Nat.le_of_ble_eq_true rfl) rfl rfl ?_
  refine c_aload (i := 0) dm_init_1134 rfl ?_
  refine c_bipush (x := 6) dm_init_1135 rfl ?_
  refine c_newi (N := 6) dm_init_1137 ar_i (by decide) rfl (by decide) (Nat.le_of_ble_eq_true rfl) (Nat.le_of_ble_eq_true rfl) ?_
  refine c_put (w := .ref 138) (cc := (12, 75, [.int 0, .ref 105, .ref 106, .int 0, .ref 107, .int 0, .int 0, .ref 108, .ref 109, .ref 110, .ref 111, .int 0, .int 0, .int 0, .int 0, .int 0, .ref 112, .ref 113, .ref 114, .ref 115, .ref 116, .ref 117, .ref 118, .ref 119, .int 0, .int 0, .int 0, .ref 120, .int 0, .int 0, .int 0, .int 0, .int (-1), .int 0, .ref 121, .int 0, .ref 122, .int 0, .ref 123, .ref 124, .ref 125, .ref 126, .int 0, .ref 127, .ref 128, .int 0, .ref 129, .ref 130, .ref 131, .int 0, .ref 132, .int 0, .ref 133, .ref 134, .int 0, .ref 135, .ref 136, .int 0, .ref 137, .ref 138, .null, .null, .int 0, .null, .null, .null, .int 0, .null, .null, .null, .null, .int 0, .int 0, .int 0, .null], z0, zn)) dm_init_1139 fum_113 ⟨_, _, _, _, rfl, rfl, rfl, rfl⟩ hc_12 (Nat.le_of_ble_eq_true rfl) rfl (Nat.le_of_ble_eq_true rfl) rfl rfl ?_
  refine c_aload (i := 0) dm_init_1142 rfl ?_
  refine c_bipush (x := 6) dm_init_1143 rfl ?_
  refine c_newi (N := 6) dm_init_1145 ar_i (by decide) rfl (by decide) (Nat.le_of_ble_eq_true rfl) (Nat.le_of_ble_eq_true rfl) ?_
  refine c_put (w := .ref 139) (cc := (12, 75, [.int 0, .ref 105, .ref 106, .int 0, .ref 107, .int 0, .int 0, .ref 108, .ref 109, .ref 110, .ref 111, .int 0, .int 0, .int 0, .int 0, .int 0, .ref 112, .ref 113, .ref 114, .ref 115, .ref 116, .ref 117, .ref 118, .ref 119, .int 0, .int 0, .int 0, .ref 120, .int 0, .int 0, .int 0, .int 0, .int (-1), .int 0, .ref 121, .int 0, .ref 122, .int 0, .ref 123, .ref 124, .ref 125, .ref 126, .int 0, .ref 127, .ref 128, .int 0, .ref 129, .ref 130, .ref 131, .int 0, .ref 132, .int 0, .ref 133, .ref 134, .int 0, .ref 135, .ref 136, .int 0, .ref 137, .ref 138, .ref 139, .null, .int 0, .null, .null, .null, .int 0, .null, .null, .null, .null, .int 0, .int 0, .int 0, .null], z0, zn)) dm_init_1147 fum_116 ⟨_, _, _, _, rfl, rfl, rfl, rfl⟩ hc_12 (Nat.le_of_ble_eq_true rfl) rfl (Nat.le_of_ble_eq_true rfl) rfl rfl ?_
  refine c_aload (i := 0) dm_init_1150 rfl ?_
  refine c_bipush (x := 6) dm_init_1151 rfl ?_
  refine c_newi (N := 6) dm_init_1153 ar_i (by decide) rfl (by decide) (Nat.le_of_ble_eq_true rfl) (Nat.le_of_ble_eq_true rfl) ?_
  refine c_put (w := .ref 140) (cc := (12, 75, [.int 0, .ref 105, .ref 106, .int 0, .ref 107, .int 0, .int 0, .ref 108, .ref 109, .ref 110, .ref 111, .int 0, .int 0, .int 0, .int 0, .int 0, .ref 112, .ref 113, .ref 114, .ref 115, .ref 116, .ref 117, .ref 118, .ref 119, .int 0, .int 0, .int 0, .ref 120, .int 0, .int 0, .int 0, .int 0, .int (-1), .int 0, .ref 121, .int 0, .ref 122, .int 0, .ref 123, .ref 124, .ref 125, .ref 126, .int 0, .ref 127, .ref 128, .int 0, .ref 129, .ref 130, .ref 131, .int 0, .ref 132, .int 0, .ref 133, .ref 134, .int 0, .ref 135, .ref 136, .int 0, .ref 137, .ref 138, .ref 139, .ref 140, .int 0, .null, .null, .null, .int 0, .null, .null, .null, .null, .int 0, .int 0, .int 0, .null], z0, zn)) dm_init_1155 fum_119 ⟨_, _, _, _, rfl, rfl, rfl, rfl⟩ hc_12 (Nat.le_of_ble_eq_true rfl) rfl (Nat.le_of_ble_eq_true rfl) rfl rfl ?_
  refine c_aload (i := 0) dm_init_1158 rfl ?_
  refine c_bipush (x := 12) dm_init_1159 rfl ?_
  refine c_newi (N := 12) dm_init_1161 ar_i (by decide) rfl (by decide) (Nat.le_of_ble_eq_true rfl) (Nat.le_of_ble_eq_true rfl) ?_
  refine c_put (w := .ref 141) (cc := (12, 75, [.int 0, .ref 105, .ref 106, .int 0, .ref 107, .int 0, .int 0, .ref 108, .ref 109, .ref 110, .ref 111, .int 0, .int 0, .int 0, .int 0, .int 0, .ref 112, .ref 113, .ref 114, .ref 115, .ref 116, .ref 117, .ref 118, .ref 119, .int 0, .int 0, .int 0, .ref 120, .int 0, .int 0, .int 0, .int 0, .int (-1), .int 0, .ref 121, .int 0, .ref 122, .int 0, .ref 123, .ref 124, .ref 125, .ref 126, .int 0, .ref 127, .ref 128, .int 0, .ref 129, .ref 130, .ref 131, .int 0, .ref 132, .int 0, .ref 133, .ref 134, .int 0, .ref 135, .ref 136, .int 0, .ref 137, .ref 138, .ref 139, .ref 140, .int 0, .ref 141, .null, .null, .int 0, .null, .null, .null, .null, .int 0, .int 0, .int 0, .null], z0, zn)) dm_init_1163 fum_122 ⟨_, _, _, _, rfl, rfl, rfl, rfl⟩ hc_12 (Nat.le_of_ble_eq_true rfl) rfl (Nat.le_of_ble_eq_true rfl) rfl rfl ?_
  refine c_aload (i := 0) dm_init_1166 rfl ?_
  refine c_bipush (x := 21) dm_init_1167 rfl ?_
  refine c_newi (N := 21) dm_init_1169 ar_i (by decide) rfl (by decide) (Nat.le_of_ble_eq_true rfl) (Nat.le_of_ble_eq_true rfl) ?_
  refine c_put (w := .ref 142) (cc := (12, 75, [.int 0, .ref 105, .ref 106, .int 0, .ref 107, .int 0, .int 0, .ref 108, .ref 109, .ref 110, .ref 111, .int 0, .int 0, .int 0, .int 0, .int 0, .ref 112, .ref 113, .ref 114, .ref 115, .ref 116, .ref 117, .ref 118, .ref 119, .int 0, .int 0, .int 0, .ref 120, .int 0, .int 0, .int 0, .int 0, .int (-1), .int 0, .ref 121, .int 0, .ref 122, .int 0, .ref 123, .ref 124, .ref 125, .ref 126, .int 0, .ref 127, .ref 128, .int 0, .ref 129, .ref 130, .ref 131, .int 0, .ref 132, .int 0, .ref 133, .ref 134, .int 0, .ref 135, .ref 136, .int 0, .ref 137, .ref 138, .ref 139, .ref 140, .int 0, .ref 141, .ref 142, .null, .int 0, .null, .null, .null, .null, .int 0, .int 0, .int 0, .null], z0, zn)) dm_init_1171 fum_125 ⟨_, _, _, _, rfl, rfl, rfl, rfl⟩ hc_12 (Nat.le_of_ble_eq_true rfl) rfl (Nat.le_of_ble_eq_true rfl) rfl rfl ?_
  refine c_aload (i := 0) dm_init_1174 rfl ?_
  refine c_bipush (x := 21) dm_init_1175 rfl ?_
  refine c_newi (N := 21) dm_init_1177 ar_i (by decide) rfl (by decide) (Nat.le_of_ble_eq_true rfl) (Nat.le_of_ble_eq_true rfl) ?_
  refine c_put (w := .ref 143) (cc := (12, 75, [.int 0, .ref 105, .ref 106, .int 0, .ref 107, .int 0, .int 0, .ref 108, .ref 109, .ref 110, .ref 111, .int 0, .int 0, .int 0, .int 0, .int 0, .ref 112, .ref 113, .ref 114, .ref 115, .ref 116, .ref 117, .ref 118, .ref 119, .int 0, .int 0, .int 0, .ref 120, .int 0, .int 0, .int 0, .int 0, .int (-1), .int 0, .ref 121, .int 0, .ref 122, .int 0, .ref 123, .ref 124, .ref 125, .ref 126, .int 0, .ref 127, .ref 128, .int 0, .ref 129, .ref 130, .ref 131, .int 0, .ref 132, .int 0, .ref 133, .ref 134, .int 0, .ref 135, .ref 136, .int 0, .ref 137, .ref 138, .ref 139, .ref 140, .int 0, .ref 141, .ref 142, .ref 143, .int 0, .null, .null, .null, .null, .int 0, .int 0, .int 0, .null], z0, zn)) dm_init_1179 fum_128 ⟨_, _, _, _, rfl, rfl, rfl, rfl⟩ hc_12 (Nat.le_of_ble_eq_true rfl) rfl (Nat.le_of_ble_eq_true rfl) rfl rfl ?_
  refine c_aload (i := 0) dm_init_1182 rfl ?_
  refine c_bipush (x := 8) dm_init_1183 rfl ?_
  refine c_newi (N := 8) dm_init_1185 ar_i (by decide) rfl (by decide) (Nat.le_of_ble_eq_true rfl) (Nat.le_of_ble_eq_true rfl) ?_
  refine c_put (w := .ref 144) (cc := (12, 75, [.int 0, .ref 105, .ref 106, .int 0, .ref 107, .int 0, .int 0, .ref 108, .ref 109, .ref 110, .ref 111, .int 0, .int 0, .int 0, .int 0, .int 0, .ref 112, .ref 113, .ref 114, .ref 115, .ref 116, .ref 117, .ref 118, .ref 119, .int 0, .int 0, .int 0, .ref 120, .int 0, .int 0, .int 0, .int 0, .int (-1), .int 0, .ref 121, .int 0, .ref 122, .int 0, .ref 123, .ref 124, .ref 125, .ref 126, .int 0, .ref 127, .ref 128, .int 0, .ref 129, .ref 130, .ref 131, .int 0, .ref 132, .int 0, .ref 133, .ref 134, .int 0, .ref 135, .ref 136, .int 0, .ref 137, .ref 138, .ref 139, .ref 140, .int 0, .ref 141, .ref 142, .ref 143, .int 0, .ref 144, .null, .null, .null, .int 0, .int 0, .int 0, .null], z0, zn)) dm_init_1187 fum_131 ⟨_, _, _, _, rfl, rfl, rfl, rfl⟩ hc_12 (Nat.le_of_ble_eq_true rfl) rfl (Nat.le_of_ble_eq_true rfl) rfl rfl ?_
  refine c_aload (i := 0) dm_init_1190 rfl ?_
  refine c_bipush (x := 8) dm_init_1191 rfl ?_
  refine c_newi (N := 8) dm_init_1193 ar_i (by decide) rfl (by decide) (Nat.le_of_ble_eq_true rfl) (Nat.le_of_ble_eq_true rfl) ?_
  refine c_put (w := .ref 145) (cc := (12, 75, [.int 0, .ref 105, .ref 106, .int 0, .ref 107, .int 0, .int 0, .ref 108, .ref 109, .ref 110, .ref 111, .int 0, .int 0, .int 0, .int 0, .int 0, .ref 112, .ref 113, .ref 114, .ref 115, .ref 116, .ref 117, .ref 118, .ref 119, .int 0, .int 0, .int 0, .ref 120, .int 0, .int 0, .int 0, .int 0, .int (-1), .int 0, .ref 121, .int 0, .ref 122, .int 0, .ref 123, .ref 124, .ref 125, .ref 126, .int 0, .ref 127, .ref 128, .int 0, .ref 129, .ref 130, .ref 131, .int 0, .ref 132, .int 0, .ref 133, .ref 134, .int 0, .ref 135, .ref 136, .int 0, .ref 137, .ref 138, .ref 139, .ref 140, .int 0, .ref 141, .ref 142, .ref 143, .int 0, .ref 144, .ref 145, .null, .null, .int 0, .int 0, .int 0, .null], z0, zn)) dm_init_1195 fum_134 ⟨_, _, _, _, rfl, rfl, rfl, rfl⟩ hc_12 (Nat.le_of_ble_eq_true rfl) rfl (Nat.le_of_ble_eq_true rfl) rfl rfl ?_
  refine c_aload (i := 0) dm_init_1198 rfl ?_
  refine c_sipush (x := 16807) dm_init_1199 rfl ?_
  refine c_newi (N := 16807) dm_init_1202 ar_i (by decide) rfl (by decide) (Nat.le_of_ble_eq_true rfl) (Nat.le_of_ble_eq_true rfl) ?_
  refine c_put (w := .ref 146) (cc := (12, 75, [.int 0, .ref 105, .ref 106, .int 0, .ref 107, .int 0, .int 0, .ref 108, .ref 109, .ref 110, .ref 111, .int 0, .int 0, .int 0, .int 0, .int 0, .ref 112, .ref 113, .ref 114, .ref 115, .ref 116, .ref 117, .ref 118, .ref 119, .int 0, .int 0, .int 0, .ref 120, .int 0, .int 0, .int 0, .int 0, .int (-1), .int 0, .ref 121, .int 0, .ref 122, .int 0, .ref 123, .ref 124, .ref 125, .ref 126, .int 0, .ref 127, .ref 128, .int 0, .ref 129, .ref 130, .ref 131, .int 0, .ref 132, .int 0, .ref 133, .ref 134, .int 0, .ref 135, .ref 136, .int 0, .ref 137, .ref 138, .ref 139, .ref 140, .int 0, .ref 141, .ref 142, .ref 143, .int 0, .ref 144, .ref 145, .ref 146, .null, .int 0, .int 0, .int 0, .null], z0, zn)) dm_init_1204 fum_137 ⟨_, _, _, _, rfl, rfl, rfl, rfl⟩ hc_12 (Nat.le_of_ble_eq_true rfl) rfl (Nat.le_of_ble_eq_true rfl) rfl rfl ?_
  refine c_aload (i := 0) dm_init_1207 rfl ?_
  refine c_iconst (x := 5) dm_init_1208 rfl ?_
  refine c_newi (N := 5) dm_init_1209 ar_i (by decide) rfl (by decide) (Nat.le_of_ble_eq_true rfl) (Nat.le_of_ble_eq_true rfl) ?_
  refine c_put (w := .ref 147) (cc := (12, 75, [.int 0, .ref 105, .ref 106, .int 0, .ref 107, .int 0, .int 0, .ref 108, .ref 109, .ref 110, .ref 111, .int 0, .int 0, .int 0, .int 0, .int 0, .ref 112, .ref 113, .ref 114, .ref 115, .ref 116, .ref 117, .ref 118, .ref 119, .int 0, .int 0, .int 0, .ref 120, .int 0, .int 0, .int 0, .int 0, .int (-1), .int 0, .ref 121, .int 0, .ref 122, .int 0, .ref 123, .ref 124, .ref 125, .ref 126, .int 0, .ref 127, .ref 128, .int 0, .ref 129, .ref 130, .ref 131, .int 0, .ref 132, .int 0, .ref 133, .ref 134, .int 0, .ref 135, .ref 136, .int 0, .ref 137, .ref 138, .ref 139, .ref 140, .int 0, .ref 141, .ref 142, .ref 143, .int 0, .ref 144, .ref 145, .ref 146, .ref 147, .int 0, .int 0, .int 0, .null], z0, zn)) dm_init_1211 fum_140 ⟨_, _, _, _, rfl, rfl, rfl, rfl⟩ hc_12 (Nat.le_of_ble_eq_true rfl) rfl (Nat.le_of_ble_eq_true rfl) rfl rfl ?_
  refine c_aload (i := 0) dm_init_1214 rfl ?_
  refine c_sipush (x := 2400) dm_init_1215 rfl ?_
  refine c_newi (N := 2400) dm_init_1218 ar_i (by decide) rfl (by decide) (Nat.le_of_ble_eq_true rfl) (Nat.le_of_ble_eq_true rfl) ?_
  refine c_put (w := .ref 148) (cc := (12, 75, [.int 0, .ref 105, .ref 106, .int 0, .ref 107, .int 0, .int 0, .ref 108, .ref 109, .ref 110, .ref 111, .int 0, .int 0, .int 0, .int 0, .int 0, .ref 112, .ref 113, .ref 114, .ref 115, .ref 116, .ref 117, .ref 118, .ref 119, .int 0, .int 0, .int 0, .ref 120, .int 0, .int 0, .int 0, .int 0, .int (-1), .int 0, .ref 121, .int 0, .ref 122, .int 0, .ref 123, .ref 124, .ref 125, .ref 126, .int 0, .ref 127, .ref 128, .int 0, .ref 129, .ref 130, .ref 131, .int 0, .ref 132, .int 0, .ref 133, .ref 134, .int 0, .ref 135, .ref 136, .int 0, .ref 137, .ref 138, .ref 139, .ref 140, .int 0, .ref 141, .ref 142, .ref 143, .int 0, .ref 144, .ref 145, .ref 146, .ref 147, .int 0, .int 0, .int 0, .ref 148], z0, zn)) dm_init_1220 fum_143 ⟨_, _, _, _, rfl, rfl, rfl, rfl⟩ hc_12 (Nat.le_of_ble_eq_true rfl) rfl (Nat.le_of_ble_eq_true rfl) rfl rfl ?_
  exact c_ret dm_init_1223 rfl rfl
