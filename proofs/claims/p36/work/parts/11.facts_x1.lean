def wl_K_leastMissing_0 : List Nat := [42, 184, 0, 53, 64, 4, 62, 29, 16, 60, 163, 0, 21, 31, 29, 123, 10, 127, 9, 148, 154, 0, 5, 29, 172, 132, 3, 1, 167, 255, 235, 2, 172]
theorem wi_K_leastMissing_0 : oC tK_leastMissing.2.1 0 wl_K_leastMissing_0 = true := by decide +kernel
theorem dK_leastMissing_7 : dl tK_leastMissing 7 .iload_n .iload 3 8 := Or.inl ⟨3, o_29 (oW (K := 0) (r := 7) wi_K_leastMissing_0 rfl), rfl, rfl⟩
theorem dK_leastMissing_8 : dn tK_leastMissing 8 (.bipush 60) 2 10 := ⟨o_16 60 60 (oWd (K := 0) (r := 8) wi_K_leastMissing_0 rfl), rfl⟩
theorem dK_leastMissing_10 : db tK_leastMissing 10 (.if_icmp .gt) 31 13 := ⟨21, o_163 0 21 21 (oWd (K := 0) (r := 10) wi_K_leastMissing_0 rfl), rfl, rfl⟩
theorem dK_leastMissing_13 : dl tK_leastMissing 13 .lload_n .lload 1 14 := Or.inl ⟨1, o_31 (oW (K := 0) (r := 13) wi_K_leastMissing_0 rfl), rfl, rfl⟩
theorem dK_leastMissing_14 : dl tK_leastMissing 14 .iload_n .iload 3 15 := Or.inl ⟨3, o_29 (oW (K := 0) (r := 14) wi_K_leastMissing_0 rfl), rfl, rfl⟩
theorem dK_leastMissing_15 : dn tK_leastMissing 15 (.lshr) 1 16 := ⟨o_123 (oW (K := 0) (r := 15) wi_K_leastMissing_0 rfl), rfl⟩
theorem dK_leastMissing_16 : dn tK_leastMissing 16 (.lconst 1) 1 17 := ⟨o_10 (oW (K := 0) (r := 16) wi_K_leastMissing_0 rfl), rfl⟩
theorem dK_leastMissing_17 : dn tK_leastMissing 17 (.land) 1 18 := ⟨o_127 (oW (K := 0) (r := 17) wi_K_leastMissing_0 rfl), rfl⟩
theorem dK_leastMissing_18 : dn tK_leastMissing 18 (.lconst 0) 1 19 := ⟨o_9 (oW (K := 0) (r := 18) wi_K_leastMissing_0 rfl), rfl⟩
theorem dK_leastMissing_19 : dn tK_leastMissing 19 (.lcmp) 1 20 := ⟨o_148 (oW (K := 0) (r := 19) wi_K_leastMissing_0 rfl), rfl⟩
theorem dK_leastMissing_20 : db tK_leastMissing 20 (.ifCond .ne) 25 23 := ⟨5, o_154 0 5 5 (oWd (K := 0) (r := 20) wi_K_leastMissing_0 rfl), rfl, rfl⟩
theorem dK_leastMissing_23 : dl tK_leastMissing 23 .iload_n .iload 3 24 := Or.inl ⟨3, o_29 (oW (K := 0) (r := 23) wi_K_leastMissing_0 rfl), rfl, rfl⟩
theorem dK_leastMissing_24 : dn tK_leastMissing 24 (.ireturn) 1 25 := ⟨o_172 (oW (K := 0) (r := 24) wi_K_leastMissing_0 rfl), rfl⟩
theorem dK_leastMissing_25 : dn tK_leastMissing 25 (.iinc 3 1) 3 28 := ⟨o_132 3 1 1 (oWd (K := 0) (r := 25) wi_K_leastMissing_0 rfl), rfl⟩
theorem dK_leastMissing_28 : db tK_leastMissing 28 .goto 7 31 := ⟨-21, o_167 255 235 (-21) (oWd (K := 0) (r := 28) wi_K_leastMissing_0 rfl), rfl, rfl⟩
theorem dK_leastMissing_31 : dn tK_leastMissing 31 (.iconst (-1)) 1 32 := ⟨o_2 (oW (K := 0) (r := 31) wi_K_leastMissing_0 rfl), rfl⟩
def wl_K_leastMissing_32 : List Nat := [172]
theorem wi_K_leastMissing_32 : oC tK_leastMissing.2.1 32 wl_K_leastMissing_32 = true := by decide +kernel
theorem dK_leastMissing_32 : dn tK_leastMissing 32 (.ireturn) 1 33 := ⟨o_172 (oW (K := 32) (r := 0) wi_K_leastMissing_32 rfl), rfl⟩
def wl_K_biters_0 : List Nat := [3, 62, 3, 54, 4, 21, 4, 42, 180, 0, 21, 162, 0, 40, 42, 21, 4, 3, 182, 0, 27, 27, 126, 27, 160, 0, 21, 42, 21, 4, 4, 182, 0, 27, 28, 161, 0, 10]
theorem wi_K_biters_0 : oC tK_biters.2.1 0 wl_K_biters_0 = true := by decide +kernel
theorem dK_biters_0 : dn tK_biters 0 (.iconst 0) 1 1 := ⟨o_3 (oW (K := 0) (r := 0) wi_K_biters_0 rfl), rfl⟩
theorem dK_biters_1 : dl tK_biters 1 .istore_n .istore 3 2 := Or.inl ⟨3, o_62 (oW (K := 0) (r := 1) wi_K_biters_0 rfl), rfl, rfl⟩
theorem dK_biters_2 : dn tK_biters 2 (.iconst 0) 1 3 := ⟨o_3 (oW (K := 0) (r := 2) wi_K_biters_0 rfl), rfl⟩
theorem dK_biters_3 : dl tK_biters 3 .istore_n .istore 4 5 := Or.inr ⟨o_54 4 (oW (K := 0) (r := 3) wi_K_biters_0 rfl), rfl⟩
theorem dK_biters_5 : dl tK_biters 5 .iload_n .iload 4 7 := Or.inr ⟨o_21 4 (oW (K := 0) (r := 5) wi_K_biters_0 rfl), rfl⟩
theorem dK_biters_7 : dl tK_biters 7 .aload_n .aload 0 8 := Or.inl ⟨0, o_42 (oW (K := 0) (r := 7) wi_K_biters_0 rfl), rfl, rfl⟩
theorem dK_biters_8 : dn tK_biters 8 (.getfield 21) 3 11 := ⟨o_180 0 21 21 (oWd (K := 0) (r := 8) wi_K_biters_0 rfl), rfl⟩
theorem dK_biters_11 : db tK_biters 11 (.if_icmp .ge) 51 14 := ⟨40, o_162 0 40 40 (oWd (K := 0) (r := 11) wi_K_biters_0 rfl), rfl, rfl⟩
theorem dK_biters_14 : dl tK_biters 14 .aload_n .aload 0 15 := Or.inl ⟨0, o_42 (oW (K := 0) (r := 14) wi_K_biters_0 rfl), rfl, rfl⟩
theorem dK_biters_15 : dl tK_biters 15 .iload_n .iload 4 17 := Or.inr ⟨o_21 4 (oW (K := 0) (r := 15) wi_K_biters_0 rfl), rfl⟩
theorem dK_biters_17 : dn tK_biters 17 (.iconst 0) 1 18 := ⟨o_3 (oW (K := 0) (r := 17) wi_K_biters_0 rfl), rfl⟩
theorem dK_biters_18 : dn tK_biters 18 (.invokevirtual 27) 3 21 := ⟨o_182 0 27 27 (oWd (K := 0) (r := 18) wi_K_biters_0 rfl), rfl⟩
theorem dK_biters_21 : dl tK_biters 21 .iload_n .iload 1 22 := Or.inl ⟨1, o_27 (oW (K := 0) (r := 21) wi_K_biters_0 rfl), rfl, rfl⟩
theorem dK_biters_22 : dn tK_biters 22 (.iand) 1 23 := ⟨o_126 (oW (K := 0) (r := 22) wi_K_biters_0 rfl), rfl⟩
theorem dK_biters_23 : dl tK_biters 23 .iload_n .iload 1 24 := Or.inl ⟨1, o_27 (oW (K := 0) (r := 23) wi_K_biters_0 rfl), rfl, rfl⟩
theorem dK_biters_24 : db tK_biters 24 (.if_icmp .ne) 45 27 := ⟨21, o_160 0 21 21 (oWd (K := 0) (r := 24) wi_K_biters_0 rfl), rfl, rfl⟩
theorem dK_biters_27 : dl tK_biters 27 .aload_n .aload 0 28 := Or.inl ⟨0, o_42 (oW (K := 0) (r := 27) wi_K_biters_0 rfl), rfl, rfl⟩
theorem dK_biters_28 : dl tK_biters 28 .iload_n .iload 4 30 := Or.inr ⟨o_21 4 (oW (K := 0) (r := 28) wi_K_biters_0 rfl), rfl⟩
theorem dK_biters_30 : dn tK_biters 30 (.iconst 1) 1 31 := ⟨o_4 (oW (K := 0) (r := 30) wi_K_biters_0 rfl), rfl⟩
theorem dK_biters_31 : dn tK_biters 31 (.invokevirtual 27) 3 34 := ⟨o_182 0 27 27 (oWd (K := 0) (r := 31) wi_K_biters_0 rfl), rfl⟩
def wl_K_biters_32 : List Nat := [0, 27, 28, 161, 0, 10, 29, 4, 21, 4, 120, 128, 62, 132, 4, 1, 167, 255, 213, 29, 172]
theorem wi_K_biters_32 : oC tK_biters.2.1 32 wl_K_biters_32 = true := by decide +kernel
theorem dK_biters_34 : dl tK_biters 34 .iload_n .iload 2 35 := Or.inl ⟨2, o_28 (oW (K := 32) (r := 2) wi_K_biters_32 rfl), rfl, rfl⟩
theorem dK_biters_35 : db tK_biters 35 (.if_icmp .lt) 45 38 := ⟨10, o_161 0 10 10 (oWd (K := 32) (r := 3) wi_K_biters_32 rfl), rfl, rfl⟩
theorem dK_biters_38 : dl tK_biters 38 .iload_n .iload 3 39 := Or.inl ⟨3, o_29 (oW (K := 32) (r := 6) wi_K_biters_32 rfl), rfl, rfl⟩
theorem dK_biters_39 : dn tK_biters 39 (.iconst 1) 1 40 := ⟨o_4 (oW (K := 32) (r := 7) wi_K_biters_32 rfl), rfl⟩
theorem dK_biters_40 : dl tK_biters 40 .iload_n .iload 4 42 := Or.inr ⟨o_21 4 (oW (K := 32) (r := 8) wi_K_biters_32 rfl), rfl⟩
theorem dK_biters_42 : dn tK_biters 42 (.ishl) 1 43 := ⟨o_120 (oW (K := 32) (r := 10) wi_K_biters_32 rfl), rfl⟩
theorem dK_biters_43 : dn tK_biters 43 (.ior) 1 44 := ⟨o_128 (oW (K := 32) (r := 11) wi_K_biters_32 rfl), rfl⟩
theorem dK_biters_44 : dl tK_biters 44 .istore_n .istore 3 45 := Or.inl ⟨3, o_62 (oW (K := 32) (r := 12) wi_K_biters_32 rfl), rfl, rfl⟩
theorem dK_biters_45 : dn tK_biters 45 (.iinc 4 1) 3 48 := ⟨o_132 4 1 1 (oWd (K := 32) (r := 13) wi_K_biters_32 rfl), rfl⟩
theorem dK_biters_48 : db tK_biters 48 .goto 5 51 := ⟨-43, o_167 255 213 (-43) (oWd (K := 32) (r := 16) wi_K_biters_32 rfl), rfl, rfl⟩
theorem dK_biters_51 : dl tK_biters 51 .iload_n .iload 3 52 := Or.inl ⟨3, o_29 (oW (K := 32) (r := 19) wi_K_biters_32 rfl), rfl, rfl⟩
theorem dK_biters_52 : dn tK_biters 52 (.ireturn) 1 53 := ⟨o_172 (oW (K := 32) (r := 20) wi_K_biters_32 rfl), rfl⟩
def wl_K_walk_0 : List Nat := [43, 180, 0, 21, 16, 16, 184, 0, 35, 61, 42, 180, 0, 15, 3, 3, 79, 42, 180, 0, 18, 3, 3, 79, 3, 62, 29, 28, 162, 0, 88, 43, 29, 3, 182, 0, 27, 54]
theorem wi_K_walk_0 : oC tK_walk.2.1 0 wl_K_walk_0 = true := by decide +kernel
theorem dK_walk_0 : dl tK_walk 0 .aload_n .aload 1 1 := Or.inl ⟨1, o_43 (oW (K := 0) (r := 0) wi_K_walk_0 rfl), rfl, rfl⟩
theorem dK_walk_1 : dn tK_walk 1 (.getfield 21) 3 4 := ⟨o_180 0 21 21 (oWd (K := 0) (r := 1) wi_K_walk_0 rfl), rfl⟩
theorem dK_walk_4 : dn tK_walk 4 (.bipush 16) 2 6 := ⟨o_16 16 16 (oWd (K := 0) (r := 4) wi_K_walk_0 rfl), rfl⟩
theorem dK_walk_6 : dn tK_walk 6 (.invokestatic 35) 3 9 := ⟨o_184 0 35 35 (oWd (K := 0) (r := 6) wi_K_walk_0 rfl), rfl⟩
theorem dK_walk_9 : dl tK_walk 9 .istore_n .istore 2 10 := Or.inl ⟨2, o_61 (oW (K := 0) (r := 9) wi_K_walk_0 rfl), rfl, rfl⟩
theorem dK_walk_10 : dl tK_walk 10 .aload_n .aload 0 11 := Or.inl ⟨0, o_42 (oW (K := 0) (r := 10) wi_K_walk_0 rfl), rfl, rfl⟩
theorem dK_walk_11 : dn tK_walk 11 (.getfield 15) 3 14 := ⟨o_180 0 15 15 (oWd (K := 0) (r := 11) wi_K_walk_0 rfl), rfl⟩
theorem dK_walk_14 : dn tK_walk 14 (.iconst 0) 1 15 := ⟨o_3 (oW (K := 0) (r := 14) wi_K_walk_0 rfl), rfl⟩
theorem dK_walk_15 : dn tK_walk 15 (.iconst 0) 1 16 := ⟨o_3 (oW (K := 0) (r := 15) wi_K_walk_0 rfl), rfl⟩
theorem dK_walk_16 : dn tK_walk 16 (.iastore) 1 17 := ⟨o_79 (oW (K := 0) (r := 16) wi_K_walk_0 rfl), rfl⟩
theorem dK_walk_17 : dl tK_walk 17 .aload_n .aload 0 18 := Or.inl ⟨0, o_42 (oW (K := 0) (r := 17) wi_K_walk_0 rfl), rfl, rfl⟩
theorem dK_walk_18 : dn tK_walk 18 (.getfield 18) 3 21 := ⟨o_180 0 18 18 (oWd (K := 0) (r := 18) wi_K_walk_0 rfl), rfl⟩
theorem dK_walk_21 : dn tK_walk 21 (.iconst 0) 1 22 := ⟨o_3 (oW (K := 0) (r := 21) wi_K_walk_0 rfl), rfl⟩
theorem dK_walk_22 : dn tK_walk 22 (.iconst 0) 1 23 := ⟨o_3 (oW (K := 0) (r := 22) wi_K_walk_0 rfl), rfl⟩
theorem dK_walk_23 : dn tK_walk 23 (.iastore) 1 24 := ⟨o_79 (oW (K := 0) (r := 23) wi_K_walk_0 rfl), rfl⟩
theorem dK_walk_24 : dn tK_walk 24 (.iconst 0) 1 25 := ⟨o_3 (oW (K := 0) (r := 24) wi_K_walk_0 rfl), rfl⟩
theorem dK_walk_25 : dl tK_walk 25 .istore_n .istore 3 26 := Or.inl ⟨3, o_62 (oW (K := 0) (r := 25) wi_K_walk_0 rfl), rfl, rfl⟩
theorem dK_walk_26 : dl tK_walk 26 .iload_n .iload 3 27 := Or.inl ⟨3, o_29 (oW (K := 0) (r := 26) wi_K_walk_0 rfl), rfl, rfl⟩
theorem dK_walk_27 : dl tK_walk 27 .iload_n .iload 2 28 := Or.inl ⟨2, o_28 (oW (K := 0) (r := 27) wi_K_walk_0 rfl), rfl, rfl⟩
theorem dK_walk_28 : db tK_walk 28 (.if_icmp .ge) 116 31 := ⟨88, o_162 0 88 88 (oWd (K := 0) (r := 28) wi_K_walk_0 rfl), rfl, rfl⟩
theorem dK_walk_31 : dl tK_walk 31 .aload_n .aload 1 32 := Or.inl ⟨1, o_43 (oW (K := 0) (r := 31) wi_K_walk_0 rfl), rfl, rfl⟩
def wl_K_walk_32 : List Nat := [29, 3, 182, 0, 27, 54, 4, 42, 180, 0, 15, 29, 4, 96, 42, 180, 0, 15, 29, 46, 21, 4, 154, 0, 7, 4, 167, 0, 14, 21, 4, 5, 160, 0, 7, 2, 167, 0]
theorem wi_K_walk_32 : oC tK_walk.2.1 32 wl_K_walk_32 = true := by decide +kernel
theorem dK_walk_32 : dl tK_walk 32 .iload_n .iload 3 33 := Or.inl ⟨3, o_29 (oW (K := 32) (r := 0) wi_K_walk_32 rfl), rfl, rfl⟩
theorem dK_walk_33 : dn tK_walk 33 (.iconst 0) 1 34 := ⟨o_3 (oW (K := 32) (r := 1) wi_K_walk_32 rfl), rfl⟩
theorem dK_walk_34 : dn tK_walk 34 (.invokevirtual 27) 3 37 := ⟨o_182 0 27 27 (oWd (K := 32) (r := 2) wi_K_walk_32 rfl), rfl⟩
theorem dK_walk_37 : dl tK_walk 37 .istore_n .istore 4 39 := Or.inr ⟨o_54 4 (oW (K := 32) (r := 5) wi_K_walk_32 rfl), rfl⟩
theorem dK_walk_39 : dl tK_walk 39 .aload_n .aload 0 40 := Or.inl ⟨0, o_42 (oW (K := 32) (r := 7) wi_K_walk_32 rfl), rfl, rfl⟩
theorem dK_walk_40 : dn tK_walk 40 (.getfield 15) 3 43 := ⟨o_180 0 15 15 (oWd (K := 32) (r := 8) wi_K_walk_32 rfl), rfl⟩
theorem dK_walk_43 : dl tK_walk 43 .iload_n .iload 3 44 := Or.inl ⟨3, o_29 (oW (K := 32) (r := 11) wi_K_walk_32 rfl), rfl, rfl⟩
theorem dK_walk_44 : dn tK_walk 44 (.iconst 1) 1 45 := ⟨o_4 (oW (K := 32) (r := 12) wi_K_walk_32 rfl), rfl⟩
theorem dK_walk_45 : dn tK_walk 45 (.iadd) 1 46 := ⟨o_96 (oW (K := 32) (r := 13) wi_K_walk_32 rfl), rfl⟩
theorem dK_walk_46 : dl tK_walk 46 .aload_n .aload 0 47 := Or.inl ⟨0, o_42 (oW (K := 32) (r := 14) wi_K_walk_32 rfl), rfl, rfl⟩
theorem dK_walk_47 : dn tK_walk 47 (.getfield 15) 3 50 := ⟨o_180 0 15 15 (oWd (K := 32) (r := 15) wi_K_walk_32 rfl), rfl⟩
theorem dK_walk_50 : dl tK_walk 50 .iload_n .iload 3 51 := Or.inl ⟨3, o_29 (oW (K := 32) (r := 18) wi_K_walk_32 rfl), rfl, rfl⟩
theorem dK_walk_51 : dn tK_walk 51 (.iaload) 1 52 := ⟨o_46 (oW (K := 32) (r := 19) wi_K_walk_32 rfl), rfl⟩
theorem dK_walk_52 : dl tK_walk 52 .iload_n .iload 4 54 := Or.inr ⟨o_21 4 (oW (K := 32) (r := 20) wi_K_walk_32 rfl), rfl⟩
theorem dK_walk_54 : db tK_walk 54 (.ifCond .ne) 61 57 := ⟨7, o_154 0 7 7 (oWd (K := 32) (r := 22) wi_K_walk_32 rfl), rfl, rfl⟩
theorem dK_walk_57 : dn tK_walk 57 (.iconst 1) 1 58 := ⟨o_4 (oW (K := 32) (r := 25) wi_K_walk_32 rfl), rfl⟩
theorem dK_walk_58 : db tK_walk 58 .goto 72 61 := ⟨14, o_167 0 14 14 (oWd (K := 32) (r := 26) wi_K_walk_32 rfl), rfl, rfl⟩
theorem dK_walk_61 : dl tK_walk 61 .iload_n .iload 4 63 := Or.inr ⟨o_21 4 (oW (K := 32) (r := 29) wi_K_walk_32 rfl), rfl⟩
theorem dK_walk_63 : dn tK_walk 63 (.iconst 2) 1 64 := ⟨o_5 (oW (K := 32) (r := 31) wi_K_walk_32 rfl), rfl⟩
def wl_K_walk_64 : List Nat := [160, 0, 7, 2, 167, 0, 4, 3, 96, 79, 42, 180, 0, 18, 29, 4, 96, 42, 180, 0, 18, 29, 46, 21, 4, 4, 160, 0, 7, 4, 167, 0, 14, 21, 4, 6, 160, 0]
theorem wi_K_walk_64 : oC tK_walk.2.1 64 wl_K_walk_64 = true := by decide +kernel
theorem dK_walk_64 : db tK_walk 64 (.if_icmp .ne) 71 67 := ⟨7, o_160 0 7 7 (oWd (K := 64) (r := 0) wi_K_walk_64 rfl), rfl, rfl⟩
theorem dK_walk_67 : dn tK_walk 67 (.iconst (-1)) 1 68 := ⟨o_2 (oW (K := 64) (r := 3) wi_K_walk_64 rfl), rfl⟩
theorem dK_walk_68 : db tK_walk 68 .goto 72 71 := ⟨4, o_167 0 4 4 (oWd (K := 64) (r := 4) wi_K_walk_64 rfl), rfl, rfl⟩
theorem dK_walk_71 : dn tK_walk 71 (.iconst 0) 1 72 := ⟨o_3 (oW (K := 64) (r := 7) wi_K_walk_64 rfl), rfl⟩
theorem dK_walk_72 : dn tK_walk 72 (.iadd) 1 73 := ⟨o_96 (oW (K := 64) (r := 8) wi_K_walk_64 rfl), rfl⟩
theorem dK_walk_73 : dn tK_walk 73 (.iastore) 1 74 := ⟨o_79 (oW (K := 64) (r := 9) wi_K_walk_64 rfl), rfl⟩
theorem dK_walk_74 : dl tK_walk 74 .aload_n .aload 0 75 := Or.inl ⟨0, o_42 (oW (K := 64) (r := 10) wi_K_walk_64 rfl), rfl, rfl⟩
theorem dK_walk_75 : dn tK_walk 75 (.getfield 18) 3 78 := ⟨o_180 0 18 18 (oWd (K := 64) (r := 11) wi_K_walk_64 rfl), rfl⟩
theorem dK_walk_78 : dl tK_walk 78 .iload_n .iload 3 79 := Or.inl ⟨3, o_29 (oW (K := 64) (r := 14) wi_K_walk_64 rfl), rfl, rfl⟩
theorem dK_walk_79 : dn tK_walk 79 (.iconst 1) 1 80 := ⟨o_4 (oW (K := 64) (r := 15) wi_K_walk_64 rfl), rfl⟩
theorem dK_walk_80 : dn tK_walk 80 (.iadd) 1 81 := ⟨o_96 (oW (K := 64) (r := 16) wi_K_walk_64 rfl), rfl⟩
theorem dK_walk_81 : dl tK_walk 81 .aload_n .aload 0 82 := Or.inl ⟨0, o_42 (oW (K := 64) (r := 17) wi_K_walk_64 rfl), rfl, rfl⟩
theorem dK_walk_82 : dn tK_walk 82 (.getfield 18) 3 85 := ⟨o_180 0 18 18 (oWd (K := 64) (r := 18) wi_K_walk_64 rfl), rfl⟩
theorem dK_walk_85 : dl tK_walk 85 .iload_n .iload 3 86 := Or.inl ⟨3, o_29 (oW (K := 64) (r := 21) wi_K_walk_64 rfl), rfl, rfl⟩
theorem dK_walk_86 : dn tK_walk 86 (.iaload) 1 87 := ⟨o_46 (oW (K := 64) (r := 22) wi_K_walk_64 rfl), rfl⟩
theorem dK_walk_87 : dl tK_walk 87 .iload_n .iload 4 89 := Or.inr ⟨o_21 4 (oW (K := 64) (r := 23) wi_K_walk_64 rfl), rfl⟩
theorem dK_walk_89 : dn tK_walk 89 (.iconst 1) 1 90 := ⟨o_4 (oW (K := 64) (r := 25) wi_K_walk_64 rfl), rfl⟩
theorem dK_walk_90 : db tK_walk 90 (.if_icmp .ne) 97 93 := ⟨7, o_160 0 7 7 (oWd (K := 64) (r := 26) wi_K_walk_64 rfl), rfl, rfl⟩
theorem dK_walk_93 : dn tK_walk 93 (.iconst 1) 1 94 := ⟨o_4 (oW (K := 64) (r := 29) wi_K_walk_64 rfl), rfl⟩
theorem dK_walk_94 : db tK_walk 94 .goto 108 97 := ⟨14, o_167 0 14 14 (oWd (K := 64) (r := 30) wi_K_walk_64 rfl), rfl, rfl⟩
def wl_K_walk_96 : List Nat := [14, 21, 4, 6, 160, 0, 7, 2, 167, 0, 4, 3, 96, 79, 132, 3, 1, 167, 255, 169, 28, 172]
theorem wi_K_walk_96 : oC tK_walk.2.1 96 wl_K_walk_96 = true := by decide +kernel
theorem dK_walk_97 : dl tK_walk 97 .iload_n .iload 4 99 := Or.inr ⟨o_21 4 (oW (K := 96) (r := 1) wi_K_walk_96 rfl), rfl⟩
theorem dK_walk_99 : dn tK_walk 99 (.iconst 3) 1 100 := ⟨o_6 (oW (K := 96) (r := 3) wi_K_walk_96 rfl), rfl⟩
theorem dK_walk_100 : db tK_walk 100 (.if_icmp .ne) 107 103 := ⟨7, o_160 0 7 7 (oWd (K := 96) (r := 4) wi_K_walk_96 rfl), rfl, rfl⟩
theorem dK_walk_103 : dn tK_walk 103 (.iconst (-1)) 1 104 := ⟨o_2 (oW (K := 96) (r := 7) wi_K_walk_96 rfl), rfl⟩
theorem dK_walk_104 : db tK_walk 104 .goto 108 107 := ⟨4, o_167 0 4 4 (oWd (K := 96) (r := 8) wi_K_walk_96 rfl), rfl, rfl⟩
theorem dK_walk_107 : dn tK_walk 107 (.iconst 0) 1 108 := ⟨o_3 (oW (K := 96) (r := 11) wi_K_walk_96 rfl), rfl⟩
theorem dK_walk_108 : dn tK_walk 108 (.iadd) 1 109 := ⟨o_96 (oW (K := 96) (r := 12) wi_K_walk_96 rfl), rfl⟩
theorem dK_walk_109 : dn tK_walk 109 (.iastore) 1 110 := ⟨o_79 (oW (K := 96) (r := 13) wi_K_walk_96 rfl), rfl⟩
theorem dK_walk_110 : dn tK_walk 110 (.iinc 3 1) 3 113 := ⟨o_132 3 1 1 (oWd (K := 96) (r := 14) wi_K_walk_96 rfl), rfl⟩
theorem dK_walk_113 : db tK_walk 113 .goto 26 116 := ⟨-87, o_167 255 169 (-87) (oWd (K := 96) (r := 17) wi_K_walk_96 rfl), rfl, rfl⟩
theorem dK_walk_116 : dl tK_walk 116 .iload_n .iload 2 117 := Or.inl ⟨2, o_28 (oW (K := 96) (r := 20) wi_K_walk_96 rfl), rfl, rfl⟩
theorem dK_walk_117 : dn tK_walk 117 (.ireturn) 1 118 := ⟨o_172 (oW (K := 96) (r := 21) wi_K_walk_96 rfl), rfl⟩
def wl_K_wayHome_0 : List Nat := [42, 43, 182, 0, 63, 61, 42, 180, 0, 15, 28, 46, 184, 0, 47, 42, 180, 0, 18, 28, 46, 184, 0, 47, 96, 172]
theorem wi_K_wayHome_0 : oC tK_wayHome.2.1 0 wl_K_wayHome_0 = true := by decide +kernel
theorem dK_wayHome_0 : dl tK_wayHome 0 .aload_n .aload 0 1 := Or.inl ⟨0, o_42 (oW (K := 0) (r := 0) wi_K_wayHome_0 rfl), rfl, rfl⟩
theorem dK_wayHome_1 : dl tK_wayHome 1 .aload_n .aload 1 2 := Or.inl ⟨1, o_43 (oW (K := 0) (r := 1) wi_K_wayHome_0 rfl), rfl, rfl⟩
theorem dK_wayHome_2 : dn tK_wayHome 2 (.invokevirtual 63) 3 5 := ⟨o_182 0 63 63 (oWd (K := 0) (r := 2) wi_K_wayHome_0 rfl), rfl⟩
theorem dK_wayHome_5 : dl tK_wayHome 5 .istore_n .istore 2 6 := Or.inl ⟨2, o_61 (oW (K := 0) (r := 5) wi_K_wayHome_0 rfl), rfl, rfl⟩
theorem dK_wayHome_6 : dl tK_wayHome 6 .aload_n .aload 0 7 := Or.inl ⟨0, o_42 (oW (K := 0) (r := 6) wi_K_wayHome_0 rfl), rfl, rfl⟩
theorem dK_wayHome_7 : dn tK_wayHome 7 (.getfield 15) 3 10 := ⟨o_180 0 15 15 (oWd (K := 0) (r := 7) wi_K_wayHome_0 rfl), rfl⟩
theorem dK_wayHome_10 : dl tK_wayHome 10 .iload_n .iload 2 11 := Or.inl ⟨2, o_28 (oW (K := 0) (r := 10) wi_K_wayHome_0 rfl), rfl, rfl⟩
theorem dK_wayHome_11 : dn tK_wayHome 11 (.iaload) 1 12 := ⟨o_46 (oW (K := 0) (r := 11) wi_K_wayHome_0 rfl), rfl⟩
theorem dK_wayHome_12 : dn tK_wayHome 12 (.invokestatic 47) 3 15 := ⟨o_184 0 47 47 (oWd (K := 0) (r := 12) wi_K_wayHome_0 rfl), rfl⟩
theorem dK_wayHome_15 : dl tK_wayHome 15 .aload_n .aload 0 16 := Or.inl ⟨0, o_42 (oW (K := 0) (r := 15) wi_K_wayHome_0 rfl), rfl, rfl⟩
theorem dK_wayHome_16 : dn tK_wayHome 16 (.getfield 18) 3 19 := ⟨o_180 0 18 18 (oWd (K := 0) (r := 16) wi_K_wayHome_0 rfl), rfl⟩
theorem dK_wayHome_19 : dl tK_wayHome 19 .iload_n .iload 2 20 := Or.inl ⟨2, o_28 (oW (K := 0) (r := 19) wi_K_wayHome_0 rfl), rfl, rfl⟩
theorem dK_wayHome_20 : dn tK_wayHome 20 (.iaload) 1 21 := ⟨o_46 (oW (K := 0) (r := 20) wi_K_wayHome_0 rfl), rfl⟩
theorem dK_wayHome_21 : dn tK_wayHome 21 (.invokestatic 47) 3 24 := ⟨o_184 0 47 47 (oWd (K := 0) (r := 21) wi_K_wayHome_0 rfl), rfl⟩
theorem dK_wayHome_24 : dn tK_wayHome 24 (.iadd) 1 25 := ⟨o_96 (oW (K := 0) (r := 24) wi_K_wayHome_0 rfl), rfl⟩
theorem dK_wayHome_25 : dn tK_wayHome 25 (.ireturn) 1 26 := ⟨o_172 (oW (K := 0) (r := 25) wi_K_wayHome_0 rfl), rfl⟩
def wl_K_placesCrossed_0 : List Nat := [42, 43, 182, 0, 63, 61, 3, 62, 3, 54, 4, 21, 4, 28, 163, 0, 74, 3, 54, 5, 3, 54, 6, 21, 6, 21, 4, 162, 0, 46, 42, 180, 0, 15, 21, 6, 46, 42]
theorem wi_K_placesCrossed_0 : oC tK_placesCrossed.2.1 0 wl_K_placesCrossed_0 = true := by decide +kernel
theorem dK_placesCrossed_0 : dl tK_placesCrossed 0 .aload_n .aload 0 1 := Or.inl ⟨0, o_42 (oW (K := 0) (r := 0) wi_K_placesCrossed_0 rfl), rfl, rfl⟩
theorem dK_placesCrossed_1 : dl tK_placesCrossed 1 .aload_n .aload 1 2 := Or.inl ⟨1, o_43 (oW (K := 0) (r := 1) wi_K_placesCrossed_0 rfl), rfl, rfl⟩
theorem dK_placesCrossed_2 : dn tK_placesCrossed 2 (.invokevirtual 63) 3 5 := ⟨o_182 0 63 63 (oWd (K := 0) (r := 2) wi_K_placesCrossed_0 rfl), rfl⟩
theorem dK_placesCrossed_5 : dl tK_placesCrossed 5 .istore_n .istore 2 6 := Or.inl ⟨2, o_61 (oW (K := 0) (r := 5) wi_K_placesCrossed_0 rfl), rfl, rfl⟩
theorem dK_placesCrossed_6 : dn tK_placesCrossed 6 (.iconst 0) 1 7 := ⟨o_3 (oW (K := 0) (r := 6) wi_K_placesCrossed_0 rfl), rfl⟩
theorem dK_placesCrossed_7 : dl tK_placesCrossed 7 .istore_n .istore 3 8 := Or.inl ⟨3, o_62 (oW (K := 0) (r := 7) wi_K_placesCrossed_0 rfl), rfl, rfl⟩
theorem dK_placesCrossed_8 : dn tK_placesCrossed 8 (.iconst 0) 1 9 := ⟨o_3 (oW (K := 0) (r := 8) wi_K_placesCrossed_0 rfl), rfl⟩
theorem dK_placesCrossed_9 : dl tK_placesCrossed 9 .istore_n .istore 4 11 := Or.inr ⟨o_54 4 (oW (K := 0) (r := 9) wi_K_placesCrossed_0 rfl), rfl⟩
theorem dK_placesCrossed_11 : dl tK_placesCrossed 11 .iload_n .iload 4 13 := Or.inr ⟨o_21 4 (oW (K := 0) (r := 11) wi_K_placesCrossed_0 rfl), rfl⟩
theorem dK_placesCrossed_13 : dl tK_placesCrossed 13 .iload_n .iload 2 14 := Or.inl ⟨2, o_28 (oW (K := 0) (r := 13) wi_K_placesCrossed_0 rfl), rfl, rfl⟩
theorem dK_placesCrossed_14 : db tK_placesCrossed 14 (.if_icmp .gt) 88 17 := ⟨74, o_163 0 74 74 (oWd (K := 0) (r := 14) wi_K_placesCrossed_0 rfl), rfl, rfl⟩
theorem dK_placesCrossed_17 : dn tK_placesCrossed 17 (.iconst 0) 1 18 := ⟨o_3 (oW (K := 0) (r := 17) wi_K_placesCrossed_0 rfl), rfl⟩
theorem dK_placesCrossed_18 : dl tK_placesCrossed 18 .istore_n .istore 5 20 := Or.inr ⟨o_54 5 (oW (K := 0) (r := 18) wi_K_placesCrossed_0 rfl), rfl⟩
theorem dK_placesCrossed_20 : dn tK_placesCrossed 20 (.iconst 0) 1 21 := ⟨o_3 (oW (K := 0) (r := 20) wi_K_placesCrossed_0 rfl), rfl⟩
theorem dK_placesCrossed_21 : dl tK_placesCrossed 21 .istore_n .istore 6 23 := Or.inr ⟨o_54 6 (oW (K := 0) (r := 21) wi_K_placesCrossed_0 rfl), rfl⟩
theorem dK_placesCrossed_23 : dl tK_placesCrossed 23 .iload_n .iload 6 25 := Or.inr ⟨o_21 6 (oW (K := 0) (r := 23) wi_K_placesCrossed_0 rfl), rfl⟩
theorem dK_placesCrossed_25 : dl tK_placesCrossed 25 .iload_n .iload 4 27 := Or.inr ⟨o_21 4 (oW (K := 0) (r := 25) wi_K_placesCrossed_0 rfl), rfl⟩
theorem dK_placesCrossed_27 : db tK_placesCrossed 27 (.if_icmp .ge) 73 30 := ⟨46, o_162 0 46 46 (oWd (K := 0) (r := 27) wi_K_placesCrossed_0 rfl), rfl, rfl⟩
theorem dK_placesCrossed_30 : dl tK_placesCrossed 30 .aload_n .aload 0 31 := Or.inl ⟨0, o_42 (oW (K := 0) (r := 30) wi_K_placesCrossed_0 rfl), rfl, rfl⟩
theorem dK_placesCrossed_31 : dn tK_placesCrossed 31 (.getfield 15) 3 34 := ⟨o_180 0 15 15 (oWd (K := 0) (r := 31) wi_K_placesCrossed_0 rfl), rfl⟩
def wl_K_placesCrossed_32 : List Nat := [0, 15, 21, 6, 46, 42, 180, 0, 15, 21, 4, 46, 160, 0, 23, 42, 180, 0, 18, 21, 6, 46, 42, 180, 0, 18, 21, 4, 46, 160, 0, 6, 132, 5, 1, 132, 6, 1]
theorem wi_K_placesCrossed_32 : oC tK_placesCrossed.2.1 32 wl_K_placesCrossed_32 = true := by decide +kernel
theorem dK_placesCrossed_34 : dl tK_placesCrossed 34 .iload_n .iload 6 36 := Or.inr ⟨o_21 6 (oW (K := 32) (r := 2) wi_K_placesCrossed_32 rfl), rfl⟩
theorem dK_placesCrossed_36 : dn tK_placesCrossed 36 (.iaload) 1 37 := ⟨o_46 (oW (K := 32) (r := 4) wi_K_placesCrossed_32 rfl), rfl⟩
theorem dK_placesCrossed_37 : dl tK_placesCrossed 37 .aload_n .aload 0 38 := Or.inl ⟨0, o_42 (oW (K := 32) (r := 5) wi_K_placesCrossed_32 rfl), rfl, rfl⟩
theorem dK_placesCrossed_38 : dn tK_placesCrossed 38 (.getfield 15) 3 41 := ⟨o_180 0 15 15 (oWd (K := 32) (r := 6) wi_K_placesCrossed_32 rfl), rfl⟩
theorem dK_placesCrossed_41 : dl tK_placesCrossed 41 .iload_n .iload 4 43 := Or.inr ⟨o_21 4 (oW (K := 32) (r := 9) wi_K_placesCrossed_32 rfl), rfl⟩
theorem dK_placesCrossed_43 : dn tK_placesCrossed 43 (.iaload) 1 44 := ⟨o_46 (oW (K := 32) (r := 11) wi_K_placesCrossed_32 rfl), rfl⟩
theorem dK_placesCrossed_44 : db tK_placesCrossed 44 (.if_icmp .ne) 67 47 := ⟨23, o_160 0 23 23 (oWd (K := 32) (r := 12) wi_K_placesCrossed_32 rfl), rfl, rfl⟩
theorem dK_placesCrossed_47 : dl tK_placesCrossed 47 .aload_n .aload 0 48 := Or.inl ⟨0, o_42 (oW (K := 32) (r := 15) wi_K_placesCrossed_32 rfl), rfl, rfl⟩
theorem dK_placesCrossed_48 : dn tK_placesCrossed 48 (.getfield 18) 3 51 := ⟨o_180 0 18 18 (oWd (K := 32) (r := 16) wi_K_placesCrossed_32 rfl), rfl⟩
theorem dK_placesCrossed_51 : dl tK_placesCrossed 51 .iload_n .iload 6 53 := Or.inr ⟨o_21 6 (oW (K := 32) (r := 19) wi_K_placesCrossed_32 rfl), rfl⟩
theorem dK_placesCrossed_53 : dn tK_placesCrossed 53 (.iaload) 1 54 := ⟨o_46 (oW (K := 32) (r := 21) wi_K_placesCrossed_32 rfl), rfl⟩
theorem dK_placesCrossed_54 : dl tK_placesCrossed 54 .aload_n .aload 0 55 := Or.inl ⟨0, o_42 (oW (K := 32) (r := 22) wi_K_placesCrossed_32 rfl), rfl, rfl⟩
theorem dK_placesCrossed_55 : dn tK_placesCrossed 55 (.getfield 18) 3 58 := ⟨o_180 0 18 18 (oWd (K := 32) (r := 23) wi_K_placesCrossed_32 rfl), rfl⟩
theorem dK_placesCrossed_58 : dl tK_placesCrossed 58 .iload_n .iload 4 60 := Or.inr ⟨o_21 4 (oW (K := 32) (r := 26) wi_K_placesCrossed_32 rfl), rfl⟩
theorem dK_placesCrossed_60 : dn tK_placesCrossed 60 (.iaload) 1 61 := ⟨o_46 (oW (K := 32) (r := 28) wi_K_placesCrossed_32 rfl), rfl⟩
theorem dK_placesCrossed_61 : db tK_placesCrossed 61 (.if_icmp .ne) 67 64 := ⟨6, o_160 0 6 6 (oWd (K := 32) (r := 29) wi_K_placesCrossed_32 rfl), rfl, rfl⟩
def wl_K_placesCrossed_64 : List Nat := [132, 5, 1, 132, 6, 1, 167, 255, 209, 21, 5, 4, 160, 0, 6, 132, 3, 1, 132, 4, 1, 167, 255, 182, 29, 172]
theorem wi_K_placesCrossed_64 : oC tK_placesCrossed.2.1 64 wl_K_placesCrossed_64 = true := by decide +kernel
theorem dK_placesCrossed_64 : dn tK_placesCrossed 64 (.iinc 5 1) 3 67 := ⟨o_132 5 1 1 (oWd (K := 64) (r := 0) wi_K_placesCrossed_64 rfl), rfl⟩
theorem dK_placesCrossed_67 : dn tK_placesCrossed 67 (.iinc 6 1) 3 70 := ⟨o_132 6 1 1 (oWd (K := 64) (r := 3) wi_K_placesCrossed_64 rfl), rfl⟩
theorem dK_placesCrossed_70 : db tK_placesCrossed 70 .goto 23 73 := ⟨-47, o_167 255 209 (-47) (oWd (K := 64) (r := 6) wi_K_placesCrossed_64 rfl), rfl, rfl⟩
theorem dK_placesCrossed_73 : dl tK_placesCrossed 73 .iload_n .iload 5 75 := Or.inr ⟨o_21 5 (oW (K := 64) (r := 9) wi_K_placesCrossed_64 rfl), rfl⟩
theorem dK_placesCrossed_75 : dn tK_placesCrossed 75 (.iconst 1) 1 76 := ⟨o_4 (oW (K := 64) (r := 11) wi_K_placesCrossed_64 rfl), rfl⟩
theorem dK_placesCrossed_76 : db tK_placesCrossed 76 (.if_icmp .ne) 82 79 := ⟨6, o_160 0 6 6 (oWd (K := 64) (r := 12) wi_K_placesCrossed_64 rfl), rfl, rfl⟩
theorem dK_placesCrossed_79 : dn tK_placesCrossed 79 (.iinc 3 1) 3 82 := ⟨o_132 3 1 1 (oWd (K := 64) (r := 15) wi_K_placesCrossed_64 rfl), rfl⟩
theorem dK_placesCrossed_82 : dn tK_placesCrossed 82 (.iinc 4 1) 3 85 := ⟨o_132 4 1 1 (oWd (K := 64) (r := 18) wi_K_placesCrossed_64 rfl), rfl⟩
theorem dK_placesCrossed_85 : db tK_placesCrossed 85 .goto 11 88 := ⟨-74, o_167 255 182 (-74) (oWd (K := 64) (r := 21) wi_K_placesCrossed_64 rfl), rfl, rfl⟩
theorem dK_placesCrossed_88 : dl tK_placesCrossed 88 .iload_n .iload 3 89 := Or.inl ⟨3, o_29 (oW (K := 64) (r := 24) wi_K_placesCrossed_64 rfl), rfl, rfl⟩
theorem dK_placesCrossed_89 : dn tK_placesCrossed 89 (.ireturn) 1 90 := ⟨o_172 (oW (K := 64) (r := 25) wi_K_placesCrossed_64 rfl), rfl⟩
def wl_K_doneBy_0 : List Nat := [18, 67, 54, 4, 3, 54, 5, 21, 5, 42, 180, 0, 21, 162, 0, 66, 27, 21, 5, 122, 4, 126, 154, 0, 51, 28, 42, 21, 5, 3, 182, 0, 27, 96, 54, 6, 29, 21]
theorem wi_K_doneBy_0 : oC tK_doneBy.2.1 0 wl_K_doneBy_0 = true := by decide +kernel
theorem dK_doneBy_0 : dn tK_doneBy 0 (.ldc 67) 2 2 := ⟨o_18 67 (oW (K := 0) (r := 0) wi_K_doneBy_0 rfl), rfl⟩
theorem dK_doneBy_2 : dl tK_doneBy 2 .istore_n .istore 4 4 := Or.inr ⟨o_54 4 (oW (K := 0) (r := 2) wi_K_doneBy_0 rfl), rfl⟩
theorem dK_doneBy_4 : dn tK_doneBy 4 (.iconst 0) 1 5 := ⟨o_3 (oW (K := 0) (r := 4) wi_K_doneBy_0 rfl), rfl⟩
theorem dK_doneBy_5 : dl tK_doneBy 5 .istore_n .istore 5 7 := Or.inr ⟨o_54 5 (oW (K := 0) (r := 5) wi_K_doneBy_0 rfl), rfl⟩
theorem dK_doneBy_7 : dl tK_doneBy 7 .iload_n .iload 5 9 := Or.inr ⟨o_21 5 (oW (K := 0) (r := 7) wi_K_doneBy_0 rfl), rfl⟩
theorem dK_doneBy_9 : dl tK_doneBy 9 .aload_n .aload 0 10 := Or.inl ⟨0, o_42 (oW (K := 0) (r := 9) wi_K_doneBy_0 rfl), rfl, rfl⟩
theorem dK_doneBy_10 : dn tK_doneBy 10 (.getfield 21) 3 13 := ⟨o_180 0 21 21 (oWd (K := 0) (r := 10) wi_K_doneBy_0 rfl), rfl⟩
theorem dK_doneBy_13 : db tK_doneBy 13 (.if_icmp .ge) 79 16 := ⟨66, o_162 0 66 66 (oWd (K := 0) (r := 13) wi_K_doneBy_0 rfl), rfl, rfl⟩
theorem dK_doneBy_16 : dl tK_doneBy 16 .iload_n .iload 1 17 := Or.inl ⟨1, o_27 (oW (K := 0) (r := 16) wi_K_doneBy_0 rfl), rfl, rfl⟩
theorem dK_doneBy_17 : dl tK_doneBy 17 .iload_n .iload 5 19 := Or.inr ⟨o_21 5 (oW (K := 0) (r := 17) wi_K_doneBy_0 rfl), rfl⟩
theorem dK_doneBy_19 : dn tK_doneBy 19 (.ishr) 1 20 := ⟨o_122 (oW (K := 0) (r := 19) wi_K_doneBy_0 rfl), rfl⟩
theorem dK_doneBy_20 : dn tK_doneBy 20 (.iconst 1) 1 21 := ⟨o_4 (oW (K := 0) (r := 20) wi_K_doneBy_0 rfl), rfl⟩
theorem dK_doneBy_21 : dn tK_doneBy 21 (.iand) 1 22 := ⟨o_126 (oW (K := 0) (r := 21) wi_K_doneBy_0 rfl), rfl⟩
theorem dK_doneBy_22 : db tK_doneBy 22 (.ifCond .ne) 73 25 := ⟨51, o_154 0 51 51 (oWd (K := 0) (r := 22) wi_K_doneBy_0 rfl), rfl, rfl⟩
theorem dK_doneBy_25 : dl tK_doneBy 25 .iload_n .iload 2 26 := Or.inl ⟨2, o_28 (oW (K := 0) (r := 25) wi_K_doneBy_0 rfl), rfl, rfl⟩
theorem dK_doneBy_26 : dl tK_doneBy 26 .aload_n .aload 0 27 := Or.inl ⟨0, o_42 (oW (K := 0) (r := 26) wi_K_doneBy_0 rfl), rfl, rfl⟩
theorem dK_doneBy_27 : dl tK_doneBy 27 .iload_n .iload 5 29 := Or.inr ⟨o_21 5 (oW (K := 0) (r := 27) wi_K_doneBy_0 rfl), rfl⟩
theorem dK_doneBy_29 : dn tK_doneBy 29 (.iconst 0) 1 30 := ⟨o_3 (oW (K := 0) (r := 29) wi_K_doneBy_0 rfl), rfl⟩
theorem dK_doneBy_30 : dn tK_doneBy 30 (.invokevirtual 27) 3 33 := ⟨o_182 0 27 27 (oWd (K := 0) (r := 30) wi_K_doneBy_0 rfl), rfl⟩
def wl_K_doneBy_32 : List Nat := [27, 96, 54, 6, 29, 21, 6, 184, 0, 40, 42, 21, 5, 4, 182, 0, 27, 96, 54, 7, 21, 4, 42, 27, 4, 21, 5, 120, 128, 21, 6, 21, 7, 184, 0, 68, 184, 0]
theorem wi_K_doneBy_32 : oC tK_doneBy.2.1 32 wl_K_doneBy_32 = true := by decide +kernel
theorem dK_doneBy_33 : dn tK_doneBy 33 (.iadd) 1 34 := ⟨o_96 (oW (K := 32) (r := 1) wi_K_doneBy_32 rfl), rfl⟩
theorem dK_doneBy_34 : dl tK_doneBy 34 .istore_n .istore 6 36 := Or.inr ⟨o_54 6 (oW (K := 32) (r := 2) wi_K_doneBy_32 rfl), rfl⟩
theorem dK_doneBy_36 : dl tK_doneBy 36 .iload_n .iload 3 37 := Or.inl ⟨3, o_29 (oW (K := 32) (r := 4) wi_K_doneBy_32 rfl), rfl, rfl⟩
theorem dK_doneBy_37 : dl tK_doneBy 37 .iload_n .iload 6 39 := Or.inr ⟨o_21 6 (oW (K := 32) (r := 5) wi_K_doneBy_32 rfl), rfl⟩
theorem dK_doneBy_39 : dn tK_doneBy 39 (.invokestatic 40) 3 42 := ⟨o_184 0 40 40 (oWd (K := 32) (r := 7) wi_K_doneBy_32 rfl), rfl⟩
theorem dK_doneBy_42 : dl tK_doneBy 42 .aload_n .aload 0 43 := Or.inl ⟨0, o_42 (oW (K := 32) (r := 10) wi_K_doneBy_32 rfl), rfl, rfl⟩
theorem dK_doneBy_43 : dl tK_doneBy 43 .iload_n .iload 5 45 := Or.inr ⟨o_21 5 (oW (K := 32) (r := 11) wi_K_doneBy_32 rfl), rfl⟩
theorem dK_doneBy_45 : dn tK_doneBy 45 (.iconst 1) 1 46 := ⟨o_4 (oW (K := 32) (r := 13) wi_K_doneBy_32 rfl), rfl⟩
theorem dK_doneBy_46 : dn tK_doneBy 46 (.invokevirtual 27) 3 49 := ⟨o_182 0 27 27 (oWd (K := 32) (r := 14) wi_K_doneBy_32 rfl), rfl⟩
theorem dK_doneBy_49 : dn tK_doneBy 49 (.iadd) 1 50 := ⟨o_96 (oW (K := 32) (r := 17) wi_K_doneBy_32 rfl), rfl⟩
theorem dK_doneBy_50 : dl tK_doneBy 50 .istore_n .istore 7 52 := Or.inr ⟨o_54 7 (oW (K := 32) (r := 18) wi_K_doneBy_32 rfl), rfl⟩
theorem dK_doneBy_52 : dl tK_doneBy 52 .iload_n .iload 4 54 := Or.inr ⟨o_21 4 (oW (K := 32) (r := 20) wi_K_doneBy_32 rfl), rfl⟩
theorem dK_doneBy_54 : dl tK_doneBy 54 .aload_n .aload 0 55 := Or.inl ⟨0, o_42 (oW (K := 32) (r := 22) wi_K_doneBy_32 rfl), rfl, rfl⟩
theorem dK_doneBy_55 : dl tK_doneBy 55 .iload_n .iload 1 56 := Or.inl ⟨1, o_27 (oW (K := 32) (r := 23) wi_K_doneBy_32 rfl), rfl, rfl⟩
theorem dK_doneBy_56 : dn tK_doneBy 56 (.iconst 1) 1 57 := ⟨o_4 (oW (K := 32) (r := 24) wi_K_doneBy_32 rfl), rfl⟩
theorem dK_doneBy_57 : dl tK_doneBy 57 .iload_n .iload 5 59 := Or.inr ⟨o_21 5 (oW (K := 32) (r := 25) wi_K_doneBy_32 rfl), rfl⟩
theorem dK_doneBy_59 : dn tK_doneBy 59 (.ishl) 1 60 := ⟨o_120 (oW (K := 32) (r := 27) wi_K_doneBy_32 rfl), rfl⟩
theorem dK_doneBy_60 : dn tK_doneBy 60 (.ior) 1 61 := ⟨o_128 (oW (K := 32) (r := 28) wi_K_doneBy_32 rfl), rfl⟩
theorem dK_doneBy_61 : dl tK_doneBy 61 .iload_n .iload 6 63 := Or.inr ⟨o_21 6 (oW (K := 32) (r := 29) wi_K_doneBy_32 rfl), rfl⟩
theorem dK_doneBy_63 : dl tK_doneBy 63 .iload_n .iload 7 65 := Or.inr ⟨o_21 7 (oW (K := 32) (r := 31) wi_K_doneBy_32 rfl), rfl⟩
def wl_K_doneBy_64 : List Nat := [7, 184, 0, 68, 184, 0, 35, 54, 4, 132, 5, 1, 167, 255, 187, 21, 4, 18, 67, 160, 0, 7, 29, 167, 0, 5, 21, 4, 172]
theorem wi_K_doneBy_64 : oC tK_doneBy.2.1 64 wl_K_doneBy_64 = true := by decide +kernel
theorem dK_doneBy_65 : dn tK_doneBy 65 (.invokestatic 68) 3 68 := ⟨o_184 0 68 68 (oWd (K := 64) (r := 1) wi_K_doneBy_64 rfl), rfl⟩
theorem dK_doneBy_68 : dn tK_doneBy 68 (.invokestatic 35) 3 71 := ⟨o_184 0 35 35 (oWd (K := 64) (r := 4) wi_K_doneBy_64 rfl), rfl⟩
theorem dK_doneBy_71 : dl tK_doneBy 71 .istore_n .istore 4 73 := Or.inr ⟨o_54 4 (oW (K := 64) (r := 7) wi_K_doneBy_64 rfl), rfl⟩
theorem dK_doneBy_73 : dn tK_doneBy 73 (.iinc 5 1) 3 76 := ⟨o_132 5 1 1 (oWd (K := 64) (r := 9) wi_K_doneBy_64 rfl), rfl⟩
theorem dK_doneBy_76 : db tK_doneBy 76 .goto 7 79 := ⟨-69, o_167 255 187 (-69) (oWd (K := 64) (r := 12) wi_K_doneBy_64 rfl), rfl, rfl⟩
theorem dK_doneBy_79 : dl tK_doneBy 79 .iload_n .iload 4 81 := Or.inr ⟨o_21 4 (oW (K := 64) (r := 15) wi_K_doneBy_64 rfl), rfl⟩
theorem dK_doneBy_81 : dn tK_doneBy 81 (.ldc 67) 2 83 := ⟨o_18 67 (oW (K := 64) (r := 17) wi_K_doneBy_64 rfl), rfl⟩
theorem dK_doneBy_83 : db tK_doneBy 83 (.if_icmp .ne) 90 86 := ⟨7, o_160 0 7 7 (oWd (K := 64) (r := 19) wi_K_doneBy_64 rfl), rfl, rfl⟩
theorem dK_doneBy_86 : dl tK_doneBy 86 .iload_n .iload 3 87 := Or.inl ⟨3, o_29 (oW (K := 64) (r := 22) wi_K_doneBy_64 rfl), rfl, rfl⟩
theorem dK_doneBy_87 : db tK_doneBy 87 .goto 92 90 := ⟨5, o_167 0 5 5 (oWd (K := 64) (r := 23) wi_K_doneBy_64 rfl), rfl, rfl⟩
theorem dK_doneBy_90 : dl tK_doneBy 90 .iload_n .iload 4 92 := Or.inr ⟨o_21 4 (oW (K := 64) (r := 26) wi_K_doneBy_64 rfl), rfl⟩
theorem dK_doneBy_92 : dn tK_doneBy 92 (.ireturn) 1 93 := ⟨o_172 (oW (K := 64) (r := 28) wi_K_doneBy_64 rfl), rfl⟩
def wl_K_loafAt_0 : List Nat := [42, 3, 3, 3, 184, 0, 68, 61, 3, 62, 3, 54, 4, 3, 54, 5, 2, 54, 6, 3, 54, 7, 21, 7, 27, 163, 0, 65, 42, 29, 21, 4, 21, 5, 28, 184, 0, 72]
theorem wi_K_loafAt_0 : oC tK_loafAt.2.1 0 wl_K_loafAt_0 = true := by decide +kernel
theorem dK_loafAt_0 : dl tK_loafAt 0 .aload_n .aload 0 1 := Or.inl ⟨0, o_42 (oW (K := 0) (r := 0) wi_K_loafAt_0 rfl), rfl, rfl⟩
theorem dK_loafAt_1 : dn tK_loafAt 1 (.iconst 0) 1 2 := ⟨o_3 (oW (K := 0) (r := 1) wi_K_loafAt_0 rfl), rfl⟩
theorem dK_loafAt_2 : dn tK_loafAt 2 (.iconst 0) 1 3 := ⟨o_3 (oW (K := 0) (r := 2) wi_K_loafAt_0 rfl), rfl⟩
theorem dK_loafAt_3 : dn tK_loafAt 3 (.iconst 0) 1 4 := ⟨o_3 (oW (K := 0) (r := 3) wi_K_loafAt_0 rfl), rfl⟩
theorem dK_loafAt_4 : dn tK_loafAt 4 (.invokestatic 68) 3 7 := ⟨o_184 0 68 68 (oWd (K := 0) (r := 4) wi_K_loafAt_0 rfl), rfl⟩
theorem dK_loafAt_7 : dl tK_loafAt 7 .istore_n .istore 2 8 := Or.inl ⟨2, o_61 (oW (K := 0) (r := 7) wi_K_loafAt_0 rfl), rfl, rfl⟩
theorem dK_loafAt_8 : dn tK_loafAt 8 (.iconst 0) 1 9 := ⟨o_3 (oW (K := 0) (r := 8) wi_K_loafAt_0 rfl), rfl⟩
theorem dK_loafAt_9 : dl tK_loafAt 9 .istore_n .istore 3 10 := Or.inl ⟨3, o_62 (oW (K := 0) (r := 9) wi_K_loafAt_0 rfl), rfl, rfl⟩
theorem dK_loafAt_10 : dn tK_loafAt 10 (.iconst 0) 1 11 := ⟨o_3 (oW (K := 0) (r := 10) wi_K_loafAt_0 rfl), rfl⟩
theorem dK_loafAt_11 : dl tK_loafAt 11 .istore_n .istore 4 13 := Or.inr ⟨o_54 4 (oW (K := 0) (r := 11) wi_K_loafAt_0 rfl), rfl⟩
theorem dK_loafAt_13 : dn tK_loafAt 13 (.iconst 0) 1 14 := ⟨o_3 (oW (K := 0) (r := 13) wi_K_loafAt_0 rfl), rfl⟩
theorem dK_loafAt_14 : dl tK_loafAt 14 .istore_n .istore 5 16 := Or.inr ⟨o_54 5 (oW (K := 0) (r := 14) wi_K_loafAt_0 rfl), rfl⟩
theorem dK_loafAt_16 : dn tK_loafAt 16 (.iconst (-1)) 1 17 := ⟨o_2 (oW (K := 0) (r := 16) wi_K_loafAt_0 rfl), rfl⟩
theorem dK_loafAt_17 : dl tK_loafAt 17 .istore_n .istore 6 19 := Or.inr ⟨o_54 6 (oW (K := 0) (r := 17) wi_K_loafAt_0 rfl), rfl⟩
theorem dK_loafAt_19 : dn tK_loafAt 19 (.iconst 0) 1 20 := ⟨o_3 (oW (K := 0) (r := 19) wi_K_loafAt_0 rfl), rfl⟩
theorem dK_loafAt_20 : dl tK_loafAt 20 .istore_n .istore 7 22 := Or.inr ⟨o_54 7 (oW (K := 0) (r := 20) wi_K_loafAt_0 rfl), rfl⟩
theorem dK_loafAt_22 : dl tK_loafAt 22 .iload_n .iload 7 24 := Or.inr ⟨o_21 7 (oW (K := 0) (r := 22) wi_K_loafAt_0 rfl), rfl⟩
theorem dK_loafAt_24 : dl tK_loafAt 24 .iload_n .iload 1 25 := Or.inl ⟨1, o_27 (oW (K := 0) (r := 24) wi_K_loafAt_0 rfl), rfl, rfl⟩
theorem dK_loafAt_25 : db tK_loafAt 25 (.if_icmp .gt) 90 28 := ⟨65, o_163 0 65 65 (oWd (K := 0) (r := 25) wi_K_loafAt_0 rfl), rfl, rfl⟩
theorem dK_loafAt_28 : dl tK_loafAt 28 .aload_n .aload 0 29 := Or.inl ⟨0, o_42 (oW (K := 0) (r := 28) wi_K_loafAt_0 rfl), rfl, rfl⟩
theorem dK_loafAt_29 : dl tK_loafAt 29 .iload_n .iload 3 30 := Or.inl ⟨3, o_29 (oW (K := 0) (r := 29) wi_K_loafAt_0 rfl), rfl, rfl⟩
theorem dK_loafAt_30 : dl tK_loafAt 30 .iload_n .iload 4 32 := Or.inr ⟨o_21 4 (oW (K := 0) (r := 30) wi_K_loafAt_0 rfl), rfl⟩
def wl_K_loafAt_32 : List Nat := [21, 5, 28, 184, 0, 72, 54, 6, 21, 6, 2, 160, 0, 5, 2, 172, 29, 4, 21, 6, 120, 128, 62, 21, 4, 42, 21, 6, 3, 182, 0, 27, 96, 54, 4, 21, 5, 21]
theorem wi_K_loafAt_32 : oC tK_loafAt.2.1 32 wl_K_loafAt_32 = true := by decide +kernel
theorem dK_loafAt_32 : dl tK_loafAt 32 .iload_n .iload 5 34 := Or.inr ⟨o_21 5 (oW (K := 32) (r := 0) wi_K_loafAt_32 rfl), rfl⟩
theorem dK_loafAt_34 : dl tK_loafAt 34 .iload_n .iload 2 35 := Or.inl ⟨2, o_28 (oW (K := 32) (r := 2) wi_K_loafAt_32 rfl), rfl, rfl⟩
theorem dK_loafAt_35 : dn tK_loafAt 35 (.invokestatic 72) 3 38 := ⟨o_184 0 72 72 (oWd (K := 32) (r := 3) wi_K_loafAt_32 rfl), rfl⟩
theorem dK_loafAt_38 : dl tK_loafAt 38 .istore_n .istore 6 40 := Or.inr ⟨o_54 6 (oW (K := 32) (r := 6) wi_K_loafAt_32 rfl), rfl⟩
theorem dK_loafAt_40 : dl tK_loafAt 40 .iload_n .iload 6 42 := Or.inr ⟨o_21 6 (oW (K := 32) (r := 8) wi_K_loafAt_32 rfl), rfl⟩
theorem dK_loafAt_42 : dn tK_loafAt 42 (.iconst (-1)) 1 43 := ⟨o_2 (oW (K := 32) (r := 10) wi_K_loafAt_32 rfl), rfl⟩
theorem dK_loafAt_43 : db tK_loafAt 43 (.if_icmp .ne) 48 46 := ⟨5, o_160 0 5 5 (oWd (K := 32) (r := 11) wi_K_loafAt_32 rfl), rfl, rfl⟩
theorem dK_loafAt_46 : dn tK_loafAt 46 (.iconst (-1)) 1 47 := ⟨o_2 (oW (K := 32) (r := 14) wi_K_loafAt_32 rfl), rfl⟩
theorem dK_loafAt_47 : dn tK_loafAt 47 (.ireturn) 1 48 := ⟨o_172 (oW (K := 32) (r := 15) wi_K_loafAt_32 rfl), rfl⟩
theorem dK_loafAt_48 : dl tK_loafAt 48 .iload_n .iload 3 49 := Or.inl ⟨3, o_29 (oW (K := 32) (r := 16) wi_K_loafAt_32 rfl), rfl, rfl⟩
theorem dK_loafAt_49 : dn tK_loafAt 49 (.iconst 1) 1 50 := ⟨o_4 (oW (K := 32) (r := 17) wi_K_loafAt_32 rfl), rfl⟩
theorem dK_loafAt_50 : dl tK_loafAt 50 .iload_n .iload 6 52 := Or.inr ⟨o_21 6 (oW (K := 32) (r := 18) wi_K_loafAt_32 rfl), rfl⟩
theorem dK_loafAt_52 : dn tK_loafAt 52 (.ishl) 1 53 := ⟨o_120 (oW (K := 32) (r := 20) wi_K_loafAt_32 rfl), rfl⟩
theorem dK_loafAt_53 : dn tK_loafAt 53 (.ior) 1 54 := ⟨o_128 (oW (K := 32) (r := 21) wi_K_loafAt_32 rfl), rfl⟩
theorem dK_loafAt_54 : dl tK_loafAt 54 .istore_n .istore 3 55 := Or.inl ⟨3, o_62 (oW (K := 32) (r := 22) wi_K_loafAt_32 rfl), rfl, rfl⟩
theorem dK_loafAt_55 : dl tK_loafAt 55 .iload_n .iload 4 57 := Or.inr ⟨o_21 4 (oW (K := 32) (r := 23) wi_K_loafAt_32 rfl), rfl⟩
theorem dK_loafAt_57 : dl tK_loafAt 57 .aload_n .aload 0 58 := Or.inl ⟨0, o_42 (oW (K := 32) (r := 25) wi_K_loafAt_32 rfl), rfl, rfl⟩
theorem dK_loafAt_58 : dl tK_loafAt 58 .iload_n .iload 6 60 := Or.inr ⟨o_21 6 (oW (K := 32) (r := 26) wi_K_loafAt_32 rfl), rfl⟩
theorem dK_loafAt_60 : dn tK_loafAt 60 (.iconst 0) 1 61 := ⟨o_3 (oW (K := 32) (r := 28) wi_K_loafAt_32 rfl), rfl⟩
theorem dK_loafAt_61 : dn tK_loafAt 61 (.invokevirtual 27) 3 64 := ⟨o_182 0 27 27 (oWd (K := 32) (r := 29) wi_K_loafAt_32 rfl), rfl⟩
def wl_K_loafAt_64 : List Nat := [96, 54, 4, 21, 5, 21, 4, 184, 0, 40, 42, 21, 6, 4, 182, 0, 27, 96, 54, 5, 132, 7, 1, 167, 255, 191, 21, 6, 172]
theorem wi_K_loafAt_64 : oC tK_loafAt.2.1 64 wl_K_loafAt_64 = true := by decide +kernel
theorem dK_loafAt_64 : dn tK_loafAt 64 (.iadd) 1 65 := ⟨o_96 (oW (K := 64) (r := 0) wi_K_loafAt_64 rfl), rfl⟩
theorem dK_loafAt_65 : dl tK_loafAt 65 .istore_n .istore 4 67 := Or.inr ⟨o_54 4 (oW (K := 64) (r := 1) wi_K_loafAt_64 rfl), rfl⟩
theorem dK_loafAt_67 : dl tK_loafAt 67 .iload_n .iload 5 69 := Or.inr ⟨o_21 5 (oW (K := 64) (r := 3) wi_K_loafAt_64 rfl), rfl⟩
theorem dK_loafAt_69 : dl tK_loafAt 69 .iload_n .iload 4 71 := Or.inr ⟨o_21 4 (oW (K := 64) (r := 5) wi_K_loafAt_64 rfl), rfl⟩
theorem dK_loafAt_71 : dn tK_loafAt 71 (.invokestatic 40) 3 74 := ⟨o_184 0 40 40 (oWd (K := 64) (r := 7) wi_K_loafAt_64 rfl), rfl⟩
theorem dK_loafAt_74 : dl tK_loafAt 74 .aload_n .aload 0 75 := Or.inl ⟨0, o_42 (oW (K := 64) (r := 10) wi_K_loafAt_64 rfl), rfl, rfl⟩
theorem dK_loafAt_75 : dl tK_loafAt 75 .iload_n .iload 6 77 := Or.inr ⟨o_21 6 (oW (K := 64) (r := 11) wi_K_loafAt_64 rfl), rfl⟩
theorem dK_loafAt_77 : dn tK_loafAt 77 (.iconst 1) 1 78 := ⟨o_4 (oW (K := 64) (r := 13) wi_K_loafAt_64 rfl), rfl⟩
theorem dK_loafAt_78 : dn tK_loafAt 78 (.invokevirtual 27) 3 81 := ⟨o_182 0 27 27 (oWd (K := 64) (r := 14) wi_K_loafAt_64 rfl), rfl⟩
theorem dK_loafAt_81 : dn tK_loafAt 81 (.iadd) 1 82 := ⟨o_96 (oW (K := 64) (r := 17) wi_K_loafAt_64 rfl), rfl⟩
theorem dK_loafAt_82 : dl tK_loafAt 82 .istore_n .istore 5 84 := Or.inr ⟨o_54 5 (oW (K := 64) (r := 18) wi_K_loafAt_64 rfl), rfl⟩
theorem dK_loafAt_84 : dn tK_loafAt 84 (.iinc 7 1) 3 87 := ⟨o_132 7 1 1 (oWd (K := 64) (r := 20) wi_K_loafAt_64 rfl), rfl⟩
theorem dK_loafAt_87 : db tK_loafAt 87 .goto 22 90 := ⟨-65, o_167 255 191 (-65) (oWd (K := 64) (r := 23) wi_K_loafAt_64 rfl), rfl, rfl⟩
theorem dK_loafAt_90 : dl tK_loafAt 90 .iload_n .iload 6 92 := Or.inr ⟨o_21 6 (oW (K := 64) (r := 26) wi_K_loafAt_64 rfl), rfl⟩
theorem dK_loafAt_92 : dn tK_loafAt 92 (.ireturn) 1 93 := ⟨o_172 (oW (K := 64) (r := 28) wi_K_loafAt_64 rfl), rfl⟩
def wl_K_firstThatKeeps_0 : List Nat := [3, 54, 5, 21, 5, 42, 180, 0, 21, 162, 0, 67, 27, 21, 5, 122, 4, 126, 154, 0, 52, 28, 42, 21, 5, 3, 182, 0, 27, 96, 54, 6, 29, 21, 6, 184, 0, 40]
theorem wi_K_firstThatKeeps_0 : oC tK_firstThatKeeps.2.1 0 wl_K_firstThatKeeps_0 = true := by decide +kernel
theorem dK_firstThatKeeps_0 : dn tK_firstThatKeeps 0 (.iconst 0) 1 1 := ⟨o_3 (oW (K := 0) (r := 0) wi_K_firstThatKeeps_0 rfl), rfl⟩
theorem dK_firstThatKeeps_1 : dl tK_firstThatKeeps 1 .istore_n .istore 5 3 := Or.inr ⟨o_54 5 (oW (K := 0) (r := 1) wi_K_firstThatKeeps_0 rfl), rfl⟩
theorem dK_firstThatKeeps_3 : dl tK_firstThatKeeps 3 .iload_n .iload 5 5 := Or.inr ⟨o_21 5 (oW (K := 0) (r := 3) wi_K_firstThatKeeps_0 rfl), rfl⟩
theorem dK_firstThatKeeps_5 : dl tK_firstThatKeeps 5 .aload_n .aload 0 6 := Or.inl ⟨0, o_42 (oW (K := 0) (r := 5) wi_K_firstThatKeeps_0 rfl), rfl, rfl⟩
theorem dK_firstThatKeeps_6 : dn tK_firstThatKeeps 6 (.getfield 21) 3 9 := ⟨o_180 0 21 21 (oWd (K := 0) (r := 6) wi_K_firstThatKeeps_0 rfl), rfl⟩
theorem dK_firstThatKeeps_9 : db tK_firstThatKeeps 9 (.if_icmp .ge) 76 12 := ⟨67, o_162 0 67 67 (oWd (K := 0) (r := 9) wi_K_firstThatKeeps_0 rfl), rfl, rfl⟩
theorem dK_firstThatKeeps_12 : dl tK_firstThatKeeps 12 .iload_n .iload 1 13 := Or.inl ⟨1, o_27 (oW (K := 0) (r := 12) wi_K_firstThatKeeps_0 rfl), rfl, rfl⟩
theorem dK_firstThatKeeps_13 : dl tK_firstThatKeeps 13 .iload_n .iload 5 15 := Or.inr ⟨o_21 5 (oW (K := 0) (r := 13) wi_K_firstThatKeeps_0 rfl), rfl⟩
theorem dK_firstThatKeeps_15 : dn tK_firstThatKeeps 15 (.ishr) 1 16 := ⟨o_122 (oW (K := 0) (r := 15) wi_K_firstThatKeeps_0 rfl), rfl⟩
theorem dK_firstThatKeeps_16 : dn tK_firstThatKeeps 16 (.iconst 1) 1 17 := ⟨o_4 (oW (K := 0) (r := 16) wi_K_firstThatKeeps_0 rfl), rfl⟩
theorem dK_firstThatKeeps_17 : dn tK_firstThatKeeps 17 (.iand) 1 18 := ⟨o_126 (oW (K := 0) (r := 17) wi_K_firstThatKeeps_0 rfl), rfl⟩
theorem dK_firstThatKeeps_18 : db tK_firstThatKeeps 18 (.ifCond .ne) 70 21 := ⟨52, o_154 0 52 52 (oWd (K := 0) (r := 18) wi_K_firstThatKeeps_0 rfl), rfl, rfl⟩
theorem dK_firstThatKeeps_21 : dl tK_firstThatKeeps 21 .iload_n .iload 2 22 := Or.inl ⟨2, o_28 (oW (K := 0) (r := 21) wi_K_firstThatKeeps_0 rfl), rfl, rfl⟩
theorem dK_firstThatKeeps_22 : dl tK_firstThatKeeps 22 .aload_n .aload 0 23 := Or.inl ⟨0, o_42 (oW (K := 0) (r := 22) wi_K_firstThatKeeps_0 rfl), rfl, rfl⟩
theorem dK_firstThatKeeps_23 : dl tK_firstThatKeeps 23 .iload_n .iload 5 25 := Or.inr ⟨o_21 5 (oW (K := 0) (r := 23) wi_K_firstThatKeeps_0 rfl), rfl⟩
theorem dK_firstThatKeeps_25 : dn tK_firstThatKeeps 25 (.iconst 0) 1 26 := ⟨o_3 (oW (K := 0) (r := 25) wi_K_firstThatKeeps_0 rfl), rfl⟩
theorem dK_firstThatKeeps_26 : dn tK_firstThatKeeps 26 (.invokevirtual 27) 3 29 := ⟨o_182 0 27 27 (oWd (K := 0) (r := 26) wi_K_firstThatKeeps_0 rfl), rfl⟩
theorem dK_firstThatKeeps_29 : dn tK_firstThatKeeps 29 (.iadd) 1 30 := ⟨o_96 (oW (K := 0) (r := 29) wi_K_firstThatKeeps_0 rfl), rfl⟩
theorem dK_firstThatKeeps_30 : dl tK_firstThatKeeps 30 .istore_n .istore 6 32 := Or.inr ⟨o_54 6 (oW (K := 0) (r := 30) wi_K_firstThatKeeps_0 rfl), rfl⟩
def wl_K_firstThatKeeps_32 : List Nat := [29, 21, 6, 184, 0, 40, 42, 21, 5, 4, 182, 0, 27, 96, 54, 7, 42, 27, 4, 21, 5, 120, 128, 21, 6, 21, 7, 184, 0, 68, 21, 4, 160, 0, 6, 21, 5, 172]
theorem wi_K_firstThatKeeps_32 : oC tK_firstThatKeeps.2.1 32 wl_K_firstThatKeeps_32 = true := by decide +kernel
theorem dK_firstThatKeeps_32 : dl tK_firstThatKeeps 32 .iload_n .iload 3 33 := Or.inl ⟨3, o_29 (oW (K := 32) (r := 0) wi_K_firstThatKeeps_32 rfl), rfl, rfl⟩
theorem dK_firstThatKeeps_33 : dl tK_firstThatKeeps 33 .iload_n .iload 6 35 := Or.inr ⟨o_21 6 (oW (K := 32) (r := 1) wi_K_firstThatKeeps_32 rfl), rfl⟩
theorem dK_firstThatKeeps_35 : dn tK_firstThatKeeps 35 (.invokestatic 40) 3 38 := ⟨o_184 0 40 40 (oWd (K := 32) (r := 3) wi_K_firstThatKeeps_32 rfl), rfl⟩
theorem dK_firstThatKeeps_38 : dl tK_firstThatKeeps 38 .aload_n .aload 0 39 := Or.inl ⟨0, o_42 (oW (K := 32) (r := 6) wi_K_firstThatKeeps_32 rfl), rfl, rfl⟩
theorem dK_firstThatKeeps_39 : dl tK_firstThatKeeps 39 .iload_n .iload 5 41 := Or.inr ⟨o_21 5 (oW (K := 32) (r := 7) wi_K_firstThatKeeps_32 rfl), rfl⟩
theorem dK_firstThatKeeps_41 : dn tK_firstThatKeeps 41 (.iconst 1) 1 42 := ⟨o_4 (oW (K := 32) (r := 9) wi_K_firstThatKeeps_32 rfl), rfl⟩
theorem dK_firstThatKeeps_42 : dn tK_firstThatKeeps 42 (.invokevirtual 27) 3 45 := ⟨o_182 0 27 27 (oWd (K := 32) (r := 10) wi_K_firstThatKeeps_32 rfl), rfl⟩
theorem dK_firstThatKeeps_45 : dn tK_firstThatKeeps 45 (.iadd) 1 46 := ⟨o_96 (oW (K := 32) (r := 13) wi_K_firstThatKeeps_32 rfl), rfl⟩
theorem dK_firstThatKeeps_46 : dl tK_firstThatKeeps 46 .istore_n .istore 7 48 := Or.inr ⟨o_54 7 (oW (K := 32) (r := 14) wi_K_firstThatKeeps_32 rfl), rfl⟩
theorem dK_firstThatKeeps_48 : dl tK_firstThatKeeps 48 .aload_n .aload 0 49 := Or.inl ⟨0, o_42 (oW (K := 32) (r := 16) wi_K_firstThatKeeps_32 rfl), rfl, rfl⟩
theorem dK_firstThatKeeps_49 : dl tK_firstThatKeeps 49 .iload_n .iload 1 50 := Or.inl ⟨1, o_27 (oW (K := 32) (r := 17) wi_K_firstThatKeeps_32 rfl), rfl, rfl⟩
theorem dK_firstThatKeeps_50 : dn tK_firstThatKeeps 50 (.iconst 1) 1 51 := ⟨o_4 (oW (K := 32) (r := 18) wi_K_firstThatKeeps_32 rfl), rfl⟩
theorem dK_firstThatKeeps_51 : dl tK_firstThatKeeps 51 .iload_n .iload 5 53 := Or.inr ⟨o_21 5 (oW (K := 32) (r := 19) wi_K_firstThatKeeps_32 rfl), rfl⟩
theorem dK_firstThatKeeps_53 : dn tK_firstThatKeeps 53 (.ishl) 1 54 := ⟨o_120 (oW (K := 32) (r := 21) wi_K_firstThatKeeps_32 rfl), rfl⟩
theorem dK_firstThatKeeps_54 : dn tK_firstThatKeeps 54 (.ior) 1 55 := ⟨o_128 (oW (K := 32) (r := 22) wi_K_firstThatKeeps_32 rfl), rfl⟩
theorem dK_firstThatKeeps_55 : dl tK_firstThatKeeps 55 .iload_n .iload 6 57 := Or.inr ⟨o_21 6 (oW (K := 32) (r := 23) wi_K_firstThatKeeps_32 rfl), rfl⟩
theorem dK_firstThatKeeps_57 : dl tK_firstThatKeeps 57 .iload_n .iload 7 59 := Or.inr ⟨o_21 7 (oW (K := 32) (r := 25) wi_K_firstThatKeeps_32 rfl), rfl⟩
theorem dK_firstThatKeeps_59 : dn tK_firstThatKeeps 59 (.invokestatic 68) 3 62 := ⟨o_184 0 68 68 (oWd (K := 32) (r := 27) wi_K_firstThatKeeps_32 rfl), rfl⟩
theorem dK_firstThatKeeps_62 : dl tK_firstThatKeeps 62 .iload_n .iload 4 64 := Or.inr ⟨o_21 4 (oW (K := 32) (r := 30) wi_K_firstThatKeeps_32 rfl), rfl⟩
def wl_K_firstThatKeeps_64 : List Nat := [160, 0, 6, 21, 5, 172, 132, 5, 1, 167, 255, 186, 2, 172]
theorem wi_K_firstThatKeeps_64 : oC tK_firstThatKeeps.2.1 64 wl_K_firstThatKeeps_64 = true := by decide +kernel
theorem dK_firstThatKeeps_64 : db tK_firstThatKeeps 64 (.if_icmp .ne) 70 67 := ⟨6, o_160 0 6 6 (oWd (K := 64) (r := 0) wi_K_firstThatKeeps_64 rfl), rfl, rfl⟩
theorem dK_firstThatKeeps_67 : dl tK_firstThatKeeps 67 .iload_n .iload 5 69 := Or.inr ⟨o_21 5 (oW (K := 64) (r := 3) wi_K_firstThatKeeps_64 rfl), rfl⟩
theorem dK_firstThatKeeps_69 : dn tK_firstThatKeeps 69 (.ireturn) 1 70 := ⟨o_172 (oW (K := 64) (r := 5) wi_K_firstThatKeeps_64 rfl), rfl⟩
theorem dK_firstThatKeeps_70 : dn tK_firstThatKeeps 70 (.iinc 5 1) 3 73 := ⟨o_132 5 1 1 (oWd (K := 64) (r := 6) wi_K_firstThatKeeps_64 rfl), rfl⟩
theorem dK_firstThatKeeps_73 : db tK_firstThatKeeps 73 .goto 3 76 := ⟨-70, o_167 255 186 (-70) (oWd (K := 64) (r := 9) wi_K_firstThatKeeps_64 rfl), rfl, rfl⟩
theorem dK_firstThatKeeps_76 : dn tK_firstThatKeeps 76 (.iconst (-1)) 1 77 := ⟨o_2 (oW (K := 64) (r := 12) wi_K_firstThatKeeps_64 rfl), rfl⟩
theorem dK_firstThatKeeps_77 : dn tK_firstThatKeeps 77 (.ireturn) 1 78 := ⟨o_172 (oW (K := 64) (r := 13) wi_K_firstThatKeeps_64 rfl), rfl⟩
def wl_K_lineOf_0 : List Nat := [27, 62, 3, 54, 4, 21, 4, 16, 12, 162, 0, 36, 42, 29, 184, 0, 76, 54, 5, 21, 5, 2, 160, 0, 14, 28, 153, 0, 8, 21, 4, 167, 0, 4, 29, 172, 21, 5]
theorem wi_K_lineOf_0 : oC tK_lineOf.2.1 0 wl_K_lineOf_0 = true := by decide +kernel
theorem dK_lineOf_0 : dl tK_lineOf 0 .iload_n .iload 1 1 := Or.inl ⟨1, o_27 (oW (K := 0) (r := 0) wi_K_lineOf_0 rfl), rfl, rfl⟩
theorem dK_lineOf_1 : dl tK_lineOf 1 .istore_n .istore 3 2 := Or.inl ⟨3, o_62 (oW (K := 0) (r := 1) wi_K_lineOf_0 rfl), rfl, rfl⟩
theorem dK_lineOf_2 : dn tK_lineOf 2 (.iconst 0) 1 3 := ⟨o_3 (oW (K := 0) (r := 2) wi_K_lineOf_0 rfl), rfl⟩
theorem dK_lineOf_3 : dl tK_lineOf 3 .istore_n .istore 4 5 := Or.inr ⟨o_54 4 (oW (K := 0) (r := 3) wi_K_lineOf_0 rfl), rfl⟩
theorem dK_lineOf_5 : dl tK_lineOf 5 .iload_n .iload 4 7 := Or.inr ⟨o_21 4 (oW (K := 0) (r := 5) wi_K_lineOf_0 rfl), rfl⟩
theorem dK_lineOf_7 : dn tK_lineOf 7 (.bipush 12) 2 9 := ⟨o_16 12 12 (oWd (K := 0) (r := 7) wi_K_lineOf_0 rfl), rfl⟩
theorem dK_lineOf_9 : db tK_lineOf 9 (.if_icmp .ge) 45 12 := ⟨36, o_162 0 36 36 (oWd (K := 0) (r := 9) wi_K_lineOf_0 rfl), rfl, rfl⟩
theorem dK_lineOf_12 : dl tK_lineOf 12 .aload_n .aload 0 13 := Or.inl ⟨0, o_42 (oW (K := 0) (r := 12) wi_K_lineOf_0 rfl), rfl, rfl⟩
theorem dK_lineOf_13 : dl tK_lineOf 13 .iload_n .iload 3 14 := Or.inl ⟨3, o_29 (oW (K := 0) (r := 13) wi_K_lineOf_0 rfl), rfl, rfl⟩
theorem dK_lineOf_14 : dn tK_lineOf 14 (.invokestatic 76) 3 17 := ⟨o_184 0 76 76 (oWd (K := 0) (r := 14) wi_K_lineOf_0 rfl), rfl⟩
theorem dK_lineOf_17 : dl tK_lineOf 17 .istore_n .istore 5 19 := Or.inr ⟨o_54 5 (oW (K := 0) (r := 17) wi_K_lineOf_0 rfl), rfl⟩
theorem dK_lineOf_19 : dl tK_lineOf 19 .iload_n .iload 5 21 := Or.inr ⟨o_21 5 (oW (K := 0) (r := 19) wi_K_lineOf_0 rfl), rfl⟩
theorem dK_lineOf_21 : dn tK_lineOf 21 (.iconst (-1)) 1 22 := ⟨o_2 (oW (K := 0) (r := 21) wi_K_lineOf_0 rfl), rfl⟩
theorem dK_lineOf_22 : db tK_lineOf 22 (.if_icmp .ne) 36 25 := ⟨14, o_160 0 14 14 (oWd (K := 0) (r := 22) wi_K_lineOf_0 rfl), rfl, rfl⟩
theorem dK_lineOf_25 : dl tK_lineOf 25 .iload_n .iload 2 26 := Or.inl ⟨2, o_28 (oW (K := 0) (r := 25) wi_K_lineOf_0 rfl), rfl, rfl⟩
theorem dK_lineOf_26 : db tK_lineOf 26 (.ifCond .eq) 34 29 := ⟨8, o_153 0 8 8 (oWd (K := 0) (r := 26) wi_K_lineOf_0 rfl), rfl, rfl⟩
theorem dK_lineOf_29 : dl tK_lineOf 29 .iload_n .iload 4 31 := Or.inr ⟨o_21 4 (oW (K := 0) (r := 29) wi_K_lineOf_0 rfl), rfl⟩
theorem dK_lineOf_31 : db tK_lineOf 31 .goto 35 34 := ⟨4, o_167 0 4 4 (oWd (K := 0) (r := 31) wi_K_lineOf_0 rfl), rfl, rfl⟩
def wl_K_lineOf_32 : List Nat := [0, 4, 29, 172, 21, 5, 62, 132, 4, 1, 167, 255, 219, 2, 172]
theorem wi_K_lineOf_32 : oC tK_lineOf.2.1 32 wl_K_lineOf_32 = true := by decide +kernel
theorem dK_lineOf_34 : dl tK_lineOf 34 .iload_n .iload 3 35 := Or.inl ⟨3, o_29 (oW (K := 32) (r := 2) wi_K_lineOf_32 rfl), rfl, rfl⟩
theorem dK_lineOf_35 : dn tK_lineOf 35 (.ireturn) 1 36 := ⟨o_172 (oW (K := 32) (r := 3) wi_K_lineOf_32 rfl), rfl⟩
theorem dK_lineOf_36 : dl tK_lineOf 36 .iload_n .iload 5 38 := Or.inr ⟨o_21 5 (oW (K := 32) (r := 4) wi_K_lineOf_32 rfl), rfl⟩
theorem dK_lineOf_38 : dl tK_lineOf 38 .istore_n .istore 3 39 := Or.inl ⟨3, o_62 (oW (K := 32) (r := 6) wi_K_lineOf_32 rfl), rfl, rfl⟩
theorem dK_lineOf_39 : dn tK_lineOf 39 (.iinc 4 1) 3 42 := ⟨o_132 4 1 1 (oWd (K := 32) (r := 7) wi_K_lineOf_32 rfl), rfl⟩
theorem dK_lineOf_42 : db tK_lineOf 42 .goto 5 45 := ⟨-37, o_167 255 219 (-37) (oWd (K := 32) (r := 10) wi_K_lineOf_32 rfl), rfl, rfl⟩
theorem dK_lineOf_45 : dn tK_lineOf 45 (.iconst (-1)) 1 46 := ⟨o_2 (oW (K := 32) (r := 13) wi_K_lineOf_32 rfl), rfl⟩
theorem dK_lineOf_46 : dn tK_lineOf 46 (.ireturn) 1 47 := ⟨o_172 (oW (K := 32) (r := 14) wi_K_lineOf_32 rfl), rfl⟩
def wl_K_leftBy_0 : List Nat := [3, 61, 28, 42, 180, 0, 21, 162, 0, 26, 42, 28, 3, 182, 0, 27, 27, 160, 0, 10, 42, 28, 4, 182, 0, 27, 172, 132, 2, 1, 167, 255, 228, 2, 172]
theorem wi_K_leftBy_0 : oC tK_leftBy.2.1 0 wl_K_leftBy_0 = true := by decide +kernel
theorem dK_leftBy_0 : dn tK_leftBy 0 (.iconst 0) 1 1 := ⟨o_3 (oW (K := 0) (r := 0) wi_K_leftBy_0 rfl), rfl⟩
theorem dK_leftBy_1 : dl tK_leftBy 1 .istore_n .istore 2 2 := Or.inl ⟨2, o_61 (oW (K := 0) (r := 1) wi_K_leftBy_0 rfl), rfl, rfl⟩
theorem dK_leftBy_2 : dl tK_leftBy 2 .iload_n .iload 2 3 := Or.inl ⟨2, o_28 (oW (K := 0) (r := 2) wi_K_leftBy_0 rfl), rfl, rfl⟩
theorem dK_leftBy_3 : dl tK_leftBy 3 .aload_n .aload 0 4 := Or.inl ⟨0, o_42 (oW (K := 0) (r := 3) wi_K_leftBy_0 rfl), rfl, rfl⟩
theorem dK_leftBy_4 : dn tK_leftBy 4 (.getfield 21) 3 7 := ⟨o_180 0 21 21 (oWd (K := 0) (r := 4) wi_K_leftBy_0 rfl), rfl⟩
theorem dK_leftBy_7 : db tK_leftBy 7 (.if_icmp .ge) 33 10 := ⟨26, o_162 0 26 26 (oWd (K := 0) (r := 7) wi_K_leftBy_0 rfl), rfl, rfl⟩
theorem dK_leftBy_10 : dl tK_leftBy 10 .aload_n .aload 0 11 := Or.inl ⟨0, o_42 (oW (K := 0) (r := 10) wi_K_leftBy_0 rfl), rfl, rfl⟩
theorem dK_leftBy_11 : dl tK_leftBy 11 .iload_n .iload 2 12 := Or.inl ⟨2, o_28 (oW (K := 0) (r := 11) wi_K_leftBy_0 rfl), rfl, rfl⟩
theorem dK_leftBy_12 : dn tK_leftBy 12 (.iconst 0) 1 13 := ⟨o_3 (oW (K := 0) (r := 12) wi_K_leftBy_0 rfl), rfl⟩
theorem dK_leftBy_13 : dn tK_leftBy 13 (.invokevirtual 27) 3 16 := ⟨o_182 0 27 27 (oWd (K := 0) (r := 13) wi_K_leftBy_0 rfl), rfl⟩
theorem dK_leftBy_16 : dl tK_leftBy 16 .iload_n .iload 1 17 := Or.inl ⟨1, o_27 (oW (K := 0) (r := 16) wi_K_leftBy_0 rfl), rfl, rfl⟩
theorem dK_leftBy_17 : db tK_leftBy 17 (.if_icmp .ne) 27 20 := ⟨10, o_160 0 10 10 (oWd (K := 0) (r := 17) wi_K_leftBy_0 rfl), rfl, rfl⟩
theorem dK_leftBy_20 : dl tK_leftBy 20 .aload_n .aload 0 21 := Or.inl ⟨0, o_42 (oW (K := 0) (r := 20) wi_K_leftBy_0 rfl), rfl, rfl⟩
theorem dK_leftBy_21 : dl tK_leftBy 21 .iload_n .iload 2 22 := Or.inl ⟨2, o_28 (oW (K := 0) (r := 21) wi_K_leftBy_0 rfl), rfl, rfl⟩
theorem dK_leftBy_22 : dn tK_leftBy 22 (.iconst 1) 1 23 := ⟨o_4 (oW (K := 0) (r := 22) wi_K_leftBy_0 rfl), rfl⟩
theorem dK_leftBy_23 : dn tK_leftBy 23 (.invokevirtual 27) 3 26 := ⟨o_182 0 27 27 (oWd (K := 0) (r := 23) wi_K_leftBy_0 rfl), rfl⟩
theorem dK_leftBy_26 : dn tK_leftBy 26 (.ireturn) 1 27 := ⟨o_172 (oW (K := 0) (r := 26) wi_K_leftBy_0 rfl), rfl⟩
theorem dK_leftBy_27 : dn tK_leftBy 27 (.iinc 2 1) 3 30 := ⟨o_132 2 1 1 (oWd (K := 0) (r := 27) wi_K_leftBy_0 rfl), rfl⟩
theorem dK_leftBy_30 : db tK_leftBy 30 .goto 2 33 := ⟨-28, o_167 255 228 (-28) (oWd (K := 0) (r := 30) wi_K_leftBy_0 rfl), rfl, rfl⟩
def wl_K_leftBy_32 : List Nat := [228, 2, 172]
theorem wi_K_leftBy_32 : oC tK_leftBy.2.1 32 wl_K_leftBy_32 = true := by decide +kernel
theorem dK_leftBy_33 : dn tK_leftBy 33 (.iconst (-1)) 1 34 := ⟨o_2 (oW (K := 32) (r := 1) wi_K_leftBy_32 rfl), rfl⟩
theorem dK_leftBy_34 : dn tK_leftBy 34 (.ireturn) 1 35 := ⟨o_172 (oW (K := 32) (r := 2) wi_K_leftBy_32 rfl), rfl⟩
def wl_K_windowWays_0 : List Nat := [4, 60, 3, 61, 3, 62, 3, 54, 4, 3, 54, 5, 4, 54, 6, 21, 6, 26, 163, 0, 38, 27, 21, 4, 96, 28, 96, 21, 5, 96, 54, 7, 29, 54, 8, 28, 62, 27]
theorem wi_K_windowWays_0 : oC tK_windowWays.2.1 0 wl_K_windowWays_0 = true := by decide +kernel
theorem dK_windowWays_0 : dn tK_windowWays 0 (.iconst 1) 1 1 := ⟨o_4 (oW (K := 0) (r := 0) wi_K_windowWays_0 rfl), rfl⟩
theorem dK_windowWays_1 : dl tK_windowWays 1 .istore_n .istore 1 2 := Or.inl ⟨1, o_60 (oW (K := 0) (r := 1) wi_K_windowWays_0 rfl), rfl, rfl⟩
theorem dK_windowWays_2 : dn tK_windowWays 2 (.iconst 0) 1 3 := ⟨o_3 (oW (K := 0) (r := 2) wi_K_windowWays_0 rfl), rfl⟩
theorem dK_windowWays_3 : dl tK_windowWays 3 .istore_n .istore 2 4 := Or.inl ⟨2, o_61 (oW (K := 0) (r := 3) wi_K_windowWays_0 rfl), rfl, rfl⟩
theorem dK_windowWays_4 : dn tK_windowWays 4 (.iconst 0) 1 5 := ⟨o_3 (oW (K := 0) (r := 4) wi_K_windowWays_0 rfl), rfl⟩
theorem dK_windowWays_5 : dl tK_windowWays 5 .istore_n .istore 3 6 := Or.inl ⟨3, o_62 (oW (K := 0) (r := 5) wi_K_windowWays_0 rfl), rfl, rfl⟩
theorem dK_windowWays_6 : dn tK_windowWays 6 (.iconst 0) 1 7 := ⟨o_3 (oW (K := 0) (r := 6) wi_K_windowWays_0 rfl), rfl⟩
theorem dK_windowWays_7 : dl tK_windowWays 7 .istore_n .istore 4 9 := Or.inr ⟨o_54 4 (oW (K := 0) (r := 7) wi_K_windowWays_0 rfl), rfl⟩
theorem dK_windowWays_9 : dn tK_windowWays 9 (.iconst 0) 1 10 := ⟨o_3 (oW (K := 0) (r := 9) wi_K_windowWays_0 rfl), rfl⟩
theorem dK_windowWays_10 : dl tK_windowWays 10 .istore_n .istore 5 12 := Or.inr ⟨o_54 5 (oW (K := 0) (r := 10) wi_K_windowWays_0 rfl), rfl⟩
theorem dK_windowWays_12 : dn tK_windowWays 12 (.iconst 1) 1 13 := ⟨o_4 (oW (K := 0) (r := 12) wi_K_windowWays_0 rfl), rfl⟩
theorem dK_windowWays_13 : dl tK_windowWays 13 .istore_n .istore 6 15 := Or.inr ⟨o_54 6 (oW (K := 0) (r := 13) wi_K_windowWays_0 rfl), rfl⟩
theorem dK_windowWays_15 : dl tK_windowWays 15 .iload_n .iload 6 17 := Or.inr ⟨o_21 6 (oW (K := 0) (r := 15) wi_K_windowWays_0 rfl), rfl⟩
theorem dK_windowWays_17 : dl tK_windowWays 17 .iload_n .iload 0 18 := Or.inl ⟨0, o_26 (oW (K := 0) (r := 17) wi_K_windowWays_0 rfl), rfl, rfl⟩
theorem dK_windowWays_18 : db tK_windowWays 18 (.if_icmp .gt) 56 21 := ⟨38, o_163 0 38 38 (oWd (K := 0) (r := 18) wi_K_windowWays_0 rfl), rfl, rfl⟩
theorem dK_windowWays_21 : dl tK_windowWays 21 .iload_n .iload 1 22 := Or.inl ⟨1, o_27 (oW (K := 0) (r := 21) wi_K_windowWays_0 rfl), rfl, rfl⟩
theorem dK_windowWays_22 : dl tK_windowWays 22 .iload_n .iload 4 24 := Or.inr ⟨o_21 4 (oW (K := 0) (r := 22) wi_K_windowWays_0 rfl), rfl⟩
theorem dK_windowWays_24 : dn tK_windowWays 24 (.iadd) 1 25 := ⟨o_96 (oW (K := 0) (r := 24) wi_K_windowWays_0 rfl), rfl⟩
theorem dK_windowWays_25 : dl tK_windowWays 25 .iload_n .iload 2 26 := Or.inl ⟨2, o_28 (oW (K := 0) (r := 25) wi_K_windowWays_0 rfl), rfl, rfl⟩
theorem dK_windowWays_26 : dn tK_windowWays 26 (.iadd) 1 27 := ⟨o_96 (oW (K := 0) (r := 26) wi_K_windowWays_0 rfl), rfl⟩
theorem dK_windowWays_27 : dl tK_windowWays 27 .iload_n .iload 5 29 := Or.inr ⟨o_21 5 (oW (K := 0) (r := 27) wi_K_windowWays_0 rfl), rfl⟩
theorem dK_windowWays_29 : dn tK_windowWays 29 (.iadd) 1 30 := ⟨o_96 (oW (K := 0) (r := 29) wi_K_windowWays_0 rfl), rfl⟩
theorem dK_windowWays_30 : dl tK_windowWays 30 .istore_n .istore 7 32 := Or.inr ⟨o_54 7 (oW (K := 0) (r := 30) wi_K_windowWays_0 rfl), rfl⟩
def wl_K_windowWays_32 : List Nat := [29, 54, 8, 28, 62, 27, 61, 21, 7, 60, 21, 4, 54, 5, 21, 8, 54, 4, 132, 6, 1, 167, 255, 218, 27, 21, 4, 96, 172]
theorem wi_K_windowWays_32 : oC tK_windowWays.2.1 32 wl_K_windowWays_32 = true := by decide +kernel
theorem dK_windowWays_32 : dl tK_windowWays 32 .iload_n .iload 3 33 := Or.inl ⟨3, o_29 (oW (K := 32) (r := 0) wi_K_windowWays_32 rfl), rfl, rfl⟩
theorem dK_windowWays_33 : dl tK_windowWays 33 .istore_n .istore 8 35 := Or.inr ⟨o_54 8 (oW (K := 32) (r := 1) wi_K_windowWays_32 rfl), rfl⟩
theorem dK_windowWays_35 : dl tK_windowWays 35 .iload_n .iload 2 36 := Or.inl ⟨2, o_28 (oW (K := 32) (r := 3) wi_K_windowWays_32 rfl), rfl, rfl⟩
theorem dK_windowWays_36 : dl tK_windowWays 36 .istore_n .istore 3 37 := Or.inl ⟨3, o_62 (oW (K := 32) (r := 4) wi_K_windowWays_32 rfl), rfl, rfl⟩
theorem dK_windowWays_37 : dl tK_windowWays 37 .iload_n .iload 1 38 := Or.inl ⟨1, o_27 (oW (K := 32) (r := 5) wi_K_windowWays_32 rfl), rfl, rfl⟩
theorem dK_windowWays_38 : dl tK_windowWays 38 .istore_n .istore 2 39 := Or.inl ⟨2, o_61 (oW (K := 32) (r := 6) wi_K_windowWays_32 rfl), rfl, rfl⟩
theorem dK_windowWays_39 : dl tK_windowWays 39 .iload_n .iload 7 41 := Or.inr ⟨o_21 7 (oW (K := 32) (r := 7) wi_K_windowWays_32 rfl), rfl⟩
theorem dK_windowWays_41 : dl tK_windowWays 41 .istore_n .istore 1 42 := Or.inl ⟨1, o_60 (oW (K := 32) (r := 9) wi_K_windowWays_32 rfl), rfl, rfl⟩
theorem dK_windowWays_42 : dl tK_windowWays 42 .iload_n .iload 4 44 := Or.inr ⟨o_21 4 (oW (K := 32) (r := 10) wi_K_windowWays_32 rfl), rfl⟩
theorem dK_windowWays_44 : dl tK_windowWays 44 .istore_n .istore 5 46 := Or.inr ⟨o_54 5 (oW (K := 32) (r := 12) wi_K_windowWays_32 rfl), rfl⟩
theorem dK_windowWays_46 : dl tK_windowWays 46 .iload_n .iload 8 48 := Or.inr ⟨o_21 8 (oW (K := 32) (r := 14) wi_K_windowWays_32 rfl), rfl⟩
theorem dK_windowWays_48 : dl tK_windowWays 48 .istore_n .istore 4 50 := Or.inr ⟨o_54 4 (oW (K := 32) (r := 16) wi_K_windowWays_32 rfl), rfl⟩
theorem dK_windowWays_50 : dn tK_windowWays 50 (.iinc 6 1) 3 53 := ⟨o_132 6 1 1 (oWd (K := 32) (r := 18) wi_K_windowWays_32 rfl), rfl⟩
theorem dK_windowWays_53 : db tK_windowWays 53 .goto 15 56 := ⟨-38, o_167 255 218 (-38) (oWd (K := 32) (r := 21) wi_K_windowWays_32 rfl), rfl, rfl⟩
theorem dK_windowWays_56 : dl tK_windowWays 56 .iload_n .iload 1 57 := Or.inl ⟨1, o_27 (oW (K := 32) (r := 24) wi_K_windowWays_32 rfl), rfl, rfl⟩
theorem dK_windowWays_57 : dl tK_windowWays 57 .iload_n .iload 4 59 := Or.inr ⟨o_21 4 (oW (K := 32) (r := 25) wi_K_windowWays_32 rfl), rfl⟩
theorem dK_windowWays_59 : dn tK_windowWays 59 (.iadd) 1 60 := ⟨o_96 (oW (K := 32) (r := 27) wi_K_windowWays_32 rfl), rfl⟩
theorem dK_windowWays_60 : dn tK_windowWays 60 (.ireturn) 1 61 := ⟨o_172 (oW (K := 32) (r := 28) wi_K_windowWays_32 rfl), rfl⟩
def wl_K_weightOf_0 : List Nat := [3, 60, 3, 61, 28, 42, 180, 0, 21, 162, 0, 18, 27, 42, 28, 4, 182, 0, 27, 96, 60, 132, 2, 1, 167, 255, 236, 27, 172]
theorem wi_K_weightOf_0 : oC tK_weightOf.2.1 0 wl_K_weightOf_0 = true := by decide +kernel
theorem dK_weightOf_0 : dn tK_weightOf 0 (.iconst 0) 1 1 := ⟨o_3 (oW (K := 0) (r := 0) wi_K_weightOf_0 rfl), rfl⟩
theorem dK_weightOf_1 : dl tK_weightOf 1 .istore_n .istore 1 2 := Or.inl ⟨1, o_60 (oW (K := 0) (r := 1) wi_K_weightOf_0 rfl), rfl, rfl⟩
theorem dK_weightOf_2 : dn tK_weightOf 2 (.iconst 0) 1 3 := ⟨o_3 (oW (K := 0) (r := 2) wi_K_weightOf_0 rfl), rfl⟩
theorem dK_weightOf_3 : dl tK_weightOf 3 .istore_n .istore 2 4 := Or.inl ⟨2, o_61 (oW (K := 0) (r := 3) wi_K_weightOf_0 rfl), rfl, rfl⟩
theorem dK_weightOf_4 : dl tK_weightOf 4 .iload_n .iload 2 5 := Or.inl ⟨2, o_28 (oW (K := 0) (r := 4) wi_K_weightOf_0 rfl), rfl, rfl⟩
theorem dK_weightOf_5 : dl tK_weightOf 5 .aload_n .aload 0 6 := Or.inl ⟨0, o_42 (oW (K := 0) (r := 5) wi_K_weightOf_0 rfl), rfl, rfl⟩
theorem dK_weightOf_6 : dn tK_weightOf 6 (.getfield 21) 3 9 := ⟨o_180 0 21 21 (oWd (K := 0) (r := 6) wi_K_weightOf_0 rfl), rfl⟩
theorem dK_weightOf_9 : db tK_weightOf 9 (.if_icmp .ge) 27 12 := ⟨18, o_162 0 18 18 (oWd (K := 0) (r := 9) wi_K_weightOf_0 rfl), rfl, rfl⟩
theorem dK_weightOf_12 : dl tK_weightOf 12 .iload_n .iload 1 13 := Or.inl ⟨1, o_27 (oW (K := 0) (r := 12) wi_K_weightOf_0 rfl), rfl, rfl⟩
theorem dK_weightOf_13 : dl tK_weightOf 13 .aload_n .aload 0 14 := Or.inl ⟨0, o_42 (oW (K := 0) (r := 13) wi_K_weightOf_0 rfl), rfl, rfl⟩
theorem dK_weightOf_14 : dl tK_weightOf 14 .iload_n .iload 2 15 := Or.inl ⟨2, o_28 (oW (K := 0) (r := 14) wi_K_weightOf_0 rfl), rfl, rfl⟩
theorem dK_weightOf_15 : dn tK_weightOf 15 (.iconst 1) 1 16 := ⟨o_4 (oW (K := 0) (r := 15) wi_K_weightOf_0 rfl), rfl⟩
theorem dK_weightOf_16 : dn tK_weightOf 16 (.invokevirtual 27) 3 19 := ⟨o_182 0 27 27 (oWd (K := 0) (r := 16) wi_K_weightOf_0 rfl), rfl⟩
theorem dK_weightOf_19 : dn tK_weightOf 19 (.iadd) 1 20 := ⟨o_96 (oW (K := 0) (r := 19) wi_K_weightOf_0 rfl), rfl⟩
theorem dK_weightOf_20 : dl tK_weightOf 20 .istore_n .istore 1 21 := Or.inl ⟨1, o_60 (oW (K := 0) (r := 20) wi_K_weightOf_0 rfl), rfl, rfl⟩
theorem dK_weightOf_21 : dn tK_weightOf 21 (.iinc 2 1) 3 24 := ⟨o_132 2 1 1 (oWd (K := 0) (r := 21) wi_K_weightOf_0 rfl), rfl⟩
theorem dK_weightOf_24 : db tK_weightOf 24 .goto 4 27 := ⟨-20, o_167 255 236 (-20) (oWd (K := 0) (r := 24) wi_K_weightOf_0 rfl), rfl, rfl⟩
theorem dK_weightOf_27 : dl tK_weightOf 27 .iload_n .iload 1 28 := Or.inl ⟨1, o_27 (oW (K := 0) (r := 27) wi_K_weightOf_0 rfl), rfl, rfl⟩
theorem dK_weightOf_28 : dn tK_weightOf 28 (.ireturn) 1 29 := ⟨o_172 (oW (K := 0) (r := 28) wi_K_weightOf_0 rfl), rfl⟩
def wl_K_agreed_0 : List Nat := [42, 184, 0, 80, 60, 3, 61, 3, 62, 29, 16, 12, 162, 0, 71, 3, 54, 4, 3, 54, 5, 21, 5, 42, 180, 0, 21, 162, 0, 36, 42, 21, 5, 3, 182, 0, 27, 29]
theorem wi_K_agreed_0 : oC tK_agreed.2.1 0 wl_K_agreed_0 = true := by decide +kernel
theorem dK_agreed_0 : dl tK_agreed 0 .aload_n .aload 0 1 := Or.inl ⟨0, o_42 (oW (K := 0) (r := 0) wi_K_agreed_0 rfl), rfl, rfl⟩
theorem dK_agreed_1 : dn tK_agreed 1 (.invokestatic 80) 3 4 := ⟨o_184 0 80 80 (oWd (K := 0) (r := 1) wi_K_agreed_0 rfl), rfl⟩
theorem dK_agreed_4 : dl tK_agreed 4 .istore_n .istore 1 5 := Or.inl ⟨1, o_60 (oW (K := 0) (r := 4) wi_K_agreed_0 rfl), rfl, rfl⟩
theorem dK_agreed_5 : dn tK_agreed 5 (.iconst 0) 1 6 := ⟨o_3 (oW (K := 0) (r := 5) wi_K_agreed_0 rfl), rfl⟩
theorem dK_agreed_6 : dl tK_agreed 6 .istore_n .istore 2 7 := Or.inl ⟨2, o_61 (oW (K := 0) (r := 6) wi_K_agreed_0 rfl), rfl, rfl⟩
theorem dK_agreed_7 : dn tK_agreed 7 (.iconst 0) 1 8 := ⟨o_3 (oW (K := 0) (r := 7) wi_K_agreed_0 rfl), rfl⟩
theorem dK_agreed_8 : dl tK_agreed 8 .istore_n .istore 3 9 := Or.inl ⟨3, o_62 (oW (K := 0) (r := 8) wi_K_agreed_0 rfl), rfl, rfl⟩
theorem dK_agreed_9 : dl tK_agreed 9 .iload_n .iload 3 10 := Or.inl ⟨3, o_29 (oW (K := 0) (r := 9) wi_K_agreed_0 rfl), rfl, rfl⟩
theorem dK_agreed_10 : dn tK_agreed 10 (.bipush 12) 2 12 := ⟨o_16 12 12 (oWd (K := 0) (r := 10) wi_K_agreed_0 rfl), rfl⟩
theorem dK_agreed_12 : db tK_agreed 12 (.if_icmp .ge) 83 15 := ⟨71, o_162 0 71 71 (oWd (K := 0) (r := 12) wi_K_agreed_0 rfl), rfl, rfl⟩
theorem dK_agreed_15 : dn tK_agreed 15 (.iconst 0) 1 16 := ⟨o_3 (oW (K := 0) (r := 15) wi_K_agreed_0 rfl), rfl⟩
theorem dK_agreed_16 : dl tK_agreed 16 .istore_n .istore 4 18 := Or.inr ⟨o_54 4 (oW (K := 0) (r := 16) wi_K_agreed_0 rfl), rfl⟩
theorem dK_agreed_18 : dn tK_agreed 18 (.iconst 0) 1 19 := ⟨o_3 (oW (K := 0) (r := 18) wi_K_agreed_0 rfl), rfl⟩
theorem dK_agreed_19 : dl tK_agreed 19 .istore_n .istore 5 21 := Or.inr ⟨o_54 5 (oW (K := 0) (r := 19) wi_K_agreed_0 rfl), rfl⟩
theorem dK_agreed_21 : dl tK_agreed 21 .iload_n .iload 5 23 := Or.inr ⟨o_21 5 (oW (K := 0) (r := 21) wi_K_agreed_0 rfl), rfl⟩
theorem dK_agreed_23 : dl tK_agreed 23 .aload_n .aload 0 24 := Or.inl ⟨0, o_42 (oW (K := 0) (r := 23) wi_K_agreed_0 rfl), rfl, rfl⟩
theorem dK_agreed_24 : dn tK_agreed 24 (.getfield 21) 3 27 := ⟨o_180 0 21 21 (oWd (K := 0) (r := 24) wi_K_agreed_0 rfl), rfl⟩
theorem dK_agreed_27 : db tK_agreed 27 (.if_icmp .ge) 63 30 := ⟨36, o_162 0 36 36 (oWd (K := 0) (r := 27) wi_K_agreed_0 rfl), rfl, rfl⟩
theorem dK_agreed_30 : dl tK_agreed 30 .aload_n .aload 0 31 := Or.inl ⟨0, o_42 (oW (K := 0) (r := 30) wi_K_agreed_0 rfl), rfl, rfl⟩
theorem dK_agreed_31 : dl tK_agreed 31 .iload_n .iload 5 33 := Or.inr ⟨o_21 5 (oW (K := 0) (r := 31) wi_K_agreed_0 rfl), rfl⟩
def wl_K_agreed_32 : List Nat := [5, 3, 182, 0, 27, 29, 122, 4, 126, 4, 160, 0, 15, 21, 4, 42, 21, 5, 4, 182, 0, 27, 96, 54, 4, 132, 5, 1, 167, 255, 217, 5, 21, 4, 104, 27, 164, 0]
theorem wi_K_agreed_32 : oC tK_agreed.2.1 32 wl_K_agreed_32 = true := by decide +kernel
theorem dK_agreed_33 : dn tK_agreed 33 (.iconst 0) 1 34 := ⟨o_3 (oW (K := 32) (r := 1) wi_K_agreed_32 rfl), rfl⟩
theorem dK_agreed_34 : dn tK_agreed 34 (.invokevirtual 27) 3 37 := ⟨o_182 0 27 27 (oWd (K := 32) (r := 2) wi_K_agreed_32 rfl), rfl⟩
theorem dK_agreed_37 : dl tK_agreed 37 .iload_n .iload 3 38 := Or.inl ⟨3, o_29 (oW (K := 32) (r := 5) wi_K_agreed_32 rfl), rfl, rfl⟩
theorem dK_agreed_38 : dn tK_agreed 38 (.ishr) 1 39 := ⟨o_122 (oW (K := 32) (r := 6) wi_K_agreed_32 rfl), rfl⟩
theorem dK_agreed_39 : dn tK_agreed 39 (.iconst 1) 1 40 := ⟨o_4 (oW (K := 32) (r := 7) wi_K_agreed_32 rfl), rfl⟩
theorem dK_agreed_40 : dn tK_agreed 40 (.iand) 1 41 := ⟨o_126 (oW (K := 32) (r := 8) wi_K_agreed_32 rfl), rfl⟩
theorem dK_agreed_41 : dn tK_agreed 41 (.iconst 1) 1 42 := ⟨o_4 (oW (K := 32) (r := 9) wi_K_agreed_32 rfl), rfl⟩
theorem dK_agreed_42 : db tK_agreed 42 (.if_icmp .ne) 57 45 := ⟨15, o_160 0 15 15 (oWd (K := 32) (r := 10) wi_K_agreed_32 rfl), rfl, rfl⟩
theorem dK_agreed_45 : dl tK_agreed 45 .iload_n .iload 4 47 := Or.inr ⟨o_21 4 (oW (K := 32) (r := 13) wi_K_agreed_32 rfl), rfl⟩
theorem dK_agreed_47 : dl tK_agreed 47 .aload_n .aload 0 48 := Or.inl ⟨0, o_42 (oW (K := 32) (r := 15) wi_K_agreed_32 rfl), rfl, rfl⟩
theorem dK_agreed_48 : dl tK_agreed 48 .iload_n .iload 5 50 := Or.inr ⟨o_21 5 (oW (K := 32) (r := 16) wi_K_agreed_32 rfl), rfl⟩
theorem dK_agreed_50 : dn tK_agreed 50 (.iconst 1) 1 51 := ⟨o_4 (oW (K := 32) (r := 18) wi_K_agreed_32 rfl), rfl⟩
theorem dK_agreed_51 : dn tK_agreed 51 (.invokevirtual 27) 3 54 := ⟨o_182 0 27 27 (oWd (K := 32) (r := 19) wi_K_agreed_32 rfl), rfl⟩
theorem dK_agreed_54 : dn tK_agreed 54 (.iadd) 1 55 := ⟨o_96 (oW (K := 32) (r := 22) wi_K_agreed_32 rfl), rfl⟩
theorem dK_agreed_55 : dl tK_agreed 55 .istore_n .istore 4 57 := Or.inr ⟨o_54 4 (oW (K := 32) (r := 23) wi_K_agreed_32 rfl), rfl⟩
theorem dK_agreed_57 : dn tK_agreed 57 (.iinc 5 1) 3 60 := ⟨o_132 5 1 1 (oWd (K := 32) (r := 25) wi_K_agreed_32 rfl), rfl⟩
theorem dK_agreed_60 : db tK_agreed 60 .goto 21 63 := ⟨-39, o_167 255 217 (-39) (oWd (K := 32) (r := 28) wi_K_agreed_32 rfl), rfl, rfl⟩
theorem dK_agreed_63 : dn tK_agreed 63 (.iconst 2) 1 64 := ⟨o_5 (oW (K := 32) (r := 31) wi_K_agreed_32 rfl), rfl⟩
def wl_K_agreed_64 : List Nat := [21, 4, 104, 27, 164, 0, 9, 28, 4, 29, 120, 128, 61, 132, 3, 1, 167, 255, 185, 28, 172]
theorem wi_K_agreed_64 : oC tK_agreed.2.1 64 wl_K_agreed_64 = true := by decide +kernel
theorem dK_agreed_64 : dl tK_agreed 64 .iload_n .iload 4 66 := Or.inr ⟨o_21 4 (oW (K := 64) (r := 0) wi_K_agreed_64 rfl), rfl⟩
theorem dK_agreed_66 : dn tK_agreed 66 (.imul) 1 67 := ⟨o_104 (oW (K := 64) (r := 2) wi_K_agreed_64 rfl), rfl⟩
theorem dK_agreed_67 : dl tK_agreed 67 .iload_n .iload 1 68 := Or.inl ⟨1, o_27 (oW (K := 64) (r := 3) wi_K_agreed_64 rfl), rfl, rfl⟩
theorem dK_agreed_68 : db tK_agreed 68 (.if_icmp .le) 77 71 := ⟨9, o_164 0 9 9 (oWd (K := 64) (r := 4) wi_K_agreed_64 rfl), rfl, rfl⟩
theorem dK_agreed_71 : dl tK_agreed 71 .iload_n .iload 2 72 := Or.inl ⟨2, o_28 (oW (K := 64) (r := 7) wi_K_agreed_64 rfl), rfl, rfl⟩
theorem dK_agreed_72 : dn tK_agreed 72 (.iconst 1) 1 73 := ⟨o_4 (oW (K := 64) (r := 8) wi_K_agreed_64 rfl), rfl⟩
theorem dK_agreed_73 : dl tK_agreed 73 .iload_n .iload 3 74 := Or.inl ⟨3, o_29 (oW (K := 64) (r := 9) wi_K_agreed_64 rfl), rfl, rfl⟩
theorem dK_agreed_74 : dn tK_agreed 74 (.ishl) 1 75 := ⟨o_120 (oW (K := 64) (r := 10) wi_K_agreed_64 rfl), rfl⟩
theorem dK_agreed_75 : dn tK_agreed 75 (.ior) 1 76 := ⟨o_128 (oW (K := 64) (r := 11) wi_K_agreed_64 rfl), rfl⟩
theorem dK_agreed_76 : dl tK_agreed 76 .istore_n .istore 2 77 := Or.inl ⟨2, o_61 (oW (K := 64) (r := 12) wi_K_agreed_64 rfl), rfl, rfl⟩
theorem dK_agreed_77 : dn tK_agreed 77 (.iinc 3 1) 3 80 := ⟨o_132 3 1 1 (oWd (K := 64) (r := 13) wi_K_agreed_64 rfl), rfl⟩
theorem dK_agreed_80 : db tK_agreed 80 .goto 9 83 := ⟨-71, o_167 255 185 (-71) (oWd (K := 64) (r := 16) wi_K_agreed_64 rfl), rfl, rfl⟩
theorem dK_agreed_83 : dl tK_agreed 83 .iload_n .iload 2 84 := Or.inl ⟨2, o_28 (oW (K := 64) (r := 19) wi_K_agreed_64 rfl), rfl, rfl⟩
theorem dK_agreed_84 : dn tK_agreed 84 (.ireturn) 1 85 := ⟨o_172 (oW (K := 64) (r := 20) wi_K_agreed_64 rfl), rfl⟩
def wl_K_leastMajority_0 : List Nat := [42, 184, 0, 80, 60, 3, 61, 3, 62, 16, 9, 54, 4, 21, 4, 4, 161, 0, 54, 3, 54, 5, 21, 5, 42, 180, 0, 21, 162, 0, 36, 42, 21, 5, 4, 182, 0, 27]
theorem wi_K_leastMajority_0 : oC tK_leastMajority.2.1 0 wl_K_leastMajority_0 = true := by decide +kernel
theorem dK_leastMajority_0 : dl tK_leastMajority 0 .aload_n .aload 0 1 := Or.inl ⟨0, o_42 (oW (K := 0) (r := 0) wi_K_leastMajority_0 rfl), rfl, rfl⟩
theorem dK_leastMajority_1 : dn tK_leastMajority 1 (.invokestatic 80) 3 4 := ⟨o_184 0 80 80 (oWd (K := 0) (r := 1) wi_K_leastMajority_0 rfl), rfl⟩
theorem dK_leastMajority_4 : dl tK_leastMajority 4 .istore_n .istore 1 5 := Or.inl ⟨1, o_60 (oW (K := 0) (r := 4) wi_K_leastMajority_0 rfl), rfl, rfl⟩
theorem dK_leastMajority_5 : dn tK_leastMajority 5 (.iconst 0) 1 6 := ⟨o_3 (oW (K := 0) (r := 5) wi_K_leastMajority_0 rfl), rfl⟩
theorem dK_leastMajority_6 : dl tK_leastMajority 6 .istore_n .istore 2 7 := Or.inl ⟨2, o_61 (oW (K := 0) (r := 6) wi_K_leastMajority_0 rfl), rfl, rfl⟩
theorem dK_leastMajority_7 : dn tK_leastMajority 7 (.iconst 0) 1 8 := ⟨o_3 (oW (K := 0) (r := 7) wi_K_leastMajority_0 rfl), rfl⟩
theorem dK_leastMajority_8 : dl tK_leastMajority 8 .istore_n .istore 3 9 := Or.inl ⟨3, o_62 (oW (K := 0) (r := 8) wi_K_leastMajority_0 rfl), rfl, rfl⟩
theorem dK_leastMajority_9 : dn tK_leastMajority 9 (.bipush 9) 2 11 := ⟨o_16 9 9 (oWd (K := 0) (r := 9) wi_K_leastMajority_0 rfl), rfl⟩
theorem dK_leastMajority_11 : dl tK_leastMajority 11 .istore_n .istore 4 13 := Or.inr ⟨o_54 4 (oW (K := 0) (r := 11) wi_K_leastMajority_0 rfl), rfl⟩
theorem dK_leastMajority_13 : dl tK_leastMajority 13 .iload_n .iload 4 15 := Or.inr ⟨o_21 4 (oW (K := 0) (r := 13) wi_K_leastMajority_0 rfl), rfl⟩
theorem dK_leastMajority_15 : dn tK_leastMajority 15 (.iconst 1) 1 16 := ⟨o_4 (oW (K := 0) (r := 15) wi_K_leastMajority_0 rfl), rfl⟩
theorem dK_leastMajority_16 : db tK_leastMajority 16 (.if_icmp .lt) 70 19 := ⟨54, o_161 0 54 54 (oWd (K := 0) (r := 16) wi_K_leastMajority_0 rfl), rfl, rfl⟩
theorem dK_leastMajority_19 : dn tK_leastMajority 19 (.iconst 0) 1 20 := ⟨o_3 (oW (K := 0) (r := 19) wi_K_leastMajority_0 rfl), rfl⟩
theorem dK_leastMajority_20 : dl tK_leastMajority 20 .istore_n .istore 5 22 := Or.inr ⟨o_54 5 (oW (K := 0) (r := 20) wi_K_leastMajority_0 rfl), rfl⟩
theorem dK_leastMajority_22 : dl tK_leastMajority 22 .iload_n .iload 5 24 := Or.inr ⟨o_21 5 (oW (K := 0) (r := 22) wi_K_leastMajority_0 rfl), rfl⟩
theorem dK_leastMajority_24 : dl tK_leastMajority 24 .aload_n .aload 0 25 := Or.inl ⟨0, o_42 (oW (K := 0) (r := 24) wi_K_leastMajority_0 rfl), rfl, rfl⟩
theorem dK_leastMajority_25 : dn tK_leastMajority 25 (.getfield 21) 3 28 := ⟨o_180 0 21 21 (oWd (K := 0) (r := 25) wi_K_leastMajority_0 rfl), rfl⟩
theorem dK_leastMajority_28 : db tK_leastMajority 28 (.if_icmp .ge) 64 31 := ⟨36, o_162 0 36 36 (oWd (K := 0) (r := 28) wi_K_leastMajority_0 rfl), rfl, rfl⟩
theorem dK_leastMajority_31 : dl tK_leastMajority 31 .aload_n .aload 0 32 := Or.inl ⟨0, o_42 (oW (K := 0) (r := 31) wi_K_leastMajority_0 rfl), rfl, rfl⟩
def wl_K_leastMajority_32 : List Nat := [21, 5, 4, 182, 0, 27, 21, 4, 160, 0, 18, 5, 28, 104, 27, 163, 0, 11, 28, 21, 4, 96, 61, 132, 3, 1, 132, 5, 1, 167, 255, 217, 132, 4, 255, 167, 255, 202]
theorem wi_K_leastMajority_32 : oC tK_leastMajority.2.1 32 wl_K_leastMajority_32 = true := by decide +kernel
theorem dK_leastMajority_32 : dl tK_leastMajority 32 .iload_n .iload 5 34 := Or.inr ⟨o_21 5 (oW (K := 32) (r := 0) wi_K_leastMajority_32 rfl), rfl⟩
theorem dK_leastMajority_34 : dn tK_leastMajority 34 (.iconst 1) 1 35 := ⟨o_4 (oW (K := 32) (r := 2) wi_K_leastMajority_32 rfl), rfl⟩
theorem dK_leastMajority_35 : dn tK_leastMajority 35 (.invokevirtual 27) 3 38 := ⟨o_182 0 27 27 (oWd (K := 32) (r := 3) wi_K_leastMajority_32 rfl), rfl⟩
theorem dK_leastMajority_38 : dl tK_leastMajority 38 .iload_n .iload 4 40 := Or.inr ⟨o_21 4 (oW (K := 32) (r := 6) wi_K_leastMajority_32 rfl), rfl⟩
theorem dK_leastMajority_40 : db tK_leastMajority 40 (.if_icmp .ne) 58 43 := ⟨18, o_160 0 18 18 (oWd (K := 32) (r := 8) wi_K_leastMajority_32 rfl), rfl, rfl⟩
theorem dK_leastMajority_43 : dn tK_leastMajority 43 (.iconst 2) 1 44 := ⟨o_5 (oW (K := 32) (r := 11) wi_K_leastMajority_32 rfl), rfl⟩
theorem dK_leastMajority_44 : dl tK_leastMajority 44 .iload_n .iload 2 45 := Or.inl ⟨2, o_28 (oW (K := 32) (r := 12) wi_K_leastMajority_32 rfl), rfl, rfl⟩
theorem dK_leastMajority_45 : dn tK_leastMajority 45 (.imul) 1 46 := ⟨o_104 (oW (K := 32) (r := 13) wi_K_leastMajority_32 rfl), rfl⟩
theorem dK_leastMajority_46 : dl tK_leastMajority 46 .iload_n .iload 1 47 := Or.inl ⟨1, o_27 (oW (K := 32) (r := 14) wi_K_leastMajority_32 rfl), rfl, rfl⟩
theorem dK_leastMajority_47 : db tK_leastMajority 47 (.if_icmp .gt) 58 50 := ⟨11, o_163 0 11 11 (oWd (K := 32) (r := 15) wi_K_leastMajority_32 rfl), rfl, rfl⟩
theorem dK_leastMajority_50 : dl tK_leastMajority 50 .iload_n .iload 2 51 := Or.inl ⟨2, o_28 (oW (K := 32) (r := 18) wi_K_leastMajority_32 rfl), rfl, rfl⟩
theorem dK_leastMajority_51 : dl tK_leastMajority 51 .iload_n .iload 4 53 := Or.inr ⟨o_21 4 (oW (K := 32) (r := 19) wi_K_leastMajority_32 rfl), rfl⟩
theorem dK_leastMajority_53 : dn tK_leastMajority 53 (.iadd) 1 54 := ⟨o_96 (oW (K := 32) (r := 21) wi_K_leastMajority_32 rfl), rfl⟩
theorem dK_leastMajority_54 : dl tK_leastMajority 54 .istore_n .istore 2 55 := Or.inl ⟨2, o_61 (oW (K := 32) (r := 22) wi_K_leastMajority_32 rfl), rfl, rfl⟩
theorem dK_leastMajority_55 : dn tK_leastMajority 55 (.iinc 3 1) 3 58 := ⟨o_132 3 1 1 (oWd (K := 32) (r := 23) wi_K_leastMajority_32 rfl), rfl⟩
theorem dK_leastMajority_58 : dn tK_leastMajority 58 (.iinc 5 1) 3 61 := ⟨o_132 5 1 1 (oWd (K := 32) (r := 26) wi_K_leastMajority_32 rfl), rfl⟩
theorem dK_leastMajority_61 : db tK_leastMajority 61 .goto 22 64 := ⟨-39, o_167 255 217 (-39) (oWd (K := 32) (r := 29) wi_K_leastMajority_32 rfl), rfl, rfl⟩
def wl_K_leastMajority_64 : List Nat := [132, 4, 255, 167, 255, 202, 29, 172]
theorem wi_K_leastMajority_64 : oC tK_leastMajority.2.1 64 wl_K_leastMajority_64 = true := by decide +kernel
theorem dK_leastMajority_64 : dn tK_leastMajority 64 (.iinc 4 (-1)) 3 67 := ⟨o_132 4 255 (-1) (oWd (K := 64) (r := 0) wi_K_leastMajority_64 rfl), rfl⟩
theorem dK_leastMajority_67 : db tK_leastMajority 67 .goto 13 70 := ⟨-54, o_167 255 202 (-54) (oWd (K := 64) (r := 3) wi_K_leastMajority_64 rfl), rfl, rfl⟩
theorem dK_leastMajority_70 : dl tK_leastMajority 70 .iload_n .iload 3 71 := Or.inl ⟨3, o_29 (oW (K := 64) (r := 6) wi_K_leastMajority_64 rfl), rfl, rfl⟩
theorem dK_leastMajority_71 : dn tK_leastMajority 71 (.ireturn) 1 72 := ⟨o_172 (oW (K := 64) (r := 7) wi_K_leastMajority_64 rfl), rfl⟩
def tW_tells : MM := (⟨"GingerRents$Law", "tells", "(LGingerRents$Borough;III)I"⟩, prog_4_method_2_code, 8, (some .int))
theorem okW_tells : mV tW_tells 4 := ⟨⟨tb_in (in_t3 _ (List.mem_of_getElem? (i := 92) rfl)) rfl, tb_in (in_t1 _ (List.mem_of_getElem? (i := 6) rfl)) rfl, ⟨cq_9.1, cq_9.2, by decide +kernel⟩, by decide⟩, tb_in (in_t3 _ (List.mem_of_getElem? (i := 90) rfl)) rfl, tb_in (in_t3 _ (List.mem_of_getElem? (i := 91) rfl)) rfl⟩
def tW_gather : MM := (⟨"GingerRents$Law", "gather", "(LGingerRents$Borough;II)V"⟩, prog_4_method_3_code, 4, none)
theorem okW_gather : mV tW_gather 3 := ⟨⟨tb_in (in_t3 _ (List.mem_of_getElem? (i := 97) rfl)) rfl, tb_in (in_t1 _ (List.mem_of_getElem? (i := 6) rfl)) rfl, ⟨cq_9.1, cq_9.2, by decide +kernel⟩, by decide⟩, tb_in (in_t3 _ (List.mem_of_getElem? (i := 96) rfl)) rfl, tb_in (in_s _ (List.mem_of_getElem? (i := 11) rfl)) rfl⟩
def tW_held : MM := (⟨"GingerRents$Law", "held", "(II)I"⟩, prog_4_method_4_code, 2, (some .int))
theorem okW_held : mS tW_held 2 := ⟨⟨tb_in (in_t3 _ (List.mem_of_getElem? (i := 117) rfl)) rfl, tb_in (in_t1 _ (List.mem_of_getElem? (i := 6) rfl)) rfl, ⟨cq_9.1, cq_9.2, by decide +kernel⟩, by decide⟩, tb_in (in_t3 _ (List.mem_of_getElem? (i := 116) rfl)) rfl⟩
def tW_customary : MM := (⟨"GingerRents$Law", "customary", "(LGingerRents$Borough;II)I"⟩, prog_4_method_5_code, 3, (some .int))
theorem okW_customary : mS tW_customary 3 := ⟨⟨tb_in (in_t3 _ (List.mem_of_getElem? (i := 122) rfl)) rfl, tb_in (in_t1 _ (List.mem_of_getElem? (i := 6) rfl)) rfl, ⟨cq_9.1, cq_9.2, by decide +kernel⟩, by decide⟩, tb_in (in_t3 _ (List.mem_of_getElem? (i := 121) rfl)) rfl⟩
def tW_applies : MM := (⟨"GingerRents$Law", "applies", "(I)Z"⟩, prog_4_method_6_code, 4, (some .boolean))
theorem okW_applies : mV tW_applies 1 := ⟨⟨tb_in (in_t3 _ (List.mem_of_getElem? (i := 103) rfl)) rfl, tb_in (in_t1 _ (List.mem_of_getElem? (i := 6) rfl)) rfl, ⟨cq_9.1, cq_9.2, by decide +kernel⟩, by decide⟩, tb_in (in_t3 _ (List.mem_of_getElem? (i := 102) rfl)) rfl, tb_in (in_s _ (List.mem_of_getElem? (i := 12) rfl)) rfl⟩
def tW_run : MM := (⟨"GingerRents$Law", "run", "(II)I"⟩, prog_4_method_7_code, 4, (some .int))
theorem okW_run : mV tW_run 2 := ⟨⟨tb_in (in_t3 _ (List.mem_of_getElem? (i := 107) rfl)) rfl, tb_in (in_t1 _ (List.mem_of_getElem? (i := 6) rfl)) rfl, ⟨cq_9.1, cq_9.2, by decide +kernel⟩, by decide⟩, tb_in (in_t3 _ (List.mem_of_getElem? (i := 106) rfl)) rfl, tb_in (in_s _ (List.mem_of_getElem? (i := 13) rfl)) rfl⟩
def tW_step : MM := (⟨"GingerRents$Law", "step", "(II)V"⟩, prog_4_method_8_code, 4, none)
theorem okW_step : mV tW_step 2 := ⟨⟨tb_in (in_t3 _ (List.mem_of_getElem? (i := 111) rfl)) rfl, tb_in (in_t1 _ (List.mem_of_getElem? (i := 6) rfl)) rfl, ⟨cq_9.1, cq_9.2, by decide +kernel⟩, by decide⟩, tb_in (in_t3 _ (List.mem_of_getElem? (i := 110) rfl)) rfl, tb_in (in_s _ (List.mem_of_getElem? (i := 14) rfl)) rfl⟩
def tW_joined : MM := (⟨"GingerRents$Law", "joined", "(III)I"⟩, prog_4_method_9_code, 3, (some .int))
theorem okW_joined : mS tW_joined 3 := ⟨⟨tb_in (in_t3 _ (List.mem_of_getElem? (i := 114) rfl)) rfl, tb_in (in_t1 _ (List.mem_of_getElem? (i := 6) rfl)) rfl, ⟨cq_9.1, cq_9.2, by decide +kernel⟩, by decide⟩, tb_in (in_t3 _ (List.mem_of_getElem? (i := 113) rfl)) rfl⟩
theorem fuW_18 : fu "GingerRents$Law" 18 3 0 := ⟨_, _, _, rfl, by decide, rfl, tb_in (in_t1 _ (List.mem_of_getElem? (i := 180) rfl)) rfl⟩
theorem fuW_25 : fu "GingerRents$Law" 25 6 3 := ⟨_, _, _, rfl, by decide, rfl, tb_in (in_t1 _ (List.mem_of_getElem? (i := 101) rfl)) rfl⟩
theorem mlW_30 : Cond.methodLink "GingerRents$Law" 30 ⟨"GingerRents$Rows", "at", "(II)I"⟩ ∈ tb := tb_in (in_t3 _ (List.mem_of_getElem? (i := 93) rfl)) rfl
theorem mlW_34 : Cond.methodLink "GingerRents$Law" 34 ⟨"GingerRents$Law", "gather", "(LGingerRents$Borough;II)V"⟩ ∈ tb := tb_in (in_t3 _ (List.mem_of_getElem? (i := 94) rfl)) rfl
theorem mlW_38 : Cond.methodLink "GingerRents$Law" 38 ⟨"GingerRents$Law", "applies", "(I)Z"⟩ ∈ tb := tb_in (in_t3 _ (List.mem_of_getElem? (i := 100) rfl)) rfl
theorem mlW_42 : Cond.methodLink "GingerRents$Law" 42 ⟨"GingerRents$Law", "run", "(II)I"⟩ ∈ tb := tb_in (in_t3 _ (List.mem_of_getElem? (i := 104) rfl)) rfl
theorem mlW_45 : Cond.methodLink "GingerRents$Law" 45 ⟨"GingerRents$Law", "held", "(II)I"⟩ ∈ tb := tb_in (in_t3 _ (List.mem_of_getElem? (i := 115) rfl)) rfl
theorem mlW_48 : Cond.methodLink "GingerRents$Law" 48 ⟨"GingerRents$Law", "customary", "(LGingerRents$Borough;II)I"⟩ ∈ tb := tb_in (in_t3 _ (List.mem_of_getElem? (i := 120) rfl)) rfl
theorem fuW_11 : fu "GingerRents$Law" 11 3 2 := ⟨_, _, _, rfl, by decide, rfl, tb_in (in_t1 _ (List.mem_of_getElem? (i := 182) rfl)) rfl⟩
theorem mlW_52 : Cond.methodLink "GingerRents$Law" 52 ⟨"GingerRents$Borough", "read", "(II)I"⟩ ∈ tb := tb_in (in_t3 _ (List.mem_of_getElem? (i := 98) rfl)) rfl
theorem mlW_57 : Cond.methodLink "GingerRents$Law" 57 ⟨"GingerRents$Borough", "sumOf", "(I)I"⟩ ∈ tb := tb_in (in_t3 _ (List.mem_of_getElem? (i := 99) rfl)) rfl
theorem fuW_61 : fu "GingerRents$Law" 61 1 2 := ⟨_, _, _, rfl, by decide, rfl, tb_in (in_t1 _ (List.mem_of_getElem? (i := 42) rfl)) rfl⟩
theorem fuW_64 : fu "GingerRents$Law" 64 1 3 := ⟨_, _, _, rfl, by decide, rfl, tb_in (in_t1 _ (List.mem_of_getElem? (i := 46) rfl)) rfl⟩
theorem fuW_67 : fu "GingerRents$Law" 67 1 6 := ⟨_, _, _, rfl, by decide, rfl, tb_in (in_t1 _ (List.mem_of_getElem? (i := 56) rfl)) rfl⟩
theorem mlW_70 : Cond.methodLink "GingerRents$Law" 70 ⟨"java/lang/Math", "min", "(II)I"⟩ ∈ tb := tb_in (in_t3 _ (List.mem_of_getElem? (i := 118) rfl)) rfl
theorem mlW_75 : Cond.methodLink "GingerRents$Law" 75 ⟨"java/lang/Math", "max", "(II)I"⟩ ∈ tb := tb_in (in_t3 _ (List.mem_of_getElem? (i := 119) rfl)) rfl
theorem fuW_78 : fu "GingerRents$Law" 78 3 4 := ⟨_, _, _, rfl, by decide, rfl, tb_in (in_t1 _ (List.mem_of_getElem? (i := 184) rfl)) rfl⟩
theorem fuW_22 : fu "GingerRents$Law" 22 3 1 := ⟨_, _, _, rfl, by decide, rfl, tb_in (in_t1 _ (List.mem_of_getElem? (i := 181) rfl)) rfl⟩
theorem mlW_81 : Cond.methodLink "GingerRents$Law" 81 ⟨"GingerRents$Law", "step", "(II)V"⟩ ∈ tb := tb_in (in_t3 _ (List.mem_of_getElem? (i := 108) rfl)) rfl
theorem fuW_15 : fu "GingerRents$Law" 15 3 3 := ⟨_, _, _, rfl, by decide, rfl, tb_in (in_t1 _ (List.mem_of_getElem? (i := 183) rfl)) rfl⟩
theorem mlW_85 : Cond.methodLink "GingerRents$Law" 85 ⟨"GingerRents$Law", "joined", "(III)I"⟩ ∈ tb := tb_in (in_t3 _ (List.mem_of_getElem? (i := 112) rfl)) rfl
def wl_W_tells_0 : List Nat := [21, 4, 4, 160, 0, 9, 17, 3, 232, 167, 0, 5, 16, 99, 54, 5, 3, 54, 6, 3, 54, 7, 21, 7, 42, 180, 0, 18, 180, 0, 25, 162, 0, 81, 42, 180, 0, 18]
theorem wi_W_tells_0 : oC tW_tells.2.1 0 wl_W_tells_0 = true := by decide +kernel
theorem dW_tells_0 : dl tW_tells 0 .iload_n .iload 4 2 := Or.inr ⟨o_21 4 (oW (K := 0) (r := 0) wi_W_tells_0 rfl), rfl⟩
theorem dW_tells_2 : dn tW_tells 2 (.iconst 1) 1 3 := ⟨o_4 (oW (K := 0) (r := 2) wi_W_tells_0 rfl), rfl⟩
theorem dW_tells_3 : db tW_tells 3 (.if_icmp .ne) 12 6 := ⟨9, o_160 0 9 9 (oWd (K := 0) (r := 3) wi_W_tells_0 rfl), rfl, rfl⟩
theorem dW_tells_6 : dn tW_tells 6 (.sipush 1000) 3 9 := ⟨o_17 3 232 1000 (oWd (K := 0) (r := 6) wi_W_tells_0 rfl), rfl⟩
theorem dW_tells_9 : db tW_tells 9 .goto 14 12 := ⟨5, o_167 0 5 5 (oWd (K := 0) (r := 9) wi_W_tells_0 rfl), rfl, rfl⟩
theorem dW_tells_12 : dn tW_tells 12 (.bipush 99) 2 14 := ⟨o_16 99 99 (oWd (K := 0) (r := 12) wi_W_tells_0 rfl), rfl⟩
theorem dW_tells_14 : dl tW_tells 14 .istore_n .istore 5 16 := Or.inr ⟨o_54 5 (oW (K := 0) (r := 14) wi_W_tells_0 rfl), rfl⟩
theorem dW_tells_16 : dn tW_tells 16 (.iconst 0) 1 17 := ⟨o_3 (oW (K := 0) (r := 16) wi_W_tells_0 rfl), rfl⟩
theorem dW_tells_17 : dl tW_tells 17 .istore_n .istore 6 19 := Or.inr ⟨o_54 6 (oW (K := 0) (r := 17) wi_W_tells_0 rfl), rfl⟩
theorem dW_tells_19 : dn tW_tells 19 (.iconst 0) 1 20 := ⟨o_3 (oW (K := 0) (r := 19) wi_W_tells_0 rfl), rfl⟩
theorem dW_tells_20 : dl tW_tells 20 .istore_n .istore 7 22 := Or.inr ⟨o_54 7 (oW (K := 0) (r := 20) wi_W_tells_0 rfl), rfl⟩
theorem dW_tells_22 : dl tW_tells 22 .iload_n .iload 7 24 := Or.inr ⟨o_21 7 (oW (K := 0) (r := 22) wi_W_tells_0 rfl), rfl⟩
theorem dW_tells_24 : dl tW_tells 24 .aload_n .aload 0 25 := Or.inl ⟨0, o_42 (oW (K := 0) (r := 24) wi_W_tells_0 rfl), rfl, rfl⟩
theorem dW_tells_25 : dn tW_tells 25 (.getfield 18) 3 28 := ⟨o_180 0 18 18 (oWd (K := 0) (r := 25) wi_W_tells_0 rfl), rfl⟩
theorem dW_tells_28 : dn tW_tells 28 (.getfield 25) 3 31 := ⟨o_180 0 25 25 (oWd (K := 0) (r := 28) wi_W_tells_0 rfl), rfl⟩
theorem dW_tells_31 : db tW_tells 31 (.if_icmp .ge) 112 34 := ⟨81, o_162 0 81 81 (oWd (K := 0) (r := 31) wi_W_tells_0 rfl), rfl, rfl⟩
def wl_W_tells_32 : List Nat := [0, 81, 42, 180, 0, 18, 21, 7, 3, 182, 0, 30, 21, 4, 159, 0, 6, 167, 0, 57, 21, 6, 154, 0, 13, 42, 43, 28, 29, 182, 0, 34, 4, 54, 6, 42, 21, 7]
theorem wi_W_tells_32 : oC tW_tells.2.1 32 wl_W_tells_32 = true := by decide +kernel
theorem dW_tells_34 : dl tW_tells 34 .aload_n .aload 0 35 := Or.inl ⟨0, o_42 (oW (K := 32) (r := 2) wi_W_tells_32 rfl), rfl, rfl⟩
theorem dW_tells_35 : dn tW_tells 35 (.getfield 18) 3 38 := ⟨o_180 0 18 18 (oWd (K := 32) (r := 3) wi_W_tells_32 rfl), rfl⟩
theorem dW_tells_38 : dl tW_tells 38 .iload_n .iload 7 40 := Or.inr ⟨o_21 7 (oW (K := 32) (r := 6) wi_W_tells_32 rfl), rfl⟩
theorem dW_tells_40 : dn tW_tells 40 (.iconst 0) 1 41 := ⟨o_3 (oW (K := 32) (r := 8) wi_W_tells_32 rfl), rfl⟩
theorem dW_tells_41 : dn tW_tells 41 (.invokevirtual 30) 3 44 := ⟨o_182 0 30 30 (oWd (K := 32) (r := 9) wi_W_tells_32 rfl), rfl⟩
theorem dW_tells_44 : dl tW_tells 44 .iload_n .iload 4 46 := Or.inr ⟨o_21 4 (oW (K := 32) (r := 12) wi_W_tells_32 rfl), rfl⟩
theorem dW_tells_46 : db tW_tells 46 (.if_icmp .eq) 52 49 := ⟨6, o_159 0 6 6 (oWd (K := 32) (r := 14) wi_W_tells_32 rfl), rfl, rfl⟩
theorem dW_tells_49 : db tW_tells 49 .goto 106 52 := ⟨57, o_167 0 57 57 (oWd (K := 32) (r := 17) wi_W_tells_32 rfl), rfl, rfl⟩
theorem dW_tells_52 : dl tW_tells 52 .iload_n .iload 6 54 := Or.inr ⟨o_21 6 (oW (K := 32) (r := 20) wi_W_tells_32 rfl), rfl⟩
theorem dW_tells_54 : db tW_tells 54 (.ifCond .ne) 67 57 := ⟨13, o_154 0 13 13 (oWd (K := 32) (r := 22) wi_W_tells_32 rfl), rfl, rfl⟩
theorem dW_tells_57 : dl tW_tells 57 .aload_n .aload 0 58 := Or.inl ⟨0, o_42 (oW (K := 32) (r := 25) wi_W_tells_32 rfl), rfl, rfl⟩
theorem dW_tells_58 : dl tW_tells 58 .aload_n .aload 1 59 := Or.inl ⟨1, o_43 (oW (K := 32) (r := 26) wi_W_tells_32 rfl), rfl, rfl⟩
theorem dW_tells_59 : dl tW_tells 59 .iload_n .iload 2 60 := Or.inl ⟨2, o_28 (oW (K := 32) (r := 27) wi_W_tells_32 rfl), rfl, rfl⟩
theorem dW_tells_60 : dl tW_tells 60 .iload_n .iload 3 61 := Or.inl ⟨3, o_29 (oW (K := 32) (r := 28) wi_W_tells_32 rfl), rfl, rfl⟩
theorem dW_tells_61 : dn tW_tells 61 (.invokevirtual 34) 3 64 := ⟨o_182 0 34 34 (oWd (K := 32) (r := 29) wi_W_tells_32 rfl), rfl⟩
def wl_W_tells_64 : List Nat := [4, 54, 6, 42, 21, 7, 182, 0, 38, 153, 0, 33, 42, 42, 180, 0, 18, 21, 7, 4, 182, 0, 30, 42, 180, 0, 18, 21, 7, 5, 182, 0, 30, 182, 0, 42, 21, 5]
theorem wi_W_tells_64 : oC tW_tells.2.1 64 wl_W_tells_64 = true := by decide +kernel
theorem dW_tells_64 : dn tW_tells 64 (.iconst 1) 1 65 := ⟨o_4 (oW (K := 64) (r := 0) wi_W_tells_64 rfl), rfl⟩
theorem dW_tells_65 : dl tW_tells 65 .istore_n .istore 6 67 := Or.inr ⟨o_54 6 (oW (K := 64) (r := 1) wi_W_tells_64 rfl), rfl⟩
theorem dW_tells_67 : dl tW_tells 67 .aload_n .aload 0 68 := Or.inl ⟨0, o_42 (oW (K := 64) (r := 3) wi_W_tells_64 rfl), rfl, rfl⟩
theorem dW_tells_68 : dl tW_tells 68 .iload_n .iload 7 70 := Or.inr ⟨o_21 7 (oW (K := 64) (r := 4) wi_W_tells_64 rfl), rfl⟩
theorem dW_tells_70 : dn tW_tells 70 (.invokevirtual 38) 3 73 := ⟨o_182 0 38 38 (oWd (K := 64) (r := 6) wi_W_tells_64 rfl), rfl⟩
theorem dW_tells_73 : db tW_tells 73 (.ifCond .eq) 106 76 := ⟨33, o_153 0 33 33 (oWd (K := 64) (r := 9) wi_W_tells_64 rfl), rfl, rfl⟩
theorem dW_tells_76 : dl tW_tells 76 .aload_n .aload 0 77 := Or.inl ⟨0, o_42 (oW (K := 64) (r := 12) wi_W_tells_64 rfl), rfl, rfl⟩
theorem dW_tells_77 : dl tW_tells 77 .aload_n .aload 0 78 := Or.inl ⟨0, o_42 (oW (K := 64) (r := 13) wi_W_tells_64 rfl), rfl, rfl⟩
theorem dW_tells_78 : dn tW_tells 78 (.getfield 18) 3 81 := ⟨o_180 0 18 18 (oWd (K := 64) (r := 14) wi_W_tells_64 rfl), rfl⟩
theorem dW_tells_81 : dl tW_tells 81 .iload_n .iload 7 83 := Or.inr ⟨o_21 7 (oW (K := 64) (r := 17) wi_W_tells_64 rfl), rfl⟩
theorem dW_tells_83 : dn tW_tells 83 (.iconst 1) 1 84 := ⟨o_4 (oW (K := 64) (r := 19) wi_W_tells_64 rfl), rfl⟩
theorem dW_tells_84 : dn tW_tells 84 (.invokevirtual 30) 3 87 := ⟨o_182 0 30 30 (oWd (K := 64) (r := 20) wi_W_tells_64 rfl), rfl⟩
theorem dW_tells_87 : dl tW_tells 87 .aload_n .aload 0 88 := Or.inl ⟨0, o_42 (oW (K := 64) (r := 23) wi_W_tells_64 rfl), rfl, rfl⟩
theorem dW_tells_88 : dn tW_tells 88 (.getfield 18) 3 91 := ⟨o_180 0 18 18 (oWd (K := 64) (r := 24) wi_W_tells_64 rfl), rfl⟩
theorem dW_tells_91 : dl tW_tells 91 .iload_n .iload 7 93 := Or.inr ⟨o_21 7 (oW (K := 64) (r := 27) wi_W_tells_64 rfl), rfl⟩
theorem dW_tells_93 : dn tW_tells 93 (.iconst 2) 1 94 := ⟨o_5 (oW (K := 64) (r := 29) wi_W_tells_64 rfl), rfl⟩
theorem dW_tells_94 : dn tW_tells 94 (.invokevirtual 30) 3 97 := ⟨o_182 0 30 30 (oWd (K := 64) (r := 30) wi_W_tells_64 rfl), rfl⟩
def wl_W_tells_96 : List Nat := [30, 182, 0, 42, 21, 5, 184, 0, 45, 172, 132, 7, 1, 167, 255, 169, 43, 28, 21, 4, 184, 0, 48, 21, 5, 184, 0, 45, 172]
theorem wi_W_tells_96 : oC tW_tells.2.1 96 wl_W_tells_96 = true := by decide +kernel
theorem dW_tells_97 : dn tW_tells 97 (.invokevirtual 42) 3 100 := ⟨o_182 0 42 42 (oWd (K := 96) (r := 1) wi_W_tells_96 rfl), rfl⟩
theorem dW_tells_100 : dl tW_tells 100 .iload_n .iload 5 102 := Or.inr ⟨o_21 5 (oW (K := 96) (r := 4) wi_W_tells_96 rfl), rfl⟩
theorem dW_tells_102 : dn tW_tells 102 (.invokestatic 45) 3 105 := ⟨o_184 0 45 45 (oWd (K := 96) (r := 6) wi_W_tells_96 rfl), rfl⟩
theorem dW_tells_105 : dn tW_tells 105 (.ireturn) 1 106 := ⟨o_172 (oW (K := 96) (r := 9) wi_W_tells_96 rfl), rfl⟩
theorem dW_tells_106 : dn tW_tells 106 (.iinc 7 1) 3 109 := ⟨o_132 7 1 1 (oWd (K := 96) (r := 10) wi_W_tells_96 rfl), rfl⟩
theorem dW_tells_109 : db tW_tells 109 .goto 22 112 := ⟨-87, o_167 255 169 (-87) (oWd (K := 96) (r := 13) wi_W_tells_96 rfl), rfl, rfl⟩
theorem dW_tells_112 : dl tW_tells 112 .aload_n .aload 1 113 := Or.inl ⟨1, o_43 (oW (K := 96) (r := 16) wi_W_tells_96 rfl), rfl, rfl⟩
theorem dW_tells_113 : dl tW_tells 113 .iload_n .iload 2 114 := Or.inl ⟨2, o_28 (oW (K := 96) (r := 17) wi_W_tells_96 rfl), rfl, rfl⟩
theorem dW_tells_114 : dl tW_tells 114 .iload_n .iload 4 116 := Or.inr ⟨o_21 4 (oW (K := 96) (r := 18) wi_W_tells_96 rfl), rfl⟩
theorem dW_tells_116 : dn tW_tells 116 (.invokestatic 48) 3 119 := ⟨o_184 0 48 48 (oWd (K := 96) (r := 20) wi_W_tells_96 rfl), rfl⟩
theorem dW_tells_119 : dl tW_tells 119 .iload_n .iload 5 121 := Or.inr ⟨o_21 5 (oW (K := 96) (r := 23) wi_W_tells_96 rfl), rfl⟩
theorem dW_tells_121 : dn tW_tells 121 (.invokestatic 45) 3 124 := ⟨o_184 0 45 45 (oWd (K := 96) (r := 25) wi_W_tells_96 rfl), rfl⟩
theorem dW_tells_124 : dn tW_tells 124 (.ireturn) 1 125 := ⟨o_172 (oW (K := 96) (r := 28) wi_W_tells_96 rfl), rfl⟩
def wl_W_gather_0 : List Nat := [42, 180, 0, 11, 3, 43, 28, 29, 182, 0, 52, 79, 42, 180, 0, 11, 4, 43, 28, 182, 0, 57, 79, 42, 180, 0, 11, 5, 43, 28, 7, 182, 0, 52, 79, 42, 180, 0]
theorem wi_W_gather_0 : oC tW_gather.2.1 0 wl_W_gather_0 = true := by decide +kernel
theorem dW_gather_0 : dl tW_gather 0 .aload_n .aload 0 1 := Or.inl ⟨0, o_42 (oW (K := 0) (r := 0) wi_W_gather_0 rfl), rfl, rfl⟩
theorem dW_gather_1 : dn tW_gather 1 (.getfield 11) 3 4 := ⟨o_180 0 11 11 (oWd (K := 0) (r := 1) wi_W_gather_0 rfl), rfl⟩
theorem dW_gather_4 : dn tW_gather 4 (.iconst 0) 1 5 := ⟨o_3 (oW (K := 0) (r := 4) wi_W_gather_0 rfl), rfl⟩
theorem dW_gather_5 : dl tW_gather 5 .aload_n .aload 1 6 := Or.inl ⟨1, o_43 (oW (K := 0) (r := 5) wi_W_gather_0 rfl), rfl, rfl⟩
theorem dW_gather_6 : dl tW_gather 6 .iload_n .iload 2 7 := Or.inl ⟨2, o_28 (oW (K := 0) (r := 6) wi_W_gather_0 rfl), rfl, rfl⟩
theorem dW_gather_7 : dl tW_gather 7 .iload_n .iload 3 8 := Or.inl ⟨3, o_29 (oW (K := 0) (r := 7) wi_W_gather_0 rfl), rfl, rfl⟩
theorem dW_gather_8 : dn tW_gather 8 (.invokevirtual 52) 3 11 := ⟨o_182 0 52 52 (oWd (K := 0) (r := 8) wi_W_gather_0 rfl), rfl⟩
theorem dW_gather_11 : dn tW_gather 11 (.iastore) 1 12 := ⟨o_79 (oW (K := 0) (r := 11) wi_W_gather_0 rfl), rfl⟩
theorem dW_gather_12 : dl tW_gather 12 .aload_n .aload 0 13 := Or.inl ⟨0, o_42 (oW (K := 0) (r := 12) wi_W_gather_0 rfl), rfl, rfl⟩
theorem dW_gather_13 : dn tW_gather 13 (.getfield 11) 3 16 := ⟨o_180 0 11 11 (oWd (K := 0) (r := 13) wi_W_gather_0 rfl), rfl⟩
theorem dW_gather_16 : dn tW_gather 16 (.iconst 1) 1 17 := ⟨o_4 (oW (K := 0) (r := 16) wi_W_gather_0 rfl), rfl⟩
theorem dW_gather_17 : dl tW_gather 17 .aload_n .aload 1 18 := Or.inl ⟨1, o_43 (oW (K := 0) (r := 17) wi_W_gather_0 rfl), rfl, rfl⟩
theorem dW_gather_18 : dl tW_gather 18 .iload_n .iload 2 19 := Or.inl ⟨2, o_28 (oW (K := 0) (r := 18) wi_W_gather_0 rfl), rfl, rfl⟩
theorem dW_gather_19 : dn tW_gather 19 (.invokevirtual 57) 3 22 := ⟨o_182 0 57 57 (oWd (K := 0) (r := 19) wi_W_gather_0 rfl), rfl⟩
theorem dW_gather_22 : dn tW_gather 22 (.iastore) 1 23 := ⟨o_79 (oW (K := 0) (r := 22) wi_W_gather_0 rfl), rfl⟩
theorem dW_gather_23 : dl tW_gather 23 .aload_n .aload 0 24 := Or.inl ⟨0, o_42 (oW (K := 0) (r := 23) wi_W_gather_0 rfl), rfl, rfl⟩
theorem dW_gather_24 : dn tW_gather 24 (.getfield 11) 3 27 := ⟨o_180 0 11 11 (oWd (K := 0) (r := 24) wi_W_gather_0 rfl), rfl⟩
theorem dW_gather_27 : dn tW_gather 27 (.iconst 2) 1 28 := ⟨o_5 (oW (K := 0) (r := 27) wi_W_gather_0 rfl), rfl⟩
theorem dW_gather_28 : dl tW_gather 28 .aload_n .aload 1 29 := Or.inl ⟨1, o_43 (oW (K := 0) (r := 28) wi_W_gather_0 rfl), rfl, rfl⟩
theorem dW_gather_29 : dl tW_gather 29 .iload_n .iload 2 30 := Or.inl ⟨2, o_28 (oW (K := 0) (r := 29) wi_W_gather_0 rfl), rfl, rfl⟩
theorem dW_gather_30 : dn tW_gather 30 (.iconst 4) 1 31 := ⟨o_7 (oW (K := 0) (r := 30) wi_W_gather_0 rfl), rfl⟩
theorem dW_gather_31 : dn tW_gather 31 (.invokevirtual 52) 3 34 := ⟨o_182 0 52 52 (oWd (K := 0) (r := 31) wi_W_gather_0 rfl), rfl⟩
def wl_W_gather_32 : List Nat := [0, 52, 79, 42, 180, 0, 11, 6, 43, 28, 8, 182, 0, 52, 79, 42, 180, 0, 11, 7, 43, 28, 16, 6, 182, 0, 52, 79, 42, 180, 0, 11, 8, 43, 28, 16, 8, 182]
theorem wi_W_gather_32 : oC tW_gather.2.1 32 wl_W_gather_32 = true := by decide +kernel
theorem dW_gather_34 : dn tW_gather 34 (.iastore) 1 35 := ⟨o_79 (oW (K := 32) (r := 2) wi_W_gather_32 rfl), rfl⟩
theorem dW_gather_35 : dl tW_gather 35 .aload_n .aload 0 36 := Or.inl ⟨0, o_42 (oW (K := 32) (r := 3) wi_W_gather_32 rfl), rfl, rfl⟩
theorem dW_gather_36 : dn tW_gather 36 (.getfield 11) 3 39 := ⟨o_180 0 11 11 (oWd (K := 32) (r := 4) wi_W_gather_32 rfl), rfl⟩
theorem dW_gather_39 : dn tW_gather 39 (.iconst 3) 1 40 := ⟨o_6 (oW (K := 32) (r := 7) wi_W_gather_32 rfl), rfl⟩
theorem dW_gather_40 : dl tW_gather 40 .aload_n .aload 1 41 := Or.inl ⟨1, o_43 (oW (K := 32) (r := 8) wi_W_gather_32 rfl), rfl, rfl⟩
theorem dW_gather_41 : dl tW_gather 41 .iload_n .iload 2 42 := Or.inl ⟨2, o_28 (oW (K := 32) (r := 9) wi_W_gather_32 rfl), rfl, rfl⟩
theorem dW_gather_42 : dn tW_gather 42 (.iconst 5) 1 43 := ⟨o_8 (oW (K := 32) (r := 10) wi_W_gather_32 rfl), rfl⟩
theorem dW_gather_43 : dn tW_gather 43 (.invokevirtual 52) 3 46 := ⟨o_182 0 52 52 (oWd (K := 32) (r := 11) wi_W_gather_32 rfl), rfl⟩
theorem dW_gather_46 : dn tW_gather 46 (.iastore) 1 47 := ⟨o_79 (oW (K := 32) (r := 14) wi_W_gather_32 rfl), rfl⟩
theorem dW_gather_47 : dl tW_gather 47 .aload_n .aload 0 48 := Or.inl ⟨0, o_42 (oW (K := 32) (r := 15) wi_W_gather_32 rfl), rfl, rfl⟩
theorem dW_gather_48 : dn tW_gather 48 (.getfield 11) 3 51 := ⟨o_180 0 11 11 (oWd (K := 32) (r := 16) wi_W_gather_32 rfl), rfl⟩
theorem dW_gather_51 : dn tW_gather 51 (.iconst 4) 1 52 := ⟨o_7 (oW (K := 32) (r := 19) wi_W_gather_32 rfl), rfl⟩
theorem dW_gather_52 : dl tW_gather 52 .aload_n .aload 1 53 := Or.inl ⟨1, o_43 (oW (K := 32) (r := 20) wi_W_gather_32 rfl), rfl, rfl⟩
theorem dW_gather_53 : dl tW_gather 53 .iload_n .iload 2 54 := Or.inl ⟨2, o_28 (oW (K := 32) (r := 21) wi_W_gather_32 rfl), rfl, rfl⟩
theorem dW_gather_54 : dn tW_gather 54 (.bipush 6) 2 56 := ⟨o_16 6 6 (oWd (K := 32) (r := 22) wi_W_gather_32 rfl), rfl⟩
theorem dW_gather_56 : dn tW_gather 56 (.invokevirtual 52) 3 59 := ⟨o_182 0 52 52 (oWd (K := 32) (r := 24) wi_W_gather_32 rfl), rfl⟩
theorem dW_gather_59 : dn tW_gather 59 (.iastore) 1 60 := ⟨o_79 (oW (K := 32) (r := 27) wi_W_gather_32 rfl), rfl⟩
theorem dW_gather_60 : dl tW_gather 60 .aload_n .aload 0 61 := Or.inl ⟨0, o_42 (oW (K := 32) (r := 28) wi_W_gather_32 rfl), rfl, rfl⟩
theorem dW_gather_61 : dn tW_gather 61 (.getfield 11) 3 64 := ⟨o_180 0 11 11 (oWd (K := 32) (r := 29) wi_W_gather_32 rfl), rfl⟩
def wl_W_gather_64 : List Nat := [8, 43, 28, 16, 8, 182, 0, 52, 79, 42, 180, 0, 11, 16, 6, 43, 28, 16, 7, 182, 0, 52, 79, 42, 180, 0, 11, 16, 7, 43, 28, 16, 9, 182, 0, 52, 79, 42]
theorem wi_W_gather_64 : oC tW_gather.2.1 64 wl_W_gather_64 = true := by decide +kernel
theorem dW_gather_64 : dn tW_gather 64 (.iconst 5) 1 65 := ⟨o_8 (oW (K := 64) (r := 0) wi_W_gather_64 rfl), rfl⟩
theorem dW_gather_65 : dl tW_gather 65 .aload_n .aload 1 66 := Or.inl ⟨1, o_43 (oW (K := 64) (r := 1) wi_W_gather_64 rfl), rfl, rfl⟩
theorem dW_gather_66 : dl tW_gather 66 .iload_n .iload 2 67 := Or.inl ⟨2, o_28 (oW (K := 64) (r := 2) wi_W_gather_64 rfl), rfl, rfl⟩
theorem dW_gather_67 : dn tW_gather 67 (.bipush 8) 2 69 := ⟨o_16 8 8 (oWd (K := 64) (r := 3) wi_W_gather_64 rfl), rfl⟩
theorem dW_gather_69 : dn tW_gather 69 (.invokevirtual 52) 3 72 := ⟨o_182 0 52 52 (oWd (K := 64) (r := 5) wi_W_gather_64 rfl), rfl⟩
theorem dW_gather_72 : dn tW_gather 72 (.iastore) 1 73 := ⟨o_79 (oW (K := 64) (r := 8) wi_W_gather_64 rfl), rfl⟩
theorem dW_gather_73 : dl tW_gather 73 .aload_n .aload 0 74 := Or.inl ⟨0, o_42 (oW (K := 64) (r := 9) wi_W_gather_64 rfl), rfl, rfl⟩
theorem dW_gather_74 : dn tW_gather 74 (.getfield 11) 3 77 := ⟨o_180 0 11 11 (oWd (K := 64) (r := 10) wi_W_gather_64 rfl), rfl⟩
theorem dW_gather_77 : dn tW_gather 77 (.bipush 6) 2 79 := ⟨o_16 6 6 (oWd (K := 64) (r := 13) wi_W_gather_64 rfl), rfl⟩
theorem dW_gather_79 : dl tW_gather 79 .aload_n .aload 1 80 := Or.inl ⟨1, o_43 (oW (K := 64) (r := 15) wi_W_gather_64 rfl), rfl, rfl⟩
theorem dW_gather_80 : dl tW_gather 80 .iload_n .iload 2 81 := Or.inl ⟨2, o_28 (oW (K := 64) (r := 16) wi_W_gather_64 rfl), rfl, rfl⟩
theorem dW_gather_81 : dn tW_gather 81 (.bipush 7) 2 83 := ⟨o_16 7 7 (oWd (K := 64) (r := 17) wi_W_gather_64 rfl), rfl⟩
theorem dW_gather_83 : dn tW_gather 83 (.invokevirtual 52) 3 86 := ⟨o_182 0 52 52 (oWd (K := 64) (r := 19) wi_W_gather_64 rfl), rfl⟩
theorem dW_gather_86 : dn tW_gather 86 (.iastore) 1 87 := ⟨o_79 (oW (K := 64) (r := 22) wi_W_gather_64 rfl), rfl⟩
theorem dW_gather_87 : dl tW_gather 87 .aload_n .aload 0 88 := Or.inl ⟨0, o_42 (oW (K := 64) (r := 23) wi_W_gather_64 rfl), rfl, rfl⟩
theorem dW_gather_88 : dn tW_gather 88 (.getfield 11) 3 91 := ⟨o_180 0 11 11 (oWd (K := 64) (r := 24) wi_W_gather_64 rfl), rfl⟩
theorem dW_gather_91 : dn tW_gather 91 (.bipush 7) 2 93 := ⟨o_16 7 7 (oWd (K := 64) (r := 27) wi_W_gather_64 rfl), rfl⟩
theorem dW_gather_93 : dl tW_gather 93 .aload_n .aload 1 94 := Or.inl ⟨1, o_43 (oW (K := 64) (r := 29) wi_W_gather_64 rfl), rfl, rfl⟩
theorem dW_gather_94 : dl tW_gather 94 .iload_n .iload 2 95 := Or.inl ⟨2, o_28 (oW (K := 64) (r := 30) wi_W_gather_64 rfl), rfl, rfl⟩
theorem dW_gather_95 : dn tW_gather 95 (.bipush 9) 2 97 := ⟨o_16 9 9 (oWd (K := 64) (r := 31) wi_W_gather_64 rfl), rfl⟩
def wl_W_gather_96 : List Nat := [9, 182, 0, 52, 79, 42, 180, 0, 11, 16, 8, 43, 28, 16, 10, 182, 0, 52, 79, 42, 180, 0, 11, 16, 9, 43, 180, 0, 61, 79, 42, 180, 0, 11, 16, 10, 43, 180]
theorem wi_W_gather_96 : oC tW_gather.2.1 96 wl_W_gather_96 = true := by decide +kernel
theorem dW_gather_97 : dn tW_gather 97 (.invokevirtual 52) 3 100 := ⟨o_182 0 52 52 (oWd (K := 96) (r := 1) wi_W_gather_96 rfl), rfl⟩
theorem dW_gather_100 : dn tW_gather 100 (.iastore) 1 101 := ⟨o_79 (oW (K := 96) (r := 4) wi_W_gather_96 rfl), rfl⟩
theorem dW_gather_101 : dl tW_gather 101 .aload_n .aload 0 102 := Or.inl ⟨0, o_42 (oW (K := 96) (r := 5) wi_W_gather_96 rfl), rfl, rfl⟩
theorem dW_gather_102 : dn tW_gather 102 (.getfield 11) 3 105 := ⟨o_180 0 11 11 (oWd (K := 96) (r := 6) wi_W_gather_96 rfl), rfl⟩
theorem dW_gather_105 : dn tW_gather 105 (.bipush 8) 2 107 := ⟨o_16 8 8 (oWd (K := 96) (r := 9) wi_W_gather_96 rfl), rfl⟩
theorem dW_gather_107 : dl tW_gather 107 .aload_n .aload 1 108 := Or.inl ⟨1, o_43 (oW (K := 96) (r := 11) wi_W_gather_96 rfl), rfl, rfl⟩
theorem dW_gather_108 : dl tW_gather 108 .iload_n .iload 2 109 := Or.inl ⟨2, o_28 (oW (K := 96) (r := 12) wi_W_gather_96 rfl), rfl, rfl⟩
theorem dW_gather_109 : dn tW_gather 109 (.bipush 10) 2 111 := ⟨o_16 10 10 (oWd (K := 96) (r := 13) wi_W_gather_96 rfl), rfl⟩
theorem dW_gather_111 : dn tW_gather 111 (.invokevirtual 52) 3 114 := ⟨o_182 0 52 52 (oWd (K := 96) (r := 15) wi_W_gather_96 rfl), rfl⟩
theorem dW_gather_114 : dn tW_gather 114 (.iastore) 1 115 := ⟨o_79 (oW (K := 96) (r := 18) wi_W_gather_96 rfl), rfl⟩
theorem dW_gather_115 : dl tW_gather 115 .aload_n .aload 0 116 := Or.inl ⟨0, o_42 (oW (K := 96) (r := 19) wi_W_gather_96 rfl), rfl, rfl⟩
theorem dW_gather_116 : dn tW_gather 116 (.getfield 11) 3 119 := ⟨o_180 0 11 11 (oWd (K := 96) (r := 20) wi_W_gather_96 rfl), rfl⟩
theorem dW_gather_119 : dn tW_gather 119 (.bipush 9) 2 121 := ⟨o_16 9 9 (oWd (K := 96) (r := 23) wi_W_gather_96 rfl), rfl⟩
theorem dW_gather_121 : dl tW_gather 121 .aload_n .aload 1 122 := Or.inl ⟨1, o_43 (oW (K := 96) (r := 25) wi_W_gather_96 rfl), rfl, rfl⟩
theorem dW_gather_122 : dn tW_gather 122 (.getfield 61) 3 125 := ⟨o_180 0 61 61 (oWd (K := 96) (r := 26) wi_W_gather_96 rfl), rfl⟩
theorem dW_gather_125 : dn tW_gather 125 (.iastore) 1 126 := ⟨o_79 (oW (K := 96) (r := 29) wi_W_gather_96 rfl), rfl⟩
theorem dW_gather_126 : dl tW_gather 126 .aload_n .aload 0 127 := Or.inl ⟨0, o_42 (oW (K := 96) (r := 30) wi_W_gather_96 rfl), rfl, rfl⟩
theorem dW_gather_127 : dn tW_gather 127 (.getfield 11) 3 130 := ⟨o_180 0 11 11 (oWd (K := 96) (r := 31) wi_W_gather_96 rfl), rfl⟩
def wl_W_gather_128 : List Nat := [0, 11, 16, 10, 43, 180, 0, 64, 79, 42, 180, 0, 11, 16, 11, 43, 180, 0, 67, 79, 177]
theorem wi_W_gather_128 : oC tW_gather.2.1 128 wl_W_gather_128 = true := by decide +kernel
theorem dW_gather_130 : dn tW_gather 130 (.bipush 10) 2 132 := ⟨o_16 10 10 (oWd (K := 128) (r := 2) wi_W_gather_128 rfl), rfl⟩
theorem dW_gather_132 : dl tW_gather 132 .aload_n .aload 1 133 := Or.inl ⟨1, o_43 (oW (K := 128) (r := 4) wi_W_gather_128 rfl), rfl, rfl⟩
theorem dW_gather_133 : dn tW_gather 133 (.getfield 64) 3 136 := ⟨o_180 0 64 64 (oWd (K := 128) (r := 5) wi_W_gather_128 rfl), rfl⟩
theorem dW_gather_136 : dn tW_gather 136 (.iastore) 1 137 := ⟨o_79 (oW (K := 128) (r := 8) wi_W_gather_128 rfl), rfl⟩
theorem dW_gather_137 : dl tW_gather 137 .aload_n .aload 0 138 := Or.inl ⟨0, o_42 (oW (K := 128) (r := 9) wi_W_gather_128 rfl), rfl, rfl⟩
theorem dW_gather_138 : dn tW_gather 138 (.getfield 11) 3 141 := ⟨o_180 0 11 11 (oWd (K := 128) (r := 10) wi_W_gather_128 rfl), rfl⟩
theorem dW_gather_141 : dn tW_gather 141 (.bipush 11) 2 143 := ⟨o_16 11 11 (oWd (K := 128) (r := 13) wi_W_gather_128 rfl), rfl⟩
theorem dW_gather_143 : dl tW_gather 143 .aload_n .aload 1 144 := Or.inl ⟨1, o_43 (oW (K := 128) (r := 15) wi_W_gather_128 rfl), rfl, rfl⟩
theorem dW_gather_144 : dn tW_gather 144 (.getfield 67) 3 147 := ⟨o_180 0 67 67 (oWd (K := 128) (r := 16) wi_W_gather_128 rfl), rfl⟩
theorem dW_gather_147 : dn tW_gather 147 (.iastore) 1 148 := ⟨o_79 (oW (K := 128) (r := 19) wi_W_gather_128 rfl), rfl⟩
theorem dW_gather_148 : dn tW_gather 148 (.return_) 1 149 := ⟨o_177 (oW (K := 128) (r := 20) wi_W_gather_128 rfl), rfl⟩
def wl_W_held_0 : List Nat := [3, 27, 26, 184, 0, 70, 184, 0, 75, 172]
theorem wi_W_held_0 : oC tW_held.2.1 0 wl_W_held_0 = true := by decide +kernel
theorem dW_held_0 : dn tW_held 0 (.iconst 0) 1 1 := ⟨o_3 (oW (K := 0) (r := 0) wi_W_held_0 rfl), rfl⟩
theorem dW_held_1 : dl tW_held 1 .iload_n .iload 1 2 := Or.inl ⟨1, o_27 (oW (K := 0) (r := 1) wi_W_held_0 rfl), rfl, rfl⟩
theorem dW_held_2 : dl tW_held 2 .iload_n .iload 0 3 := Or.inl ⟨0, o_26 (oW (K := 0) (r := 2) wi_W_held_0 rfl), rfl, rfl⟩
theorem dW_held_3 : dn tW_held 3 (.invokestatic 70) 3 6 := ⟨o_184 0 70 70 (oWd (K := 0) (r := 3) wi_W_held_0 rfl), rfl⟩
theorem dW_held_6 : dn tW_held 6 (.invokestatic 75) 3 9 := ⟨o_184 0 75 75 (oWd (K := 0) (r := 6) wi_W_held_0 rfl), rfl⟩
theorem dW_held_9 : dn tW_held 9 (.ireturn) 1 10 := ⟨o_172 (oW (K := 0) (r := 9) wi_W_held_0 rfl), rfl⟩
def wl_W_customary_0 : List Nat := [28, 171, 0, 0, 0, 0, 0, 54, 0, 0, 0, 2, 0, 0, 0, 0, 0, 0, 0, 27, 0, 0, 0, 1, 0, 0, 0, 39, 7, 5, 42, 27, 16, 7, 182, 0, 52, 104]
theorem wi_W_customary_0 : oC tW_customary.2.1 0 wl_W_customary_0 = true := by decide +kernel
theorem dW_customary_0 : dl tW_customary 0 .iload_n .iload 2 1 := Or.inl ⟨2, o_28 (oW (K := 0) (r := 0) wi_W_customary_0 rfl), rfl, rfl⟩
theorem dW_customary_1 : dsw tW_customary 1 [(0, 28), (1, 40)] 55 := dsw_l 54 #[(0, 27), (1, 39)] 27 (by decide +kernel) (by decide +kernel) (by decide +kernel)
theorem dW_customary_28 : dn tW_customary 28 (.iconst 4) 1 29 := ⟨o_7 (oW (K := 0) (r := 28) wi_W_customary_0 rfl), rfl⟩
theorem dW_customary_29 : dn tW_customary 29 (.iconst 2) 1 30 := ⟨o_5 (oW (K := 0) (r := 29) wi_W_customary_0 rfl), rfl⟩
theorem dW_customary_30 : dl tW_customary 30 .aload_n .aload 0 31 := Or.inl ⟨0, o_42 (oW (K := 0) (r := 30) wi_W_customary_0 rfl), rfl, rfl⟩
theorem dW_customary_31 : dl tW_customary 31 .iload_n .iload 1 32 := Or.inl ⟨1, o_27 (oW (K := 0) (r := 31) wi_W_customary_0 rfl), rfl, rfl⟩
def wl_W_customary_32 : List Nat := [16, 7, 182, 0, 52, 104, 96, 172, 17, 1, 44, 16, 30, 42, 27, 16, 6, 182, 0, 52, 104, 100, 172, 42, 180, 0, 61, 42, 27, 16, 6, 182, 0, 52, 100, 172]
theorem wi_W_customary_32 : oC tW_customary.2.1 32 wl_W_customary_32 = true := by decide +kernel
theorem dW_customary_32 : dn tW_customary 32 (.bipush 7) 2 34 := ⟨o_16 7 7 (oWd (K := 32) (r := 0) wi_W_customary_32 rfl), rfl⟩
theorem dW_customary_34 : dn tW_customary 34 (.invokevirtual 52) 3 37 := ⟨o_182 0 52 52 (oWd (K := 32) (r := 2) wi_W_customary_32 rfl), rfl⟩
theorem dW_customary_37 : dn tW_customary 37 (.imul) 1 38 := ⟨o_104 (oW (K := 32) (r := 5) wi_W_customary_32 rfl), rfl⟩
theorem dW_customary_38 : dn tW_customary 38 (.iadd) 1 39 := ⟨o_96 (oW (K := 32) (r := 6) wi_W_customary_32 rfl), rfl⟩
theorem dW_customary_39 : dn tW_customary 39 (.ireturn) 1 40 := ⟨o_172 (oW (K := 32) (r := 7) wi_W_customary_32 rfl), rfl⟩
theorem dW_customary_40 : dn tW_customary 40 (.sipush 300) 3 43 := ⟨o_17 1 44 300 (oWd (K := 32) (r := 8) wi_W_customary_32 rfl), rfl⟩
theorem dW_customary_43 : dn tW_customary 43 (.bipush 30) 2 45 := ⟨o_16 30 30 (oWd (K := 32) (r := 11) wi_W_customary_32 rfl), rfl⟩
theorem dW_customary_45 : dl tW_customary 45 .aload_n .aload 0 46 := Or.inl ⟨0, o_42 (oW (K := 32) (r := 13) wi_W_customary_32 rfl), rfl, rfl⟩
theorem dW_customary_46 : dl tW_customary 46 .iload_n .iload 1 47 := Or.inl ⟨1, o_27 (oW (K := 32) (r := 14) wi_W_customary_32 rfl), rfl, rfl⟩
theorem dW_customary_47 : dn tW_customary 47 (.bipush 6) 2 49 := ⟨o_16 6 6 (oWd (K := 32) (r := 15) wi_W_customary_32 rfl), rfl⟩
theorem dW_customary_49 : dn tW_customary 49 (.invokevirtual 52) 3 52 := ⟨o_182 0 52 52 (oWd (K := 32) (r := 17) wi_W_customary_32 rfl), rfl⟩
theorem dW_customary_52 : dn tW_customary 52 (.imul) 1 53 := ⟨o_104 (oW (K := 32) (r := 20) wi_W_customary_32 rfl), rfl⟩
theorem dW_customary_53 : dn tW_customary 53 (.isub) 1 54 := ⟨o_100 (oW (K := 32) (r := 21) wi_W_customary_32 rfl), rfl⟩
theorem dW_customary_54 : dn tW_customary 54 (.ireturn) 1 55 := ⟨o_172 (oW (K := 32) (r := 22) wi_W_customary_32 rfl), rfl⟩
theorem dW_customary_55 : dl tW_customary 55 .aload_n .aload 0 56 := Or.inl ⟨0, o_42 (oW (K := 32) (r := 23) wi_W_customary_32 rfl), rfl, rfl⟩
theorem dW_customary_56 : dn tW_customary 56 (.getfield 61) 3 59 := ⟨o_180 0 61 61 (oWd (K := 32) (r := 24) wi_W_customary_32 rfl), rfl⟩
theorem dW_customary_59 : dl tW_customary 59 .aload_n .aload 0 60 := Or.inl ⟨0, o_42 (oW (K := 32) (r := 27) wi_W_customary_32 rfl), rfl, rfl⟩
theorem dW_customary_60 : dl tW_customary 60 .iload_n .iload 1 61 := Or.inl ⟨1, o_27 (oW (K := 32) (r := 28) wi_W_customary_32 rfl), rfl, rfl⟩
theorem dW_customary_61 : dn tW_customary 61 (.bipush 6) 2 63 := ⟨o_16 6 6 (oWd (K := 32) (r := 29) wi_W_customary_32 rfl), rfl⟩
theorem dW_customary_63 : dn tW_customary 63 (.invokevirtual 52) 3 66 := ⟨o_182 0 52 52 (oWd (K := 32) (r := 31) wi_W_customary_32 rfl), rfl⟩
def wl_W_customary_64 : List Nat := [0, 52, 100, 172]
theorem wi_W_customary_64 : oC tW_customary.2.1 64 wl_W_customary_64 = true := by decide +kernel
theorem dW_customary_66 : dn tW_customary 66 (.isub) 1 67 := ⟨o_100 (oW (K := 64) (r := 2) wi_W_customary_64 rfl), rfl⟩
theorem dW_customary_67 : dn tW_customary 67 (.ireturn) 1 68 := ⟨o_172 (oW (K := 64) (r := 3) wi_W_customary_64 rfl), rfl⟩
def wl_W_applies_0 : List Nat := [42, 180, 0, 18, 27, 5, 182, 0, 30, 61, 42, 180, 0, 18, 27, 6, 182, 0, 30, 62, 28, 29, 162, 0, 12, 42, 28, 29, 182, 0, 42, 153, 0, 7, 4, 167, 0, 4]
theorem wi_W_applies_0 : oC tW_applies.2.1 0 wl_W_applies_0 = true := by decide +kernel
theorem dW_applies_0 : dl tW_applies 0 .aload_n .aload 0 1 := Or.inl ⟨0, o_42 (oW (K := 0) (r := 0) wi_W_applies_0 rfl), rfl, rfl⟩
theorem dW_applies_1 : dn tW_applies 1 (.getfield 18) 3 4 := ⟨o_180 0 18 18 (oWd (K := 0) (r := 1) wi_W_applies_0 rfl), rfl⟩
theorem dW_applies_4 : dl tW_applies 4 .iload_n .iload 1 5 := Or.inl ⟨1, o_27 (oW (K := 0) (r := 4) wi_W_applies_0 rfl), rfl, rfl⟩
theorem dW_applies_5 : dn tW_applies 5 (.iconst 2) 1 6 := ⟨o_5 (oW (K := 0) (r := 5) wi_W_applies_0 rfl), rfl⟩
theorem dW_applies_6 : dn tW_applies 6 (.invokevirtual 30) 3 9 := ⟨o_182 0 30 30 (oWd (K := 0) (r := 6) wi_W_applies_0 rfl), rfl⟩
theorem dW_applies_9 : dl tW_applies 9 .istore_n .istore 2 10 := Or.inl ⟨2, o_61 (oW (K := 0) (r := 9) wi_W_applies_0 rfl), rfl, rfl⟩
theorem dW_applies_10 : dl tW_applies 10 .aload_n .aload 0 11 := Or.inl ⟨0, o_42 (oW (K := 0) (r := 10) wi_W_applies_0 rfl), rfl, rfl⟩
theorem dW_applies_11 : dn tW_applies 11 (.getfield 18) 3 14 := ⟨o_180 0 18 18 (oWd (K := 0) (r := 11) wi_W_applies_0 rfl), rfl⟩
theorem dW_applies_14 : dl tW_applies 14 .iload_n .iload 1 15 := Or.inl ⟨1, o_27 (oW (K := 0) (r := 14) wi_W_applies_0 rfl), rfl, rfl⟩
theorem dW_applies_15 : dn tW_applies 15 (.iconst 3) 1 16 := ⟨o_6 (oW (K := 0) (r := 15) wi_W_applies_0 rfl), rfl⟩
theorem dW_applies_16 : dn tW_applies 16 (.invokevirtual 30) 3 19 := ⟨o_182 0 30 30 (oWd (K := 0) (r := 16) wi_W_applies_0 rfl), rfl⟩
theorem dW_applies_19 : dl tW_applies 19 .istore_n .istore 3 20 := Or.inl ⟨3, o_62 (oW (K := 0) (r := 19) wi_W_applies_0 rfl), rfl, rfl⟩
theorem dW_applies_20 : dl tW_applies 20 .iload_n .iload 2 21 := Or.inl ⟨2, o_28 (oW (K := 0) (r := 20) wi_W_applies_0 rfl), rfl, rfl⟩
theorem dW_applies_21 : dl tW_applies 21 .iload_n .iload 3 22 := Or.inl ⟨3, o_29 (oW (K := 0) (r := 21) wi_W_applies_0 rfl), rfl, rfl⟩
theorem dW_applies_22 : db tW_applies 22 (.if_icmp .ge) 34 25 := ⟨12, o_162 0 12 12 (oWd (K := 0) (r := 22) wi_W_applies_0 rfl), rfl, rfl⟩
theorem dW_applies_25 : dl tW_applies 25 .aload_n .aload 0 26 := Or.inl ⟨0, o_42 (oW (K := 0) (r := 25) wi_W_applies_0 rfl), rfl, rfl⟩
theorem dW_applies_26 : dl tW_applies 26 .iload_n .iload 2 27 := Or.inl ⟨2, o_28 (oW (K := 0) (r := 26) wi_W_applies_0 rfl), rfl, rfl⟩
theorem dW_applies_27 : dl tW_applies 27 .iload_n .iload 3 28 := Or.inl ⟨3, o_29 (oW (K := 0) (r := 27) wi_W_applies_0 rfl), rfl, rfl⟩
theorem dW_applies_28 : dn tW_applies 28 (.invokevirtual 42) 3 31 := ⟨o_182 0 42 42 (oWd (K := 0) (r := 28) wi_W_applies_0 rfl), rfl⟩
theorem dW_applies_31 : db tW_applies 31 (.ifCond .eq) 38 34 := ⟨7, o_153 0 7 7 (oWd (K := 0) (r := 31) wi_W_applies_0 rfl), rfl, rfl⟩
def wl_W_applies_32 : List Nat := [0, 7, 4, 167, 0, 4, 3, 172]
theorem wi_W_applies_32 : oC tW_applies.2.1 32 wl_W_applies_32 = true := by decide +kernel
theorem dW_applies_34 : dn tW_applies 34 (.iconst 1) 1 35 := ⟨o_4 (oW (K := 32) (r := 2) wi_W_applies_32 rfl), rfl⟩
theorem dW_applies_35 : db tW_applies 35 .goto 39 38 := ⟨4, o_167 0 4 4 (oWd (K := 32) (r := 3) wi_W_applies_32 rfl), rfl, rfl⟩
theorem dW_applies_38 : dn tW_applies 38 (.iconst 0) 1 39 := ⟨o_3 (oW (K := 32) (r := 6) wi_W_applies_32 rfl), rfl⟩
theorem dW_applies_39 : dn tW_applies 39 (.ireturn) 1 40 := ⟨o_172 (oW (K := 32) (r := 7) wi_W_applies_32 rfl), rfl⟩
def wl_W_run_0 : List Nat := [42, 3, 181, 0, 78, 27, 62, 29, 28, 162, 0, 31, 42, 42, 180, 0, 22, 29, 3, 182, 0, 30, 42, 180, 0, 22, 29, 4, 182, 0, 30, 182, 0, 81, 132, 3, 1, 167]
theorem wi_W_run_0 : oC tW_run.2.1 0 wl_W_run_0 = true := by decide +kernel
theorem dW_run_0 : dl tW_run 0 .aload_n .aload 0 1 := Or.inl ⟨0, o_42 (oW (K := 0) (r := 0) wi_W_run_0 rfl), rfl, rfl⟩
theorem dW_run_1 : dn tW_run 1 (.iconst 0) 1 2 := ⟨o_3 (oW (K := 0) (r := 1) wi_W_run_0 rfl), rfl⟩
theorem dW_run_2 : dn tW_run 2 (.putfield 78) 3 5 := ⟨o_181 0 78 78 (oWd (K := 0) (r := 2) wi_W_run_0 rfl), rfl⟩
theorem dW_run_5 : dl tW_run 5 .iload_n .iload 1 6 := Or.inl ⟨1, o_27 (oW (K := 0) (r := 5) wi_W_run_0 rfl), rfl, rfl⟩
theorem dW_run_6 : dl tW_run 6 .istore_n .istore 3 7 := Or.inl ⟨3, o_62 (oW (K := 0) (r := 6) wi_W_run_0 rfl), rfl, rfl⟩
theorem dW_run_7 : dl tW_run 7 .iload_n .iload 3 8 := Or.inl ⟨3, o_29 (oW (K := 0) (r := 7) wi_W_run_0 rfl), rfl, rfl⟩
theorem dW_run_8 : dl tW_run 8 .iload_n .iload 2 9 := Or.inl ⟨2, o_28 (oW (K := 0) (r := 8) wi_W_run_0 rfl), rfl, rfl⟩
theorem dW_run_9 : db tW_run 9 (.if_icmp .ge) 40 12 := ⟨31, o_162 0 31 31 (oWd (K := 0) (r := 9) wi_W_run_0 rfl), rfl, rfl⟩
theorem dW_run_12 : dl tW_run 12 .aload_n .aload 0 13 := Or.inl ⟨0, o_42 (oW (K := 0) (r := 12) wi_W_run_0 rfl), rfl, rfl⟩
theorem dW_run_13 : dl tW_run 13 .aload_n .aload 0 14 := Or.inl ⟨0, o_42 (oW (K := 0) (r := 13) wi_W_run_0 rfl), rfl, rfl⟩
theorem dW_run_14 : dn tW_run 14 (.getfield 22) 3 17 := ⟨o_180 0 22 22 (oWd (K := 0) (r := 14) wi_W_run_0 rfl), rfl⟩
theorem dW_run_17 : dl tW_run 17 .iload_n .iload 3 18 := Or.inl ⟨3, o_29 (oW (K := 0) (r := 17) wi_W_run_0 rfl), rfl, rfl⟩
theorem dW_run_18 : dn tW_run 18 (.iconst 0) 1 19 := ⟨o_3 (oW (K := 0) (r := 18) wi_W_run_0 rfl), rfl⟩
theorem dW_run_19 : dn tW_run 19 (.invokevirtual 30) 3 22 := ⟨o_182 0 30 30 (oWd (K := 0) (r := 19) wi_W_run_0 rfl), rfl⟩
theorem dW_run_22 : dl tW_run 22 .aload_n .aload 0 23 := Or.inl ⟨0, o_42 (oW (K := 0) (r := 22) wi_W_run_0 rfl), rfl, rfl⟩
theorem dW_run_23 : dn tW_run 23 (.getfield 22) 3 26 := ⟨o_180 0 22 22 (oWd (K := 0) (r := 23) wi_W_run_0 rfl), rfl⟩
theorem dW_run_26 : dl tW_run 26 .iload_n .iload 3 27 := Or.inl ⟨3, o_29 (oW (K := 0) (r := 26) wi_W_run_0 rfl), rfl, rfl⟩
theorem dW_run_27 : dn tW_run 27 (.iconst 1) 1 28 := ⟨o_4 (oW (K := 0) (r := 27) wi_W_run_0 rfl), rfl⟩
theorem dW_run_28 : dn tW_run 28 (.invokevirtual 30) 3 31 := ⟨o_182 0 30 30 (oWd (K := 0) (r := 28) wi_W_run_0 rfl), rfl⟩
theorem dW_run_31 : dn tW_run 31 (.invokevirtual 81) 3 34 := ⟨o_182 0 81 81 (oWd (K := 0) (r := 31) wi_W_run_0 rfl), rfl⟩
def wl_W_run_32 : List Nat := [0, 81, 132, 3, 1, 167, 255, 226, 42, 180, 0, 78, 158, 0, 12, 42, 180, 0, 15, 3, 46, 167, 0, 4, 3, 172]
theorem wi_W_run_32 : oC tW_run.2.1 32 wl_W_run_32 = true := by decide +kernel
theorem dW_run_34 : dn tW_run 34 (.iinc 3 1) 3 37 := ⟨o_132 3 1 1 (oWd (K := 32) (r := 2) wi_W_run_32 rfl), rfl⟩
theorem dW_run_37 : db tW_run 37 .goto 7 40 := ⟨-30, o_167 255 226 (-30) (oWd (K := 32) (r := 5) wi_W_run_32 rfl), rfl, rfl⟩
theorem dW_run_40 : dl tW_run 40 .aload_n .aload 0 41 := Or.inl ⟨0, o_42 (oW (K := 32) (r := 8) wi_W_run_32 rfl), rfl, rfl⟩
theorem dW_run_41 : dn tW_run 41 (.getfield 78) 3 44 := ⟨o_180 0 78 78 (oWd (K := 32) (r := 9) wi_W_run_32 rfl), rfl⟩
theorem dW_run_44 : db tW_run 44 (.ifCond .le) 56 47 := ⟨12, o_158 0 12 12 (oWd (K := 32) (r := 12) wi_W_run_32 rfl), rfl, rfl⟩
theorem dW_run_47 : dl tW_run 47 .aload_n .aload 0 48 := Or.inl ⟨0, o_42 (oW (K := 32) (r := 15) wi_W_run_32 rfl), rfl, rfl⟩
theorem dW_run_48 : dn tW_run 48 (.getfield 15) 3 51 := ⟨o_180 0 15 15 (oWd (K := 32) (r := 16) wi_W_run_32 rfl), rfl⟩
theorem dW_run_51 : dn tW_run 51 (.iconst 0) 1 52 := ⟨o_3 (oW (K := 32) (r := 19) wi_W_run_32 rfl), rfl⟩
theorem dW_run_52 : dn tW_run 52 (.iaload) 1 53 := ⟨o_46 (oW (K := 32) (r := 20) wi_W_run_32 rfl), rfl⟩
theorem dW_run_53 : db tW_run 53 .goto 57 56 := ⟨4, o_167 0 4 4 (oWd (K := 32) (r := 21) wi_W_run_32 rfl), rfl, rfl⟩
theorem dW_run_56 : dn tW_run 56 (.iconst 0) 1 57 := ⟨o_3 (oW (K := 32) (r := 24) wi_W_run_32 rfl), rfl⟩
theorem dW_run_57 : dn tW_run 57 (.ireturn) 1 58 := ⟨o_172 (oW (K := 32) (r := 25) wi_W_run_32 rfl), rfl⟩
def wl_W_step_0 : List Nat := [27, 153, 0, 8, 27, 4, 160, 0, 69, 42, 180, 0, 78, 16, 64, 162, 0, 193, 27, 4, 160, 0, 17, 28, 155, 0, 13, 28, 16, 12, 162, 0, 7, 4, 167, 0, 4, 3]
theorem wi_W_step_0 : oC tW_step.2.1 0 wl_W_step_0 = true := by decide +kernel
theorem dW_step_0 : dl tW_step 0 .iload_n .iload 1 1 := Or.inl ⟨1, o_27 (oW (K := 0) (r := 0) wi_W_step_0 rfl), rfl, rfl⟩
theorem dW_step_1 : db tW_step 1 (.ifCond .eq) 9 4 := ⟨8, o_153 0 8 8 (oWd (K := 0) (r := 1) wi_W_step_0 rfl), rfl, rfl⟩
theorem dW_step_4 : dl tW_step 4 .iload_n .iload 1 5 := Or.inl ⟨1, o_27 (oW (K := 0) (r := 4) wi_W_step_0 rfl), rfl, rfl⟩
theorem dW_step_5 : dn tW_step 5 (.iconst 1) 1 6 := ⟨o_4 (oW (K := 0) (r := 5) wi_W_step_0 rfl), rfl⟩
theorem dW_step_6 : db tW_step 6 (.if_icmp .ne) 75 9 := ⟨69, o_160 0 69 69 (oWd (K := 0) (r := 6) wi_W_step_0 rfl), rfl, rfl⟩
theorem dW_step_9 : dl tW_step 9 .aload_n .aload 0 10 := Or.inl ⟨0, o_42 (oW (K := 0) (r := 9) wi_W_step_0 rfl), rfl, rfl⟩
theorem dW_step_10 : dn tW_step 10 (.getfield 78) 3 13 := ⟨o_180 0 78 78 (oWd (K := 0) (r := 10) wi_W_step_0 rfl), rfl⟩
theorem dW_step_13 : dn tW_step 13 (.bipush 64) 2 15 := ⟨o_16 64 64 (oWd (K := 0) (r := 13) wi_W_step_0 rfl), rfl⟩
theorem dW_step_15 : db tW_step 15 (.if_icmp .ge) 208 18 := ⟨193, o_162 0 193 193 (oWd (K := 0) (r := 15) wi_W_step_0 rfl), rfl, rfl⟩
theorem dW_step_18 : dl tW_step 18 .iload_n .iload 1 19 := Or.inl ⟨1, o_27 (oW (K := 0) (r := 18) wi_W_step_0 rfl), rfl, rfl⟩
theorem dW_step_19 : dn tW_step 19 (.iconst 1) 1 20 := ⟨o_4 (oW (K := 0) (r := 19) wi_W_step_0 rfl), rfl⟩
theorem dW_step_20 : db tW_step 20 (.if_icmp .ne) 37 23 := ⟨17, o_160 0 17 17 (oWd (K := 0) (r := 20) wi_W_step_0 rfl), rfl, rfl⟩
theorem dW_step_23 : dl tW_step 23 .iload_n .iload 2 24 := Or.inl ⟨2, o_28 (oW (K := 0) (r := 23) wi_W_step_0 rfl), rfl, rfl⟩
theorem dW_step_24 : db tW_step 24 (.ifCond .lt) 37 27 := ⟨13, o_155 0 13 13 (oWd (K := 0) (r := 24) wi_W_step_0 rfl), rfl, rfl⟩
theorem dW_step_27 : dl tW_step 27 .iload_n .iload 2 28 := Or.inl ⟨2, o_28 (oW (K := 0) (r := 27) wi_W_step_0 rfl), rfl, rfl⟩
theorem dW_step_28 : dn tW_step 28 (.bipush 12) 2 30 := ⟨o_16 12 12 (oWd (K := 0) (r := 28) wi_W_step_0 rfl), rfl⟩
theorem dW_step_30 : db tW_step 30 (.if_icmp .ge) 37 33 := ⟨7, o_162 0 7 7 (oWd (K := 0) (r := 30) wi_W_step_0 rfl), rfl, rfl⟩
def wl_W_step_32 : List Nat := [7, 4, 167, 0, 4, 3, 62, 42, 180, 0, 15, 42, 180, 0, 78, 29, 153, 0, 12, 42, 180, 0, 11, 28, 46, 167, 0, 4, 28, 79, 42, 89, 180, 0, 78, 4, 96, 181]
theorem wi_W_step_32 : oC tW_step.2.1 32 wl_W_step_32 = true := by decide +kernel
theorem dW_step_33 : dn tW_step 33 (.iconst 1) 1 34 := ⟨o_4 (oW (K := 32) (r := 1) wi_W_step_32 rfl), rfl⟩
theorem dW_step_34 : db tW_step 34 .goto 38 37 := ⟨4, o_167 0 4 4 (oWd (K := 32) (r := 2) wi_W_step_32 rfl), rfl, rfl⟩
theorem dW_step_37 : dn tW_step 37 (.iconst 0) 1 38 := ⟨o_3 (oW (K := 32) (r := 5) wi_W_step_32 rfl), rfl⟩
theorem dW_step_38 : dl tW_step 38 .istore_n .istore 3 39 := Or.inl ⟨3, o_62 (oW (K := 32) (r := 6) wi_W_step_32 rfl), rfl, rfl⟩
theorem dW_step_39 : dl tW_step 39 .aload_n .aload 0 40 := Or.inl ⟨0, o_42 (oW (K := 32) (r := 7) wi_W_step_32 rfl), rfl, rfl⟩
theorem dW_step_40 : dn tW_step 40 (.getfield 15) 3 43 := ⟨o_180 0 15 15 (oWd (K := 32) (r := 8) wi_W_step_32 rfl), rfl⟩
theorem dW_step_43 : dl tW_step 43 .aload_n .aload 0 44 := Or.inl ⟨0, o_42 (oW (K := 32) (r := 11) wi_W_step_32 rfl), rfl, rfl⟩
theorem dW_step_44 : dn tW_step 44 (.getfield 78) 3 47 := ⟨o_180 0 78 78 (oWd (K := 32) (r := 12) wi_W_step_32 rfl), rfl⟩
theorem dW_step_47 : dl tW_step 47 .iload_n .iload 3 48 := Or.inl ⟨3, o_29 (oW (K := 32) (r := 15) wi_W_step_32 rfl), rfl, rfl⟩
theorem dW_step_48 : db tW_step 48 (.ifCond .eq) 60 51 := ⟨12, o_153 0 12 12 (oWd (K := 32) (r := 16) wi_W_step_32 rfl), rfl, rfl⟩
theorem dW_step_51 : dl tW_step 51 .aload_n .aload 0 52 := Or.inl ⟨0, o_42 (oW (K := 32) (r := 19) wi_W_step_32 rfl), rfl, rfl⟩
theorem dW_step_52 : dn tW_step 52 (.getfield 11) 3 55 := ⟨o_180 0 11 11 (oWd (K := 32) (r := 20) wi_W_step_32 rfl), rfl⟩
theorem dW_step_55 : dl tW_step 55 .iload_n .iload 2 56 := Or.inl ⟨2, o_28 (oW (K := 32) (r := 23) wi_W_step_32 rfl), rfl, rfl⟩
theorem dW_step_56 : dn tW_step 56 (.iaload) 1 57 := ⟨o_46 (oW (K := 32) (r := 24) wi_W_step_32 rfl), rfl⟩
theorem dW_step_57 : db tW_step 57 .goto 61 60 := ⟨4, o_167 0 4 4 (oWd (K := 32) (r := 25) wi_W_step_32 rfl), rfl, rfl⟩
theorem dW_step_60 : dl tW_step 60 .iload_n .iload 2 61 := Or.inl ⟨2, o_28 (oW (K := 32) (r := 28) wi_W_step_32 rfl), rfl, rfl⟩
theorem dW_step_61 : dn tW_step 61 (.iastore) 1 62 := ⟨o_79 (oW (K := 32) (r := 29) wi_W_step_32 rfl), rfl⟩
theorem dW_step_62 : dl tW_step 62 .aload_n .aload 0 63 := Or.inl ⟨0, o_42 (oW (K := 32) (r := 30) wi_W_step_32 rfl), rfl, rfl⟩
theorem dW_step_63 : dn tW_step 63 (.dup) 1 64 := ⟨o_89 (oW (K := 32) (r := 31) wi_W_step_32 rfl), rfl⟩
def wl_W_step_64 : List Nat := [180, 0, 78, 4, 96, 181, 0, 78, 167, 0, 136, 27, 8, 160, 0, 32, 42, 180, 0, 78, 158, 0, 124, 28, 153, 0, 120, 42, 180, 0, 15, 42, 180, 0, 78, 4, 100, 92]
theorem wi_W_step_64 : oC tW_step.2.1 64 wl_W_step_64 = true := by decide +kernel
theorem dW_step_64 : dn tW_step 64 (.getfield 78) 3 67 := ⟨o_180 0 78 78 (oWd (K := 64) (r := 0) wi_W_step_64 rfl), rfl⟩
theorem dW_step_67 : dn tW_step 67 (.iconst 1) 1 68 := ⟨o_4 (oW (K := 64) (r := 3) wi_W_step_64 rfl), rfl⟩
theorem dW_step_68 : dn tW_step 68 (.iadd) 1 69 := ⟨o_96 (oW (K := 64) (r := 4) wi_W_step_64 rfl), rfl⟩
theorem dW_step_69 : dn tW_step 69 (.putfield 78) 3 72 := ⟨o_181 0 78 78 (oWd (K := 64) (r := 5) wi_W_step_64 rfl), rfl⟩
theorem dW_step_72 : db tW_step 72 .goto 208 75 := ⟨136, o_167 0 136 136 (oWd (K := 64) (r := 8) wi_W_step_64 rfl), rfl, rfl⟩
theorem dW_step_75 : dl tW_step 75 .iload_n .iload 1 76 := Or.inl ⟨1, o_27 (oW (K := 64) (r := 11) wi_W_step_64 rfl), rfl, rfl⟩
theorem dW_step_76 : dn tW_step 76 (.iconst 5) 1 77 := ⟨o_8 (oW (K := 64) (r := 12) wi_W_step_64 rfl), rfl⟩
theorem dW_step_77 : db tW_step 77 (.if_icmp .ne) 109 80 := ⟨32, o_160 0 32 32 (oWd (K := 64) (r := 13) wi_W_step_64 rfl), rfl, rfl⟩
theorem dW_step_80 : dl tW_step 80 .aload_n .aload 0 81 := Or.inl ⟨0, o_42 (oW (K := 64) (r := 16) wi_W_step_64 rfl), rfl, rfl⟩
theorem dW_step_81 : dn tW_step 81 (.getfield 78) 3 84 := ⟨o_180 0 78 78 (oWd (K := 64) (r := 17) wi_W_step_64 rfl), rfl⟩
theorem dW_step_84 : db tW_step 84 (.ifCond .le) 208 87 := ⟨124, o_158 0 124 124 (oWd (K := 64) (r := 20) wi_W_step_64 rfl), rfl, rfl⟩
theorem dW_step_87 : dl tW_step 87 .iload_n .iload 2 88 := Or.inl ⟨2, o_28 (oW (K := 64) (r := 23) wi_W_step_64 rfl), rfl, rfl⟩
theorem dW_step_88 : db tW_step 88 (.ifCond .eq) 208 91 := ⟨120, o_153 0 120 120 (oWd (K := 64) (r := 24) wi_W_step_64 rfl), rfl, rfl⟩
theorem dW_step_91 : dl tW_step 91 .aload_n .aload 0 92 := Or.inl ⟨0, o_42 (oW (K := 64) (r := 27) wi_W_step_64 rfl), rfl, rfl⟩
theorem dW_step_92 : dn tW_step 92 (.getfield 15) 3 95 := ⟨o_180 0 15 15 (oWd (K := 64) (r := 28) wi_W_step_64 rfl), rfl⟩
theorem dW_step_95 : dl tW_step 95 .aload_n .aload 0 96 := Or.inl ⟨0, o_42 (oW (K := 64) (r := 31) wi_W_step_64 rfl), rfl, rfl⟩
def wl_W_step_96 : List Nat := [180, 0, 78, 4, 100, 92, 46, 28, 108, 79, 167, 0, 102, 27, 16, 9, 160, 0, 43, 42, 180, 0, 78, 158, 0, 89, 42, 180, 0, 15, 42, 180, 0, 78, 4, 100, 42, 180]
theorem wi_W_step_96 : oC tW_step.2.1 96 wl_W_step_96 = true := by decide +kernel
theorem dW_step_96 : dn tW_step 96 (.getfield 78) 3 99 := ⟨o_180 0 78 78 (oWd (K := 96) (r := 0) wi_W_step_96 rfl), rfl⟩
theorem dW_step_99 : dn tW_step 99 (.iconst 1) 1 100 := ⟨o_4 (oW (K := 96) (r := 3) wi_W_step_96 rfl), rfl⟩
theorem dW_step_100 : dn tW_step 100 (.isub) 1 101 := ⟨o_100 (oW (K := 96) (r := 4) wi_W_step_96 rfl), rfl⟩
theorem dW_step_101 : dn tW_step 101 (.dup2) 1 102 := ⟨o_92 (oW (K := 96) (r := 5) wi_W_step_96 rfl), rfl⟩
theorem dW_step_102 : dn tW_step 102 (.iaload) 1 103 := ⟨o_46 (oW (K := 96) (r := 6) wi_W_step_96 rfl), rfl⟩
theorem dW_step_103 : dl tW_step 103 .iload_n .iload 2 104 := Or.inl ⟨2, o_28 (oW (K := 96) (r := 7) wi_W_step_96 rfl), rfl, rfl⟩
theorem dW_step_104 : dn tW_step 104 (.idiv) 1 105 := ⟨o_108 (oW (K := 96) (r := 8) wi_W_step_96 rfl), rfl⟩
theorem dW_step_105 : dn tW_step 105 (.iastore) 1 106 := ⟨o_79 (oW (K := 96) (r := 9) wi_W_step_96 rfl), rfl⟩
theorem dW_step_106 : db tW_step 106 .goto 208 109 := ⟨102, o_167 0 102 102 (oWd (K := 96) (r := 10) wi_W_step_96 rfl), rfl, rfl⟩
theorem dW_step_109 : dl tW_step 109 .iload_n .iload 1 110 := Or.inl ⟨1, o_27 (oW (K := 96) (r := 13) wi_W_step_96 rfl), rfl, rfl⟩
theorem dW_step_110 : dn tW_step 110 (.bipush 9) 2 112 := ⟨o_16 9 9 (oWd (K := 96) (r := 14) wi_W_step_96 rfl), rfl⟩
theorem dW_step_112 : db tW_step 112 (.if_icmp .ne) 155 115 := ⟨43, o_160 0 43 43 (oWd (K := 96) (r := 16) wi_W_step_96 rfl), rfl, rfl⟩
theorem dW_step_115 : dl tW_step 115 .aload_n .aload 0 116 := Or.inl ⟨0, o_42 (oW (K := 96) (r := 19) wi_W_step_96 rfl), rfl, rfl⟩
theorem dW_step_116 : dn tW_step 116 (.getfield 78) 3 119 := ⟨o_180 0 78 78 (oWd (K := 96) (r := 20) wi_W_step_96 rfl), rfl⟩
theorem dW_step_119 : db tW_step 119 (.ifCond .le) 208 122 := ⟨89, o_158 0 89 89 (oWd (K := 96) (r := 23) wi_W_step_96 rfl), rfl, rfl⟩
theorem dW_step_122 : dl tW_step 122 .aload_n .aload 0 123 := Or.inl ⟨0, o_42 (oW (K := 96) (r := 26) wi_W_step_96 rfl), rfl, rfl⟩
theorem dW_step_123 : dn tW_step 123 (.getfield 15) 3 126 := ⟨o_180 0 15 15 (oWd (K := 96) (r := 27) wi_W_step_96 rfl), rfl⟩
theorem dW_step_126 : dl tW_step 126 .aload_n .aload 0 127 := Or.inl ⟨0, o_42 (oW (K := 96) (r := 30) wi_W_step_96 rfl), rfl, rfl⟩
theorem dW_step_127 : dn tW_step 127 (.getfield 78) 3 130 := ⟨o_180 0 78 78 (oWd (K := 96) (r := 31) wi_W_step_96 rfl), rfl⟩
def wl_W_step_128 : List Nat := [0, 78, 4, 100, 42, 180, 0, 15, 42, 180, 0, 78, 4, 100, 46, 154, 0, 7, 4, 167, 0, 4, 3, 79, 167, 0, 56, 42, 180, 0, 78, 4, 164, 0, 48, 42, 89, 180]
theorem wi_W_step_128 : oC tW_step.2.1 128 wl_W_step_128 = true := by decide +kernel
theorem dW_step_130 : dn tW_step 130 (.iconst 1) 1 131 := ⟨o_4 (oW (K := 128) (r := 2) wi_W_step_128 rfl), rfl⟩
theorem dW_step_131 : dn tW_step 131 (.isub) 1 132 := ⟨o_100 (oW (K := 128) (r := 3) wi_W_step_128 rfl), rfl⟩
theorem dW_step_132 : dl tW_step 132 .aload_n .aload 0 133 := Or.inl ⟨0, o_42 (oW (K := 128) (r := 4) wi_W_step_128 rfl), rfl, rfl⟩
theorem dW_step_133 : dn tW_step 133 (.getfield 15) 3 136 := ⟨o_180 0 15 15 (oWd (K := 128) (r := 5) wi_W_step_128 rfl), rfl⟩
theorem dW_step_136 : dl tW_step 136 .aload_n .aload 0 137 := Or.inl ⟨0, o_42 (oW (K := 128) (r := 8) wi_W_step_128 rfl), rfl, rfl⟩
theorem dW_step_137 : dn tW_step 137 (.getfield 78) 3 140 := ⟨o_180 0 78 78 (oWd (K := 128) (r := 9) wi_W_step_128 rfl), rfl⟩
theorem dW_step_140 : dn tW_step 140 (.iconst 1) 1 141 := ⟨o_4 (oW (K := 128) (r := 12) wi_W_step_128 rfl), rfl⟩
theorem dW_step_141 : dn tW_step 141 (.isub) 1 142 := ⟨o_100 (oW (K := 128) (r := 13) wi_W_step_128 rfl), rfl⟩
theorem dW_step_142 : dn tW_step 142 (.iaload) 1 143 := ⟨o_46 (oW (K := 128) (r := 14) wi_W_step_128 rfl), rfl⟩
theorem dW_step_143 : db tW_step 143 (.ifCond .ne) 150 146 := ⟨7, o_154 0 7 7 (oWd (K := 128) (r := 15) wi_W_step_128 rfl), rfl, rfl⟩
theorem dW_step_146 : dn tW_step 146 (.iconst 1) 1 147 := ⟨o_4 (oW (K := 128) (r := 18) wi_W_step_128 rfl), rfl⟩
theorem dW_step_147 : db tW_step 147 .goto 151 150 := ⟨4, o_167 0 4 4 (oWd (K := 128) (r := 19) wi_W_step_128 rfl), rfl, rfl⟩
theorem dW_step_150 : dn tW_step 150 (.iconst 0) 1 151 := ⟨o_3 (oW (K := 128) (r := 22) wi_W_step_128 rfl), rfl⟩
theorem dW_step_151 : dn tW_step 151 (.iastore) 1 152 := ⟨o_79 (oW (K := 128) (r := 23) wi_W_step_128 rfl), rfl⟩
theorem dW_step_152 : db tW_step 152 .goto 208 155 := ⟨56, o_167 0 56 56 (oWd (K := 128) (r := 24) wi_W_step_128 rfl), rfl, rfl⟩
theorem dW_step_155 : dl tW_step 155 .aload_n .aload 0 156 := Or.inl ⟨0, o_42 (oW (K := 128) (r := 27) wi_W_step_128 rfl), rfl, rfl⟩
theorem dW_step_156 : dn tW_step 156 (.getfield 78) 3 159 := ⟨o_180 0 78 78 (oWd (K := 128) (r := 28) wi_W_step_128 rfl), rfl⟩
theorem dW_step_159 : dn tW_step 159 (.iconst 1) 1 160 := ⟨o_4 (oW (K := 128) (r := 31) wi_W_step_128 rfl), rfl⟩
def wl_W_step_160 : List Nat := [164, 0, 48, 42, 89, 180, 0, 78, 4, 100, 181, 0, 78, 42, 180, 0, 15, 42, 180, 0, 78, 4, 100, 27, 42, 180, 0, 15, 42, 180, 0, 78, 4, 100, 46, 42, 180, 0]
theorem wi_W_step_160 : oC tW_step.2.1 160 wl_W_step_160 = true := by decide +kernel
theorem dW_step_160 : db tW_step 160 (.if_icmp .le) 208 163 := ⟨48, o_164 0 48 48 (oWd (K := 160) (r := 0) wi_W_step_160 rfl), rfl, rfl⟩
theorem dW_step_163 : dl tW_step 163 .aload_n .aload 0 164 := Or.inl ⟨0, o_42 (oW (K := 160) (r := 3) wi_W_step_160 rfl), rfl, rfl⟩
theorem dW_step_164 : dn tW_step 164 (.dup) 1 165 := ⟨o_89 (oW (K := 160) (r := 4) wi_W_step_160 rfl), rfl⟩
theorem dW_step_165 : dn tW_step 165 (.getfield 78) 3 168 := ⟨o_180 0 78 78 (oWd (K := 160) (r := 5) wi_W_step_160 rfl), rfl⟩
theorem dW_step_168 : dn tW_step 168 (.iconst 1) 1 169 := ⟨o_4 (oW (K := 160) (r := 8) wi_W_step_160 rfl), rfl⟩
theorem dW_step_169 : dn tW_step 169 (.isub) 1 170 := ⟨o_100 (oW (K := 160) (r := 9) wi_W_step_160 rfl), rfl⟩
theorem dW_step_170 : dn tW_step 170 (.putfield 78) 3 173 := ⟨o_181 0 78 78 (oWd (K := 160) (r := 10) wi_W_step_160 rfl), rfl⟩
theorem dW_step_173 : dl tW_step 173 .aload_n .aload 0 174 := Or.inl ⟨0, o_42 (oW (K := 160) (r := 13) wi_W_step_160 rfl), rfl, rfl⟩
theorem dW_step_174 : dn tW_step 174 (.getfield 15) 3 177 := ⟨o_180 0 15 15 (oWd (K := 160) (r := 14) wi_W_step_160 rfl), rfl⟩
theorem dW_step_177 : dl tW_step 177 .aload_n .aload 0 178 := Or.inl ⟨0, o_42 (oW (K := 160) (r := 17) wi_W_step_160 rfl), rfl, rfl⟩
theorem dW_step_178 : dn tW_step 178 (.getfield 78) 3 181 := ⟨o_180 0 78 78 (oWd (K := 160) (r := 18) wi_W_step_160 rfl), rfl⟩
theorem dW_step_181 : dn tW_step 181 (.iconst 1) 1 182 := ⟨o_4 (oW (K := 160) (r := 21) wi_W_step_160 rfl), rfl⟩
theorem dW_step_182 : dn tW_step 182 (.isub) 1 183 := ⟨o_100 (oW (K := 160) (r := 22) wi_W_step_160 rfl), rfl⟩
theorem dW_step_183 : dl tW_step 183 .iload_n .iload 1 184 := Or.inl ⟨1, o_27 (oW (K := 160) (r := 23) wi_W_step_160 rfl), rfl, rfl⟩
theorem dW_step_184 : dl tW_step 184 .aload_n .aload 0 185 := Or.inl ⟨0, o_42 (oW (K := 160) (r := 24) wi_W_step_160 rfl), rfl, rfl⟩
theorem dW_step_185 : dn tW_step 185 (.getfield 15) 3 188 := ⟨o_180 0 15 15 (oWd (K := 160) (r := 25) wi_W_step_160 rfl), rfl⟩
theorem dW_step_188 : dl tW_step 188 .aload_n .aload 0 189 := Or.inl ⟨0, o_42 (oW (K := 160) (r := 28) wi_W_step_160 rfl), rfl, rfl⟩
theorem dW_step_189 : dn tW_step 189 (.getfield 78) 3 192 := ⟨o_180 0 78 78 (oWd (K := 160) (r := 29) wi_W_step_160 rfl), rfl⟩
def wl_W_step_192 : List Nat := [4, 100, 46, 42, 180, 0, 15, 42, 180, 0, 78, 46, 184, 0, 85, 79, 177]
theorem wi_W_step_192 : oC tW_step.2.1 192 wl_W_step_192 = true := by decide +kernel
theorem dW_step_192 : dn tW_step 192 (.iconst 1) 1 193 := ⟨o_4 (oW (K := 192) (r := 0) wi_W_step_192 rfl), rfl⟩
theorem dW_step_193 : dn tW_step 193 (.isub) 1 194 := ⟨o_100 (oW (K := 192) (r := 1) wi_W_step_192 rfl), rfl⟩
theorem dW_step_194 : dn tW_step 194 (.iaload) 1 195 := ⟨o_46 (oW (K := 192) (r := 2) wi_W_step_192 rfl), rfl⟩
theorem dW_step_195 : dl tW_step 195 .aload_n .aload 0 196 := Or.inl ⟨0, o_42 (oW (K := 192) (r := 3) wi_W_step_192 rfl), rfl, rfl⟩
theorem dW_step_196 : dn tW_step 196 (.getfield 15) 3 199 := ⟨o_180 0 15 15 (oWd (K := 192) (r := 4) wi_W_step_192 rfl), rfl⟩
theorem dW_step_199 : dl tW_step 199 .aload_n .aload 0 200 := Or.inl ⟨0, o_42 (oW (K := 192) (r := 7) wi_W_step_192 rfl), rfl, rfl⟩
theorem dW_step_200 : dn tW_step 200 (.getfield 78) 3 203 := ⟨o_180 0 78 78 (oWd (K := 192) (r := 8) wi_W_step_192 rfl), rfl⟩
theorem dW_step_203 : dn tW_step 203 (.iaload) 1 204 := ⟨o_46 (oW (K := 192) (r := 11) wi_W_step_192 rfl), rfl⟩
theorem dW_step_204 : dn tW_step 204 (.invokestatic 85) 3 207 := ⟨o_184 0 85 85 (oWd (K := 192) (r := 12) wi_W_step_192 rfl), rfl⟩
theorem dW_step_207 : dn tW_step 207 (.iastore) 1 208 := ⟨o_79 (oW (K := 192) (r := 15) wi_W_step_192 rfl), rfl⟩
theorem dW_step_208 : dn tW_step 208 (.return_) 1 209 := ⟨o_177 (oW (K := 192) (r := 16) wi_W_step_192 rfl), rfl⟩
def wl_W_joined_0 : List Nat := [26, 170, 0, 0, 0, 0, 0, 100, 0, 0, 0, 2, 0, 0, 0, 10, 0, 0, 0, 51, 0, 0, 0, 55, 0, 0, 0, 59, 0, 0, 0, 100, 0, 0, 0, 63, 0, 0]
theorem wi_W_joined_0 : oC tW_joined.2.1 0 wl_W_joined_0 = true := by decide +kernel
theorem dW_joined_0 : dl tW_joined 0 .iload_n .iload 0 1 := Or.inl ⟨0, o_26 (oW (K := 0) (r := 0) wi_W_joined_0 rfl), rfl, rfl⟩
theorem dW_joined_1 : dsw tW_joined 1 [(2, 52), (3, 56), (4, 60), (5, 101), (6, 64), (7, 75), (8, 86), (9, 101), (10, 97)] 101 := dsw_t 100 2 10 #[51, 55, 59, 100, 63, 74, 85, 100, 96] 51 (by decide +kernel) (by decide) (by decide) (by decide +kernel)
def wl_W_joined_32 : List Nat := [0, 0, 0, 63, 0, 0, 0, 74, 0, 0, 0, 85, 0, 0, 0, 100, 0, 0, 0, 96, 27, 28, 96, 172, 27, 28, 100, 172, 27, 28, 104, 172, 27, 28, 162, 0, 7, 4]
theorem wi_W_joined_32 : oC tW_joined.2.1 32 wl_W_joined_32 = true := by decide +kernel
theorem dW_joined_52 : dl tW_joined 52 .iload_n .iload 1 53 := Or.inl ⟨1, o_27 (oW (K := 32) (r := 20) wi_W_joined_32 rfl), rfl, rfl⟩
theorem dW_joined_53 : dl tW_joined 53 .iload_n .iload 2 54 := Or.inl ⟨2, o_28 (oW (K := 32) (r := 21) wi_W_joined_32 rfl), rfl, rfl⟩
theorem dW_joined_54 : dn tW_joined 54 (.iadd) 1 55 := ⟨o_96 (oW (K := 32) (r := 22) wi_W_joined_32 rfl), rfl⟩
theorem dW_joined_55 : dn tW_joined 55 (.ireturn) 1 56 := ⟨o_172 (oW (K := 32) (r := 23) wi_W_joined_32 rfl), rfl⟩
theorem dW_joined_56 : dl tW_joined 56 .iload_n .iload 1 57 := Or.inl ⟨1, o_27 (oW (K := 32) (r := 24) wi_W_joined_32 rfl), rfl, rfl⟩
theorem dW_joined_57 : dl tW_joined 57 .iload_n .iload 2 58 := Or.inl ⟨2, o_28 (oW (K := 32) (r := 25) wi_W_joined_32 rfl), rfl, rfl⟩
theorem dW_joined_58 : dn tW_joined 58 (.isub) 1 59 := ⟨o_100 (oW (K := 32) (r := 26) wi_W_joined_32 rfl), rfl⟩
theorem dW_joined_59 : dn tW_joined 59 (.ireturn) 1 60 := ⟨o_172 (oW (K := 32) (r := 27) wi_W_joined_32 rfl), rfl⟩
theorem dW_joined_60 : dl tW_joined 60 .iload_n .iload 1 61 := Or.inl ⟨1, o_27 (oW (K := 32) (r := 28) wi_W_joined_32 rfl), rfl, rfl⟩
theorem dW_joined_61 : dl tW_joined 61 .iload_n .iload 2 62 := Or.inl ⟨2, o_28 (oW (K := 32) (r := 29) wi_W_joined_32 rfl), rfl, rfl⟩
theorem dW_joined_62 : dn tW_joined 62 (.imul) 1 63 := ⟨o_104 (oW (K := 32) (r := 30) wi_W_joined_32 rfl), rfl⟩
theorem dW_joined_63 : dn tW_joined 63 (.ireturn) 1 64 := ⟨o_172 (oW (K := 32) (r := 31) wi_W_joined_32 rfl), rfl⟩
def wl_W_joined_64 : List Nat := [27, 28, 162, 0, 7, 4, 167, 0, 4, 3, 172, 27, 28, 160, 0, 7, 4, 167, 0, 4, 3, 172, 27, 28, 164, 0, 7, 4, 167, 0, 4, 3, 172, 27, 28, 126, 172, 27]
theorem wi_W_joined_64 : oC tW_joined.2.1 64 wl_W_joined_64 = true := by decide +kernel
theorem dW_joined_64 : dl tW_joined 64 .iload_n .iload 1 65 := Or.inl ⟨1, o_27 (oW (K := 64) (r := 0) wi_W_joined_64 rfl), rfl, rfl⟩
theorem dW_joined_65 : dl tW_joined 65 .iload_n .iload 2 66 := Or.inl ⟨2, o_28 (oW (K := 64) (r := 1) wi_W_joined_64 rfl), rfl, rfl⟩
theorem dW_joined_66 : db tW_joined 66 (.if_icmp .ge) 73 69 := ⟨7, o_162 0 7 7 (oWd (K := 64) (r := 2) wi_W_joined_64 rfl), rfl, rfl⟩
theorem dW_joined_69 : dn tW_joined 69 (.iconst 1) 1 70 := ⟨o_4 (oW (K := 64) (r := 5) wi_W_joined_64 rfl), rfl⟩
theorem dW_joined_70 : db tW_joined 70 .goto 74 73 := ⟨4, o_167 0 4 4 (oWd (K := 64) (r := 6) wi_W_joined_64 rfl), rfl, rfl⟩
theorem dW_joined_73 : dn tW_joined 73 (.iconst 0) 1 74 := ⟨o_3 (oW (K := 64) (r := 9) wi_W_joined_64 rfl), rfl⟩
theorem dW_joined_74 : dn tW_joined 74 (.ireturn) 1 75 := ⟨o_172 (oW (K := 64) (r := 10) wi_W_joined_64 rfl), rfl⟩
theorem dW_joined_75 : dl tW_joined 75 .iload_n .iload 1 76 := Or.inl ⟨1, o_27 (oW (K := 64) (r := 11) wi_W_joined_64 rfl), rfl, rfl⟩
theorem dW_joined_76 : dl tW_joined 76 .iload_n .iload 2 77 := Or.inl ⟨2, o_28 (oW (K := 64) (r := 12) wi_W_joined_64 rfl), rfl, rfl⟩
theorem dW_joined_77 : db tW_joined 77 (.if_icmp .ne) 84 80 := ⟨7, o_160 0 7 7 (oWd (K := 64) (r := 13) wi_W_joined_64 rfl), rfl, rfl⟩
theorem dW_joined_80 : dn tW_joined 80 (.iconst 1) 1 81 := ⟨o_4 (oW (K := 64) (r := 16) wi_W_joined_64 rfl), rfl⟩
theorem dW_joined_81 : db tW_joined 81 .goto 85 84 := ⟨4, o_167 0 4 4 (oWd (K := 64) (r := 17) wi_W_joined_64 rfl), rfl, rfl⟩
theorem dW_joined_84 : dn tW_joined 84 (.iconst 0) 1 85 := ⟨o_3 (oW (K := 64) (r := 20) wi_W_joined_64 rfl), rfl⟩
theorem dW_joined_85 : dn tW_joined 85 (.ireturn) 1 86 := ⟨o_172 (oW (K := 64) (r := 21) wi_W_joined_64 rfl), rfl⟩
theorem dW_joined_86 : dl tW_joined 86 .iload_n .iload 1 87 := Or.inl ⟨1, o_27 (oW (K := 64) (r := 22) wi_W_joined_64 rfl), rfl, rfl⟩
theorem dW_joined_87 : dl tW_joined 87 .iload_n .iload 2 88 := Or.inl ⟨2, o_28 (oW (K := 64) (r := 23) wi_W_joined_64 rfl), rfl, rfl⟩
theorem dW_joined_88 : db tW_joined 88 (.if_icmp .le) 95 91 := ⟨7, o_164 0 7 7 (oWd (K := 64) (r := 24) wi_W_joined_64 rfl), rfl, rfl⟩
theorem dW_joined_91 : dn tW_joined 91 (.iconst 1) 1 92 := ⟨o_4 (oW (K := 64) (r := 27) wi_W_joined_64 rfl), rfl⟩
theorem dW_joined_92 : db tW_joined 92 .goto 96 95 := ⟨4, o_167 0 4 4 (oWd (K := 64) (r := 28) wi_W_joined_64 rfl), rfl, rfl⟩
theorem dW_joined_95 : dn tW_joined 95 (.iconst 0) 1 96 := ⟨o_3 (oW (K := 64) (r := 31) wi_W_joined_64 rfl), rfl⟩
def wl_W_joined_96 : List Nat := [172, 27, 28, 126, 172, 27, 28, 128, 172]
theorem wi_W_joined_96 : oC tW_joined.2.1 96 wl_W_joined_96 = true := by decide +kernel
theorem dW_joined_96 : dn tW_joined 96 (.ireturn) 1 97 := ⟨o_172 (oW (K := 96) (r := 0) wi_W_joined_96 rfl), rfl⟩
theorem dW_joined_97 : dl tW_joined 97 .iload_n .iload 1 98 := Or.inl ⟨1, o_27 (oW (K := 96) (r := 1) wi_W_joined_96 rfl), rfl, rfl⟩
theorem dW_joined_98 : dl tW_joined 98 .iload_n .iload 2 99 := Or.inl ⟨2, o_28 (oW (K := 96) (r := 2) wi_W_joined_96 rfl), rfl, rfl⟩
theorem dW_joined_99 : dn tW_joined 99 (.iand) 1 100 := ⟨o_126 (oW (K := 96) (r := 3) wi_W_joined_96 rfl), rfl⟩
theorem dW_joined_100 : dn tW_joined 100 (.ireturn) 1 101 := ⟨o_172 (oW (K := 96) (r := 4) wi_W_joined_96 rfl), rfl⟩
theorem dW_joined_101 : dl tW_joined 101 .iload_n .iload 1 102 := Or.inl ⟨1, o_27 (oW (K := 96) (r := 5) wi_W_joined_96 rfl), rfl, rfl⟩
theorem dW_joined_102 : dl tW_joined 102 .iload_n .iload 2 103 := Or.inl ⟨2, o_28 (oW (K := 96) (r := 6) wi_W_joined_96 rfl), rfl, rfl⟩
theorem dW_joined_103 : dn tW_joined 103 (.ior) 1 104 := ⟨o_128 (oW (K := 96) (r := 7) wi_W_joined_96 rfl), rfl⟩
theorem dW_joined_104 : dn tW_joined 104 (.ireturn) 1 105 := ⟨o_172 (oW (K := 96) (r := 8) wi_W_joined_96 rfl), rfl⟩
def tP_keep : MM := (⟨"GingerRents$Past", "keep", "(LGingerRents$Borough;I)V"⟩, prog_5_method_2_code, 4, none)
theorem okP_keep : mV tP_keep 2 := ⟨⟨tb_in (in_t2 _ (List.mem_of_getElem? (i := 223) rfl)) rfl, tb_in (in_t1 _ (List.mem_of_getElem? (i := 8) rfl)) rfl, ⟨cq_10.1, cq_10.2, by decide +kernel⟩, by decide⟩, tb_in (in_t2 _ (List.mem_of_getElem? (i := 221) rfl)) rfl, tb_in (in_t2 _ (List.mem_of_getElem? (i := 222) rfl)) rfl⟩
def tP_goBack : MM := (⟨"GingerRents$Past", "goBack", "(LGingerRents$Borough;)I"⟩, prog_5_method_3_code, 3, (some .int))
theorem okP_goBack : mV tP_goBack 1 := ⟨⟨tb_in (in_t5 _ (List.mem_of_getElem? (i := 215) rfl)) rfl, tb_in (in_t1 _ (List.mem_of_getElem? (i := 8) rfl)) rfl, ⟨cq_10.1, cq_10.2, by decide +kernel⟩, by decide⟩, tb_in (in_t5 _ (List.mem_of_getElem? (i := 213) rfl)) rfl, tb_in (in_t5 _ (List.mem_of_getElem? (i := 214) rfl)) rfl⟩
def tP_forget : MM := (⟨"GingerRents$Past", "forget", "()V"⟩, prog_5_method_4_code, 1, none)
theorem okP_forget : mV tP_forget 0 := ⟨⟨tb_in (in_t2 _ (List.mem_of_getElem? (i := 166) rfl)) rfl, tb_in (in_t1 _ (List.mem_of_getElem? (i := 8) rfl)) rfl, ⟨cq_10.1, cq_10.2, by decide +kernel⟩, by decide⟩, tb_in (in_t2 _ (List.mem_of_getElem? (i := 164) rfl)) rfl, tb_in (in_t2 _ (List.mem_of_getElem? (i := 165) rfl)) rfl⟩
theorem fuP_20 : fu "GingerRents$Past" 20 4 2 := ⟨_, _, _, rfl, by decide, rfl, tb_in (in_t1 _ (List.mem_of_getElem? (i := 227) rfl)) rfl⟩
theorem fuP_24 : fu "GingerRents$Past" 24 4 3 := ⟨_, _, _, rfl, by decide, rfl, tb_in (in_t1 _ (List.mem_of_getElem? (i := 228) rfl)) rfl⟩
theorem fuP_11 : fu "GingerRents$Past" 11 4 0 := ⟨_, _, _, rfl, by decide, rfl, tb_in (in_t1 _ (List.mem_of_getElem? (i := 225) rfl)) rfl⟩
theorem mlP_27 : Cond.methodLink "GingerRents$Past" 27 ⟨"GingerRents$Borough", "copyFrom", "(LGingerRents$Borough;)V"⟩ ∈ tb := tb_in (in_t2 _ (List.mem_of_getElem? (i := 224) rfl)) rfl
theorem fuP_15 : fu "GingerRents$Past" 15 4 1 := ⟨_, _, _, rfl, by decide, rfl, tb_in (in_t1 _ (List.mem_of_getElem? (i := 226) rfl)) rfl⟩
theorem mlP_31 : Cond.methodLink "GingerRents$Past" 31 ⟨"java/lang/Math", "max", "(II)I"⟩ ∈ tb := tb_in (in_t5 _ (List.mem_of_getElem? (i := 216) rfl)) rfl
def wl_P_keep_0 : List Nat := [42, 180, 0, 20, 42, 180, 0, 24, 96, 16, 6, 112, 62, 42, 180, 0, 11, 29, 50, 43, 182, 0, 27, 42, 180, 0, 15, 29, 28, 79, 42, 180, 0, 24, 16, 6, 162, 0]
theorem wi_P_keep_0 : oC tP_keep.2.1 0 wl_P_keep_0 = true := by decide +kernel
theorem dP_keep_0 : dl tP_keep 0 .aload_n .aload 0 1 := Or.inl ⟨0, o_42 (oW (K := 0) (r := 0) wi_P_keep_0 rfl), rfl, rfl⟩
theorem dP_keep_1 : dn tP_keep 1 (.getfield 20) 3 4 := ⟨o_180 0 20 20 (oWd (K := 0) (r := 1) wi_P_keep_0 rfl), rfl⟩
theorem dP_keep_4 : dl tP_keep 4 .aload_n .aload 0 5 := Or.inl ⟨0, o_42 (oW (K := 0) (r := 4) wi_P_keep_0 rfl), rfl, rfl⟩
theorem dP_keep_5 : dn tP_keep 5 (.getfield 24) 3 8 := ⟨o_180 0 24 24 (oWd (K := 0) (r := 5) wi_P_keep_0 rfl), rfl⟩
theorem dP_keep_8 : dn tP_keep 8 (.iadd) 1 9 := ⟨o_96 (oW (K := 0) (r := 8) wi_P_keep_0 rfl), rfl⟩
theorem dP_keep_9 : dn tP_keep 9 (.bipush 6) 2 11 := ⟨o_16 6 6 (oWd (K := 0) (r := 9) wi_P_keep_0 rfl), rfl⟩
theorem dP_keep_11 : dn tP_keep 11 (.irem) 1 12 := ⟨o_112 (oW (K := 0) (r := 11) wi_P_keep_0 rfl), rfl⟩
theorem dP_keep_12 : dl tP_keep 12 .istore_n .istore 3 13 := Or.inl ⟨3, o_62 (oW (K := 0) (r := 12) wi_P_keep_0 rfl), rfl, rfl⟩
theorem dP_keep_13 : dl tP_keep 13 .aload_n .aload 0 14 := Or.inl ⟨0, o_42 (oW (K := 0) (r := 13) wi_P_keep_0 rfl), rfl, rfl⟩
theorem dP_keep_14 : dn tP_keep 14 (.getfield 11) 3 17 := ⟨o_180 0 11 11 (oWd (K := 0) (r := 14) wi_P_keep_0 rfl), rfl⟩
theorem dP_keep_17 : dl tP_keep 17 .iload_n .iload 3 18 := Or.inl ⟨3, o_29 (oW (K := 0) (r := 17) wi_P_keep_0 rfl), rfl, rfl⟩
theorem dP_keep_18 : dn tP_keep 18 (.aaload) 1 19 := ⟨o_50 (oW (K := 0) (r := 18) wi_P_keep_0 rfl), rfl⟩
theorem dP_keep_19 : dl tP_keep 19 .aload_n .aload 1 20 := Or.inl ⟨1, o_43 (oW (K := 0) (r := 19) wi_P_keep_0 rfl), rfl, rfl⟩
theorem dP_keep_20 : dn tP_keep 20 (.invokevirtual 27) 3 23 := ⟨o_182 0 27 27 (oWd (K := 0) (r := 20) wi_P_keep_0 rfl), rfl⟩
theorem dP_keep_23 : dl tP_keep 23 .aload_n .aload 0 24 := Or.inl ⟨0, o_42 (oW (K := 0) (r := 23) wi_P_keep_0 rfl), rfl, rfl⟩
theorem dP_keep_24 : dn tP_keep 24 (.getfield 15) 3 27 := ⟨o_180 0 15 15 (oWd (K := 0) (r := 24) wi_P_keep_0 rfl), rfl⟩
theorem dP_keep_27 : dl tP_keep 27 .iload_n .iload 3 28 := Or.inl ⟨3, o_29 (oW (K := 0) (r := 27) wi_P_keep_0 rfl), rfl, rfl⟩
theorem dP_keep_28 : dl tP_keep 28 .iload_n .iload 2 29 := Or.inl ⟨2, o_28 (oW (K := 0) (r := 28) wi_P_keep_0 rfl), rfl, rfl⟩
theorem dP_keep_29 : dn tP_keep 29 (.iastore) 1 30 := ⟨o_79 (oW (K := 0) (r := 29) wi_P_keep_0 rfl), rfl⟩
theorem dP_keep_30 : dl tP_keep 30 .aload_n .aload 0 31 := Or.inl ⟨0, o_42 (oW (K := 0) (r := 30) wi_P_keep_0 rfl), rfl, rfl⟩
theorem dP_keep_31 : dn tP_keep 31 (.getfield 24) 3 34 := ⟨o_180 0 24 24 (oWd (K := 0) (r := 31) wi_P_keep_0 rfl), rfl⟩
def wl_P_keep_32 : List Nat := [0, 24, 16, 6, 162, 0, 16, 42, 89, 180, 0, 24, 4, 96, 181, 0, 24, 167, 0, 16, 42, 42, 180, 0, 20, 4, 96, 16, 6, 112, 181, 0, 20, 177]
theorem wi_P_keep_32 : oC tP_keep.2.1 32 wl_P_keep_32 = true := by decide +kernel
theorem dP_keep_34 : dn tP_keep 34 (.bipush 6) 2 36 := ⟨o_16 6 6 (oWd (K := 32) (r := 2) wi_P_keep_32 rfl), rfl⟩
theorem dP_keep_36 : db tP_keep 36 (.if_icmp .ge) 52 39 := ⟨16, o_162 0 16 16 (oWd (K := 32) (r := 4) wi_P_keep_32 rfl), rfl, rfl⟩
theorem dP_keep_39 : dl tP_keep 39 .aload_n .aload 0 40 := Or.inl ⟨0, o_42 (oW (K := 32) (r := 7) wi_P_keep_32 rfl), rfl, rfl⟩
theorem dP_keep_40 : dn tP_keep 40 (.dup) 1 41 := ⟨o_89 (oW (K := 32) (r := 8) wi_P_keep_32 rfl), rfl⟩
theorem dP_keep_41 : dn tP_keep 41 (.getfield 24) 3 44 := ⟨o_180 0 24 24 (oWd (K := 32) (r := 9) wi_P_keep_32 rfl), rfl⟩
theorem dP_keep_44 : dn tP_keep 44 (.iconst 1) 1 45 := ⟨o_4 (oW (K := 32) (r := 12) wi_P_keep_32 rfl), rfl⟩
theorem dP_keep_45 : dn tP_keep 45 (.iadd) 1 46 := ⟨o_96 (oW (K := 32) (r := 13) wi_P_keep_32 rfl), rfl⟩
theorem dP_keep_46 : dn tP_keep 46 (.putfield 24) 3 49 := ⟨o_181 0 24 24 (oWd (K := 32) (r := 14) wi_P_keep_32 rfl), rfl⟩
theorem dP_keep_49 : db tP_keep 49 .goto 65 52 := ⟨16, o_167 0 16 16 (oWd (K := 32) (r := 17) wi_P_keep_32 rfl), rfl, rfl⟩
theorem dP_keep_52 : dl tP_keep 52 .aload_n .aload 0 53 := Or.inl ⟨0, o_42 (oW (K := 32) (r := 20) wi_P_keep_32 rfl), rfl, rfl⟩
theorem dP_keep_53 : dl tP_keep 53 .aload_n .aload 0 54 := Or.inl ⟨0, o_42 (oW (K := 32) (r := 21) wi_P_keep_32 rfl), rfl, rfl⟩
theorem dP_keep_54 : dn tP_keep 54 (.getfield 20) 3 57 := ⟨o_180 0 20 20 (oWd (K := 32) (r := 22) wi_P_keep_32 rfl), rfl⟩
theorem dP_keep_57 : dn tP_keep 57 (.iconst 1) 1 58 := ⟨o_4 (oW (K := 32) (r := 25) wi_P_keep_32 rfl), rfl⟩
theorem dP_keep_58 : dn tP_keep 58 (.iadd) 1 59 := ⟨o_96 (oW (K := 32) (r := 26) wi_P_keep_32 rfl), rfl⟩
theorem dP_keep_59 : dn tP_keep 59 (.bipush 6) 2 61 := ⟨o_16 6 6 (oWd (K := 32) (r := 27) wi_P_keep_32 rfl), rfl⟩
theorem dP_keep_61 : dn tP_keep 61 (.irem) 1 62 := ⟨o_112 (oW (K := 32) (r := 29) wi_P_keep_32 rfl), rfl⟩
theorem dP_keep_62 : dn tP_keep 62 (.putfield 20) 3 65 := ⟨o_181 0 20 20 (oWd (K := 32) (r := 30) wi_P_keep_32 rfl), rfl⟩
def wl_P_keep_64 : List Nat := [20, 177]
theorem wi_P_keep_64 : oC tP_keep.2.1 64 wl_P_keep_64 = true := by decide +kernel
theorem dP_keep_65 : dn tP_keep 65 (.return_) 1 66 := ⟨o_177 (oW (K := 64) (r := 1) wi_P_keep_64 rfl), rfl⟩
def wl_P_goBack_0 : List Nat := [42, 3, 42, 180, 0, 24, 4, 100, 184, 0, 31, 181, 0, 24, 42, 180, 0, 20, 42, 180, 0, 24, 96, 16, 6, 112, 61, 43, 42, 180, 0, 11, 28, 50, 182, 0, 27, 42]
theorem wi_P_goBack_0 : oC tP_goBack.2.1 0 wl_P_goBack_0 = true := by decide +kernel
theorem dP_goBack_0 : dl tP_goBack 0 .aload_n .aload 0 1 := Or.inl ⟨0, o_42 (oW (K := 0) (r := 0) wi_P_goBack_0 rfl), rfl, rfl⟩
theorem dP_goBack_1 : dn tP_goBack 1 (.iconst 0) 1 2 := ⟨o_3 (oW (K := 0) (r := 1) wi_P_goBack_0 rfl), rfl⟩
theorem dP_goBack_2 : dl tP_goBack 2 .aload_n .aload 0 3 := Or.inl ⟨0, o_42 (oW (K := 0) (r := 2) wi_P_goBack_0 rfl), rfl, rfl⟩
theorem dP_goBack_3 : dn tP_goBack 3 (.getfield 24) 3 6 := ⟨o_180 0 24 24 (oWd (K := 0) (r := 3) wi_P_goBack_0 rfl), rfl⟩
theorem dP_goBack_6 : dn tP_goBack 6 (.iconst 1) 1 7 := ⟨o_4 (oW (K := 0) (r := 6) wi_P_goBack_0 rfl), rfl⟩
theorem dP_goBack_7 : dn tP_goBack 7 (.isub) 1 8 := ⟨o_100 (oW (K := 0) (r := 7) wi_P_goBack_0 rfl), rfl⟩
theorem dP_goBack_8 : dn tP_goBack 8 (.invokestatic 31) 3 11 := ⟨o_184 0 31 31 (oWd (K := 0) (r := 8) wi_P_goBack_0 rfl), rfl⟩
theorem dP_goBack_11 : dn tP_goBack 11 (.putfield 24) 3 14 := ⟨o_181 0 24 24 (oWd (K := 0) (r := 11) wi_P_goBack_0 rfl), rfl⟩
theorem dP_goBack_14 : dl tP_goBack 14 .aload_n .aload 0 15 := Or.inl ⟨0, o_42 (oW (K := 0) (r := 14) wi_P_goBack_0 rfl), rfl, rfl⟩
theorem dP_goBack_15 : dn tP_goBack 15 (.getfield 20) 3 18 := ⟨o_180 0 20 20 (oWd (K := 0) (r := 15) wi_P_goBack_0 rfl), rfl⟩
theorem dP_goBack_18 : dl tP_goBack 18 .aload_n .aload 0 19 := Or.inl ⟨0, o_42 (oW (K := 0) (r := 18) wi_P_goBack_0 rfl), rfl, rfl⟩
theorem dP_goBack_19 : dn tP_goBack 19 (.getfield 24) 3 22 := ⟨o_180 0 24 24 (oWd (K := 0) (r := 19) wi_P_goBack_0 rfl), rfl⟩
theorem dP_goBack_22 : dn tP_goBack 22 (.iadd) 1 23 := ⟨o_96 (oW (K := 0) (r := 22) wi_P_goBack_0 rfl), rfl⟩
theorem dP_goBack_23 : dn tP_goBack 23 (.bipush 6) 2 25 := ⟨o_16 6 6 (oWd (K := 0) (r := 23) wi_P_goBack_0 rfl), rfl⟩
theorem dP_goBack_25 : dn tP_goBack 25 (.irem) 1 26 := ⟨o_112 (oW (K := 0) (r := 25) wi_P_goBack_0 rfl), rfl⟩
theorem dP_goBack_26 : dl tP_goBack 26 .istore_n .istore 2 27 := Or.inl ⟨2, o_61 (oW (K := 0) (r := 26) wi_P_goBack_0 rfl), rfl, rfl⟩
theorem dP_goBack_27 : dl tP_goBack 27 .aload_n .aload 1 28 := Or.inl ⟨1, o_43 (oW (K := 0) (r := 27) wi_P_goBack_0 rfl), rfl, rfl⟩
theorem dP_goBack_28 : dl tP_goBack 28 .aload_n .aload 0 29 := Or.inl ⟨0, o_42 (oW (K := 0) (r := 28) wi_P_goBack_0 rfl), rfl, rfl⟩
theorem dP_goBack_29 : dn tP_goBack 29 (.getfield 11) 3 32 := ⟨o_180 0 11 11 (oWd (K := 0) (r := 29) wi_P_goBack_0 rfl), rfl⟩
def wl_P_goBack_32 : List Nat := [28, 50, 182, 0, 27, 42, 180, 0, 15, 28, 46, 172]
theorem wi_P_goBack_32 : oC tP_goBack.2.1 32 wl_P_goBack_32 = true := by decide +kernel
theorem dP_goBack_32 : dl tP_goBack 32 .iload_n .iload 2 33 := Or.inl ⟨2, o_28 (oW (K := 32) (r := 0) wi_P_goBack_32 rfl), rfl, rfl⟩
theorem dP_goBack_33 : dn tP_goBack 33 (.aaload) 1 34 := ⟨o_50 (oW (K := 32) (r := 1) wi_P_goBack_32 rfl), rfl⟩
theorem dP_goBack_34 : dn tP_goBack 34 (.invokevirtual 27) 3 37 := ⟨o_182 0 27 27 (oWd (K := 32) (r := 2) wi_P_goBack_32 rfl), rfl⟩
theorem dP_goBack_37 : dl tP_goBack 37 .aload_n .aload 0 38 := Or.inl ⟨0, o_42 (oW (K := 32) (r := 5) wi_P_goBack_32 rfl), rfl, rfl⟩
theorem dP_goBack_38 : dn tP_goBack 38 (.getfield 15) 3 41 := ⟨o_180 0 15 15 (oWd (K := 32) (r := 6) wi_P_goBack_32 rfl), rfl⟩
theorem dP_goBack_41 : dl tP_goBack 41 .iload_n .iload 2 42 := Or.inl ⟨2, o_28 (oW (K := 32) (r := 9) wi_P_goBack_32 rfl), rfl, rfl⟩
theorem dP_goBack_42 : dn tP_goBack 42 (.iaload) 1 43 := ⟨o_46 (oW (K := 32) (r := 10) wi_P_goBack_32 rfl), rfl⟩
theorem dP_goBack_43 : dn tP_goBack 43 (.ireturn) 1 44 := ⟨o_172 (oW (K := 32) (r := 11) wi_P_goBack_32 rfl), rfl⟩
def wl_P_forget_0 : List Nat := [42, 3, 181, 0, 24, 177]
theorem wi_P_forget_0 : oC tP_forget.2.1 0 wl_P_forget_0 = true := by decide +kernel
theorem dP_forget_0 : dl tP_forget 0 .aload_n .aload 0 1 := Or.inl ⟨0, o_42 (oW (K := 0) (r := 0) wi_P_forget_0 rfl), rfl, rfl⟩
theorem dP_forget_1 : dn tP_forget 1 (.iconst 0) 1 2 := ⟨o_3 (oW (K := 0) (r := 1) wi_P_forget_0 rfl), rfl⟩
theorem dP_forget_2 : dn tP_forget 2 (.putfield 24) 3 5 := ⟨o_181 0 24 24 (oWd (K := 0) (r := 2) wi_P_forget_0 rfl), rfl⟩
theorem dP_forget_5 : dn tP_forget 5 (.return_) 1 6 := ⟨o_177 (oW (K := 0) (r := 5) wi_P_forget_0 rfl), rfl⟩
def tO_nextTo : MM := (⟨"GingerRents$Told", "nextTo", "(I)I"⟩, prog_12_method_2_code, 6, (some .int))
theorem okO_nextTo : mV tO_nextTo 1 := ⟨⟨tb_in (in_t3 _ (List.mem_of_getElem? (i := 26) rfl)) rfl, tb_in (in_t1 _ (List.mem_of_getElem? (i := 3) rfl)) rfl, ⟨cq_11.1, cq_11.2, by decide +kernel⟩, by decide⟩, tb_in (in_t3 _ (List.mem_of_getElem? (i := 24) rfl)) rfl, tb_in (in_t3 _ (List.mem_of_getElem? (i := 25) rfl)) rfl⟩
def tO_copyFrom : MM := (⟨"GingerRents$Told", "copyFrom", "(LGingerRents$Told;)V"⟩, prog_12_method_3_code, 2, none)
theorem okO_copyFrom : mV tO_copyFrom 1 := ⟨⟨tb_in (in_t5 _ (List.mem_of_getElem? (i := 224) rfl)) rfl, tb_in (in_t1 _ (List.mem_of_getElem? (i := 3) rfl)) rfl, ⟨cq_11.1, cq_11.2, by decide +kernel⟩, by decide⟩, tb_in (in_t5 _ (List.mem_of_getElem? (i := 222) rfl)) rfl, tb_in (in_t5 _ (List.mem_of_getElem? (i := 223) rfl)) rfl⟩
theorem fuO_29 : fu "GingerRents$Told" 29 11 4 := ⟨_, _, _, rfl, by decide, rfl, tb_in (in_t1 _ (List.mem_of_getElem? (i := 124) rfl)) rfl⟩
theorem fuO_61 : fu "GingerRents$Told" 61 6 3 := ⟨_, _, _, rfl, by decide, rfl, tb_in (in_t1 _ (List.mem_of_getElem? (i := 98) rfl)) rfl⟩
theorem mlO_65 : Cond.methodLink "GingerRents$Told" 65 ⟨"GingerRents$Rows", "at", "(II)I"⟩ ∈ tb := tb_in (in_t3 _ (List.mem_of_getElem? (i := 27) rfl)) rfl
theorem fuO_14 : fu "GingerRents$Told" 14 11 0 := ⟨_, _, _, rfl, by decide, rfl, tb_in (in_t1 _ (List.mem_of_getElem? (i := 114) rfl)) rfl⟩
theorem mlO_69 : Cond.methodLink "GingerRents$Told" 69 ⟨"GingerRents$Rows", "copyFrom", "(LGingerRents$Rows;)V"⟩ ∈ tb := tb_in (in_t5 _ (List.mem_of_getElem? (i := 225) rfl)) rfl
theorem fuO_20 : fu "GingerRents$Told" 20 11 1 := ⟨_, _, _, rfl, by decide, rfl, tb_in (in_t1 _ (List.mem_of_getElem? (i := 116) rfl)) rfl⟩
theorem fuO_23 : fu "GingerRents$Told" 23 11 2 := ⟨_, _, _, rfl, by decide, rfl, tb_in (in_t1 _ (List.mem_of_getElem? (i := 118) rfl)) rfl⟩
theorem fuO_26 : fu "GingerRents$Told" 26 11 3 := ⟨_, _, _, rfl, by decide, rfl, tb_in (in_t1 _ (List.mem_of_getElem? (i := 121) rfl)) rfl⟩
theorem fuO_32 : fu "GingerRents$Told" 32 11 5 := ⟨_, _, _, rfl, by decide, rfl, tb_in (in_t1 _ (List.mem_of_getElem? (i := 126) rfl)) rfl⟩
theorem fuO_35 : fu "GingerRents$Told" 35 11 6 := ⟨_, _, _, rfl, by decide, rfl, tb_in (in_t1 _ (List.mem_of_getElem? (i := 129) rfl)) rfl⟩
theorem fuO_40 : fu "GingerRents$Told" 40 11 7 := ⟨_, _, _, rfl, by decide, rfl, tb_in (in_t1 _ (List.mem_of_getElem? (i := 131) rfl)) rfl⟩
theorem fuO_43 : fu "GingerRents$Told" 43 11 8 := ⟨_, _, _, rfl, by decide, rfl, tb_in (in_t1 _ (List.mem_of_getElem? (i := 133) rfl)) rfl⟩
theorem fuO_46 : fu "GingerRents$Told" 46 11 9 := ⟨_, _, _, rfl, by decide, rfl, tb_in (in_t1 _ (List.mem_of_getElem? (i := 135) rfl)) rfl⟩
theorem fuO_49 : fu "GingerRents$Told" 49 11 10 := ⟨_, _, _, rfl, by decide, rfl, tb_in (in_t1 _ (List.mem_of_getElem? (i := 137) rfl)) rfl⟩
theorem fuO_52 : fu "GingerRents$Told" 52 11 11 := ⟨_, _, _, rfl, by decide, rfl, tb_in (in_t1 _ (List.mem_of_getElem? (i := 139) rfl)) rfl⟩
theorem fuO_55 : fu "GingerRents$Told" 55 11 12 := ⟨_, _, _, rfl, by decide, rfl, tb_in (in_t1 _ (List.mem_of_getElem? (i := 141) rfl)) rfl⟩
theorem fuO_58 : fu "GingerRents$Told" 58 11 13 := ⟨_, _, _, rfl, by decide, rfl, tb_in (in_t1 _ (List.mem_of_getElem? (i := 143) rfl)) rfl⟩
def wl_O_nextTo_0 : List Nat := [3, 61, 3, 62, 29, 42, 180, 0, 29, 180, 0, 61, 162, 0, 57, 42, 180, 0, 29, 29, 3, 182, 0, 65, 54, 4, 42, 180, 0, 29, 29, 4, 182, 0, 65, 54, 5, 21]
theorem wi_O_nextTo_0 : oC tO_nextTo.2.1 0 wl_O_nextTo_0 = true := by decide +kernel
theorem dO_nextTo_0 : dn tO_nextTo 0 (.iconst 0) 1 1 := ⟨o_3 (oW (K := 0) (r := 0) wi_O_nextTo_0 rfl), rfl⟩
theorem dO_nextTo_1 : dl tO_nextTo 1 .istore_n .istore 2 2 := Or.inl ⟨2, o_61 (oW (K := 0) (r := 1) wi_O_nextTo_0 rfl), rfl, rfl⟩
theorem dO_nextTo_2 : dn tO_nextTo 2 (.iconst 0) 1 3 := ⟨o_3 (oW (K := 0) (r := 2) wi_O_nextTo_0 rfl), rfl⟩
theorem dO_nextTo_3 : dl tO_nextTo 3 .istore_n .istore 3 4 := Or.inl ⟨3, o_62 (oW (K := 0) (r := 3) wi_O_nextTo_0 rfl), rfl, rfl⟩
theorem dO_nextTo_4 : dl tO_nextTo 4 .iload_n .iload 3 5 := Or.inl ⟨3, o_29 (oW (K := 0) (r := 4) wi_O_nextTo_0 rfl), rfl, rfl⟩
theorem dO_nextTo_5 : dl tO_nextTo 5 .aload_n .aload 0 6 := Or.inl ⟨0, o_42 (oW (K := 0) (r := 5) wi_O_nextTo_0 rfl), rfl, rfl⟩
theorem dO_nextTo_6 : dn tO_nextTo 6 (.getfield 29) 3 9 := ⟨o_180 0 29 29 (oWd (K := 0) (r := 6) wi_O_nextTo_0 rfl), rfl⟩
theorem dO_nextTo_9 : dn tO_nextTo 9 (.getfield 61) 3 12 := ⟨o_180 0 61 61 (oWd (K := 0) (r := 9) wi_O_nextTo_0 rfl), rfl⟩
theorem dO_nextTo_12 : db tO_nextTo 12 (.if_icmp .ge) 69 15 := ⟨57, o_162 0 57 57 (oWd (K := 0) (r := 12) wi_O_nextTo_0 rfl), rfl, rfl⟩
theorem dO_nextTo_15 : dl tO_nextTo 15 .aload_n .aload 0 16 := Or.inl ⟨0, o_42 (oW (K := 0) (r := 15) wi_O_nextTo_0 rfl), rfl, rfl⟩
theorem dO_nextTo_16 : dn tO_nextTo 16 (.getfield 29) 3 19 := ⟨o_180 0 29 29 (oWd (K := 0) (r := 16) wi_O_nextTo_0 rfl), rfl⟩
theorem dO_nextTo_19 : dl tO_nextTo 19 .iload_n .iload 3 20 := Or.inl ⟨3, o_29 (oW (K := 0) (r := 19) wi_O_nextTo_0 rfl), rfl, rfl⟩
theorem dO_nextTo_20 : dn tO_nextTo 20 (.iconst 0) 1 21 := ⟨o_3 (oW (K := 0) (r := 20) wi_O_nextTo_0 rfl), rfl⟩
theorem dO_nextTo_21 : dn tO_nextTo 21 (.invokevirtual 65) 3 24 := ⟨o_182 0 65 65 (oWd (K := 0) (r := 21) wi_O_nextTo_0 rfl), rfl⟩
theorem dO_nextTo_24 : dl tO_nextTo 24 .istore_n .istore 4 26 := Or.inr ⟨o_54 4 (oW (K := 0) (r := 24) wi_O_nextTo_0 rfl), rfl⟩
theorem dO_nextTo_26 : dl tO_nextTo 26 .aload_n .aload 0 27 := Or.inl ⟨0, o_42 (oW (K := 0) (r := 26) wi_O_nextTo_0 rfl), rfl, rfl⟩
theorem dO_nextTo_27 : dn tO_nextTo 27 (.getfield 29) 3 30 := ⟨o_180 0 29 29 (oWd (K := 0) (r := 27) wi_O_nextTo_0 rfl), rfl⟩
theorem dO_nextTo_30 : dl tO_nextTo 30 .iload_n .iload 3 31 := Or.inl ⟨3, o_29 (oW (K := 0) (r := 30) wi_O_nextTo_0 rfl), rfl, rfl⟩
theorem dO_nextTo_31 : dn tO_nextTo 31 (.iconst 1) 1 32 := ⟨o_4 (oW (K := 0) (r := 31) wi_O_nextTo_0 rfl), rfl⟩
def wl_O_nextTo_32 : List Nat := [182, 0, 65, 54, 5, 21, 4, 27, 160, 0, 10, 28, 4, 21, 5, 120, 128, 61, 21, 5, 27, 160, 0, 10, 28, 4, 21, 4, 120, 128, 61, 132, 3, 1, 167, 255, 194, 28]
theorem wi_O_nextTo_32 : oC tO_nextTo.2.1 32 wl_O_nextTo_32 = true := by decide +kernel
theorem dO_nextTo_32 : dn tO_nextTo 32 (.invokevirtual 65) 3 35 := ⟨o_182 0 65 65 (oWd (K := 32) (r := 0) wi_O_nextTo_32 rfl), rfl⟩
theorem dO_nextTo_35 : dl tO_nextTo 35 .istore_n .istore 5 37 := Or.inr ⟨o_54 5 (oW (K := 32) (r := 3) wi_O_nextTo_32 rfl), rfl⟩
theorem dO_nextTo_37 : dl tO_nextTo 37 .iload_n .iload 4 39 := Or.inr ⟨o_21 4 (oW (K := 32) (r := 5) wi_O_nextTo_32 rfl), rfl⟩
theorem dO_nextTo_39 : dl tO_nextTo 39 .iload_n .iload 1 40 := Or.inl ⟨1, o_27 (oW (K := 32) (r := 7) wi_O_nextTo_32 rfl), rfl, rfl⟩
theorem dO_nextTo_40 : db tO_nextTo 40 (.if_icmp .ne) 50 43 := ⟨10, o_160 0 10 10 (oWd (K := 32) (r := 8) wi_O_nextTo_32 rfl), rfl, rfl⟩
theorem dO_nextTo_43 : dl tO_nextTo 43 .iload_n .iload 2 44 := Or.inl ⟨2, o_28 (oW (K := 32) (r := 11) wi_O_nextTo_32 rfl), rfl, rfl⟩
theorem dO_nextTo_44 : dn tO_nextTo 44 (.iconst 1) 1 45 := ⟨o_4 (oW (K := 32) (r := 12) wi_O_nextTo_32 rfl), rfl⟩
theorem dO_nextTo_45 : dl tO_nextTo 45 .iload_n .iload 5 47 := Or.inr ⟨o_21 5 (oW (K := 32) (r := 13) wi_O_nextTo_32 rfl), rfl⟩
theorem dO_nextTo_47 : dn tO_nextTo 47 (.ishl) 1 48 := ⟨o_120 (oW (K := 32) (r := 15) wi_O_nextTo_32 rfl), rfl⟩
theorem dO_nextTo_48 : dn tO_nextTo 48 (.ior) 1 49 := ⟨o_128 (oW (K := 32) (r := 16) wi_O_nextTo_32 rfl), rfl⟩
theorem dO_nextTo_49 : dl tO_nextTo 49 .istore_n .istore 2 50 := Or.inl ⟨2, o_61 (oW (K := 32) (r := 17) wi_O_nextTo_32 rfl), rfl, rfl⟩
theorem dO_nextTo_50 : dl tO_nextTo 50 .iload_n .iload 5 52 := Or.inr ⟨o_21 5 (oW (K := 32) (r := 18) wi_O_nextTo_32 rfl), rfl⟩
theorem dO_nextTo_52 : dl tO_nextTo 52 .iload_n .iload 1 53 := Or.inl ⟨1, o_27 (oW (K := 32) (r := 20) wi_O_nextTo_32 rfl), rfl, rfl⟩
theorem dO_nextTo_53 : db tO_nextTo 53 (.if_icmp .ne) 63 56 := ⟨10, o_160 0 10 10 (oWd (K := 32) (r := 21) wi_O_nextTo_32 rfl), rfl, rfl⟩
theorem dO_nextTo_56 : dl tO_nextTo 56 .iload_n .iload 2 57 := Or.inl ⟨2, o_28 (oW (K := 32) (r := 24) wi_O_nextTo_32 rfl), rfl, rfl⟩
theorem dO_nextTo_57 : dn tO_nextTo 57 (.iconst 1) 1 58 := ⟨o_4 (oW (K := 32) (r := 25) wi_O_nextTo_32 rfl), rfl⟩
theorem dO_nextTo_58 : dl tO_nextTo 58 .iload_n .iload 4 60 := Or.inr ⟨o_21 4 (oW (K := 32) (r := 26) wi_O_nextTo_32 rfl), rfl⟩
theorem dO_nextTo_60 : dn tO_nextTo 60 (.ishl) 1 61 := ⟨o_120 (oW (K := 32) (r := 28) wi_O_nextTo_32 rfl), rfl⟩
theorem dO_nextTo_61 : dn tO_nextTo 61 (.ior) 1 62 := ⟨o_128 (oW (K := 32) (r := 29) wi_O_nextTo_32 rfl), rfl⟩
theorem dO_nextTo_62 : dl tO_nextTo 62 .istore_n .istore 2 63 := Or.inl ⟨2, o_61 (oW (K := 32) (r := 30) wi_O_nextTo_32 rfl), rfl, rfl⟩
theorem dO_nextTo_63 : dn tO_nextTo 63 (.iinc 3 1) 3 66 := ⟨o_132 3 1 1 (oWd (K := 32) (r := 31) wi_O_nextTo_32 rfl), rfl⟩
def wl_O_nextTo_64 : List Nat := [3, 1, 167, 255, 194, 28, 172]
theorem wi_O_nextTo_64 : oC tO_nextTo.2.1 64 wl_O_nextTo_64 = true := by decide +kernel
theorem dO_nextTo_66 : db tO_nextTo 66 .goto 4 69 := ⟨-62, o_167 255 194 (-62) (oWd (K := 64) (r := 2) wi_O_nextTo_64 rfl), rfl, rfl⟩
theorem dO_nextTo_69 : dl tO_nextTo 69 .iload_n .iload 2 70 := Or.inl ⟨2, o_28 (oW (K := 64) (r := 5) wi_O_nextTo_64 rfl), rfl, rfl⟩
theorem dO_nextTo_70 : dn tO_nextTo 70 (.ireturn) 1 71 := ⟨o_172 (oW (K := 64) (r := 6) wi_O_nextTo_64 rfl), rfl⟩
def wl_O_copyFrom_0 : List Nat := [42, 180, 0, 14, 43, 180, 0, 14, 182, 0, 69, 42, 180, 0, 20, 43, 180, 0, 20, 182, 0, 69, 42, 180, 0, 23, 43, 180, 0, 23, 182, 0, 69, 42, 180, 0, 26, 43]
theorem wi_O_copyFrom_0 : oC tO_copyFrom.2.1 0 wl_O_copyFrom_0 = true := by decide +kernel
theorem dO_copyFrom_0 : dl tO_copyFrom 0 .aload_n .aload 0 1 := Or.inl ⟨0, o_42 (oW (K := 0) (r := 0) wi_O_copyFrom_0 rfl), rfl, rfl⟩
theorem dO_copyFrom_1 : dn tO_copyFrom 1 (.getfield 14) 3 4 := ⟨o_180 0 14 14 (oWd (K := 0) (r := 1) wi_O_copyFrom_0 rfl), rfl⟩
theorem dO_copyFrom_4 : dl tO_copyFrom 4 .aload_n .aload 1 5 := Or.inl ⟨1, o_43 (oW (K := 0) (r := 4) wi_O_copyFrom_0 rfl), rfl, rfl⟩
theorem dO_copyFrom_5 : dn tO_copyFrom 5 (.getfield 14) 3 8 := ⟨o_180 0 14 14 (oWd (K := 0) (r := 5) wi_O_copyFrom_0 rfl), rfl⟩
theorem dO_copyFrom_8 : dn tO_copyFrom 8 (.invokevirtual 69) 3 11 := ⟨o_182 0 69 69 (oWd (K := 0) (r := 8) wi_O_copyFrom_0 rfl), rfl⟩
theorem dO_copyFrom_11 : dl tO_copyFrom 11 .aload_n .aload 0 12 := Or.inl ⟨0, o_42 (oW (K := 0) (r := 11) wi_O_copyFrom_0 rfl), rfl, rfl⟩
theorem dO_copyFrom_12 : dn tO_copyFrom 12 (.getfield 20) 3 15 := ⟨o_180 0 20 20 (oWd (K := 0) (r := 12) wi_O_copyFrom_0 rfl), rfl⟩
theorem dO_copyFrom_15 : dl tO_copyFrom 15 .aload_n .aload 1 16 := Or.inl ⟨1, o_43 (oW (K := 0) (r := 15) wi_O_copyFrom_0 rfl), rfl, rfl⟩
theorem dO_copyFrom_16 : dn tO_copyFrom 16 (.getfield 20) 3 19 := ⟨o_180 0 20 20 (oWd (K := 0) (r := 16) wi_O_copyFrom_0 rfl), rfl⟩
theorem dO_copyFrom_19 : dn tO_copyFrom 19 (.invokevirtual 69) 3 22 := ⟨o_182 0 69 69 (oWd (K := 0) (r := 19) wi_O_copyFrom_0 rfl), rfl⟩
theorem dO_copyFrom_22 : dl tO_copyFrom 22 .aload_n .aload 0 23 := Or.inl ⟨0, o_42 (oW (K := 0) (r := 22) wi_O_copyFrom_0 rfl), rfl, rfl⟩
theorem dO_copyFrom_23 : dn tO_copyFrom 23 (.getfield 23) 3 26 := ⟨o_180 0 23 23 (oWd (K := 0) (r := 23) wi_O_copyFrom_0 rfl), rfl⟩
theorem dO_copyFrom_26 : dl tO_copyFrom 26 .aload_n .aload 1 27 := Or.inl ⟨1, o_43 (oW (K := 0) (r := 26) wi_O_copyFrom_0 rfl), rfl, rfl⟩
theorem dO_copyFrom_27 : dn tO_copyFrom 27 (.getfield 23) 3 30 := ⟨o_180 0 23 23 (oWd (K := 0) (r := 27) wi_O_copyFrom_0 rfl), rfl⟩
theorem dO_copyFrom_30 : dn tO_copyFrom 30 (.invokevirtual 69) 3 33 := ⟨o_182 0 69 69 (oWd (K := 0) (r := 30) wi_O_copyFrom_0 rfl), rfl⟩
def wl_O_copyFrom_32 : List Nat := [69, 42, 180, 0, 26, 43, 180, 0, 26, 182, 0, 69, 42, 180, 0, 29, 43, 180, 0, 29, 182, 0, 69, 42, 180, 0, 32, 43, 180, 0, 32, 182, 0, 69, 42, 180, 0, 35]
theorem wi_O_copyFrom_32 : oC tO_copyFrom.2.1 32 wl_O_copyFrom_32 = true := by decide +kernel
theorem dO_copyFrom_33 : dl tO_copyFrom 33 .aload_n .aload 0 34 := Or.inl ⟨0, o_42 (oW (K := 32) (r := 1) wi_O_copyFrom_32 rfl), rfl, rfl⟩
theorem dO_copyFrom_34 : dn tO_copyFrom 34 (.getfield 26) 3 37 := ⟨o_180 0 26 26 (oWd (K := 32) (r := 2) wi_O_copyFrom_32 rfl), rfl⟩
theorem dO_copyFrom_37 : dl tO_copyFrom 37 .aload_n .aload 1 38 := Or.inl ⟨1, o_43 (oW (K := 32) (r := 5) wi_O_copyFrom_32 rfl), rfl, rfl⟩
theorem dO_copyFrom_38 : dn tO_copyFrom 38 (.getfield 26) 3 41 := ⟨o_180 0 26 26 (oWd (K := 32) (r := 6) wi_O_copyFrom_32 rfl), rfl⟩
theorem dO_copyFrom_41 : dn tO_copyFrom 41 (.invokevirtual 69) 3 44 := ⟨o_182 0 69 69 (oWd (K := 32) (r := 9) wi_O_copyFrom_32 rfl), rfl⟩
theorem dO_copyFrom_44 : dl tO_copyFrom 44 .aload_n .aload 0 45 := Or.inl ⟨0, o_42 (oW (K := 32) (r := 12) wi_O_copyFrom_32 rfl), rfl, rfl⟩
theorem dO_copyFrom_45 : dn tO_copyFrom 45 (.getfield 29) 3 48 := ⟨o_180 0 29 29 (oWd (K := 32) (r := 13) wi_O_copyFrom_32 rfl), rfl⟩
theorem dO_copyFrom_48 : dl tO_copyFrom 48 .aload_n .aload 1 49 := Or.inl ⟨1, o_43 (oW (K := 32) (r := 16) wi_O_copyFrom_32 rfl), rfl, rfl⟩
theorem dO_copyFrom_49 : dn tO_copyFrom 49 (.getfield 29) 3 52 := ⟨o_180 0 29 29 (oWd (K := 32) (r := 17) wi_O_copyFrom_32 rfl), rfl⟩
theorem dO_copyFrom_52 : dn tO_copyFrom 52 (.invokevirtual 69) 3 55 := ⟨o_182 0 69 69 (oWd (K := 32) (r := 20) wi_O_copyFrom_32 rfl), rfl⟩
theorem dO_copyFrom_55 : dl tO_copyFrom 55 .aload_n .aload 0 56 := Or.inl ⟨0, o_42 (oW (K := 32) (r := 23) wi_O_copyFrom_32 rfl), rfl, rfl⟩
theorem dO_copyFrom_56 : dn tO_copyFrom 56 (.getfield 32) 3 59 := ⟨o_180 0 32 32 (oWd (K := 32) (r := 24) wi_O_copyFrom_32 rfl), rfl⟩
theorem dO_copyFrom_59 : dl tO_copyFrom 59 .aload_n .aload 1 60 := Or.inl ⟨1, o_43 (oW (K := 32) (r := 27) wi_O_copyFrom_32 rfl), rfl, rfl⟩
theorem dO_copyFrom_60 : dn tO_copyFrom 60 (.getfield 32) 3 63 := ⟨o_180 0 32 32 (oWd (K := 32) (r := 28) wi_O_copyFrom_32 rfl), rfl⟩
theorem dO_copyFrom_63 : dn tO_copyFrom 63 (.invokevirtual 69) 3 66 := ⟨o_182 0 69 69 (oWd (K := 32) (r := 31) wi_O_copyFrom_32 rfl), rfl⟩
def wl_O_copyFrom_64 : List Nat := [0, 69, 42, 180, 0, 35, 43, 180, 0, 35, 182, 0, 69, 42, 180, 0, 40, 43, 180, 0, 40, 182, 0, 69, 42, 180, 0, 43, 43, 180, 0, 43, 182, 0, 69, 42, 180, 0]
theorem wi_O_copyFrom_64 : oC tO_copyFrom.2.1 64 wl_O_copyFrom_64 = true := by decide +kernel
theorem dO_copyFrom_66 : dl tO_copyFrom 66 .aload_n .aload 0 67 := Or.inl ⟨0, o_42 (oW (K := 64) (r := 2) wi_O_copyFrom_64 rfl), rfl, rfl⟩
theorem dO_copyFrom_67 : dn tO_copyFrom 67 (.getfield 35) 3 70 := ⟨o_180 0 35 35 (oWd (K := 64) (r := 3) wi_O_copyFrom_64 rfl), rfl⟩
theorem dO_copyFrom_70 : dl tO_copyFrom 70 .aload_n .aload 1 71 := Or.inl ⟨1, o_43 (oW (K := 64) (r := 6) wi_O_copyFrom_64 rfl), rfl, rfl⟩
theorem dO_copyFrom_71 : dn tO_copyFrom 71 (.getfield 35) 3 74 := ⟨o_180 0 35 35 (oWd (K := 64) (r := 7) wi_O_copyFrom_64 rfl), rfl⟩
theorem dO_copyFrom_74 : dn tO_copyFrom 74 (.invokevirtual 69) 3 77 := ⟨o_182 0 69 69 (oWd (K := 64) (r := 10) wi_O_copyFrom_64 rfl), rfl⟩
theorem dO_copyFrom_77 : dl tO_copyFrom 77 .aload_n .aload 0 78 := Or.inl ⟨0, o_42 (oW (K := 64) (r := 13) wi_O_copyFrom_64 rfl), rfl, rfl⟩
theorem dO_copyFrom_78 : dn tO_copyFrom 78 (.getfield 40) 3 81 := ⟨o_180 0 40 40 (oWd (K := 64) (r := 14) wi_O_copyFrom_64 rfl), rfl⟩
theorem dO_copyFrom_81 : dl tO_copyFrom 81 .aload_n .aload 1 82 := Or.inl ⟨1, o_43 (oW (K := 64) (r := 17) wi_O_copyFrom_64 rfl), rfl, rfl⟩
theorem dO_copyFrom_82 : dn tO_copyFrom 82 (.getfield 40) 3 85 := ⟨o_180 0 40 40 (oWd (K := 64) (r := 18) wi_O_copyFrom_64 rfl), rfl⟩
theorem dO_copyFrom_85 : dn tO_copyFrom 85 (.invokevirtual 69) 3 88 := ⟨o_182 0 69 69 (oWd (K := 64) (r := 21) wi_O_copyFrom_64 rfl), rfl⟩
theorem dO_copyFrom_88 : dl tO_copyFrom 88 .aload_n .aload 0 89 := Or.inl ⟨0, o_42 (oW (K := 64) (r := 24) wi_O_copyFrom_64 rfl), rfl, rfl⟩
theorem dO_copyFrom_89 : dn tO_copyFrom 89 (.getfield 43) 3 92 := ⟨o_180 0 43 43 (oWd (K := 64) (r := 25) wi_O_copyFrom_64 rfl), rfl⟩
theorem dO_copyFrom_92 : dl tO_copyFrom 92 .aload_n .aload 1 93 := Or.inl ⟨1, o_43 (oW (K := 64) (r := 28) wi_O_copyFrom_64 rfl), rfl, rfl⟩
theorem dO_copyFrom_93 : dn tO_copyFrom 93 (.getfield 43) 3 96 := ⟨o_180 0 43 43 (oWd (K := 64) (r := 29) wi_O_copyFrom_64 rfl), rfl⟩
def wl_O_copyFrom_96 : List Nat := [182, 0, 69, 42, 180, 0, 46, 43, 180, 0, 46, 182, 0, 69, 42, 180, 0, 49, 43, 180, 0, 49, 182, 0, 69, 42, 180, 0, 52, 43, 180, 0, 52, 182, 0, 69, 42, 180]
theorem wi_O_copyFrom_96 : oC tO_copyFrom.2.1 96 wl_O_copyFrom_96 = true := by decide +kernel
theorem dO_copyFrom_96 : dn tO_copyFrom 96 (.invokevirtual 69) 3 99 := ⟨o_182 0 69 69 (oWd (K := 96) (r := 0) wi_O_copyFrom_96 rfl), rfl⟩
theorem dO_copyFrom_99 : dl tO_copyFrom 99 .aload_n .aload 0 100 := Or.inl ⟨0, o_42 (oW (K := 96) (r := 3) wi_O_copyFrom_96 rfl), rfl, rfl⟩
theorem dO_copyFrom_100 : dn tO_copyFrom 100 (.getfield 46) 3 103 := ⟨o_180 0 46 46 (oWd (K := 96) (r := 4) wi_O_copyFrom_96 rfl), rfl⟩
theorem dO_copyFrom_103 : dl tO_copyFrom 103 .aload_n .aload 1 104 := Or.inl ⟨1, o_43 (oW (K := 96) (r := 7) wi_O_copyFrom_96 rfl), rfl, rfl⟩
theorem dO_copyFrom_104 : dn tO_copyFrom 104 (.getfield 46) 3 107 := ⟨o_180 0 46 46 (oWd (K := 96) (r := 8) wi_O_copyFrom_96 rfl), rfl⟩
theorem dO_copyFrom_107 : dn tO_copyFrom 107 (.invokevirtual 69) 3 110 := ⟨o_182 0 69 69 (oWd (K := 96) (r := 11) wi_O_copyFrom_96 rfl), rfl⟩
theorem dO_copyFrom_110 : dl tO_copyFrom 110 .aload_n .aload 0 111 := Or.inl ⟨0, o_42 (oW (K := 96) (r := 14) wi_O_copyFrom_96 rfl), rfl, rfl⟩
theorem dO_copyFrom_111 : dn tO_copyFrom 111 (.getfield 49) 3 114 := ⟨o_180 0 49 49 (oWd (K := 96) (r := 15) wi_O_copyFrom_96 rfl), rfl⟩
theorem dO_copyFrom_114 : dl tO_copyFrom 114 .aload_n .aload 1 115 := Or.inl ⟨1, o_43 (oW (K := 96) (r := 18) wi_O_copyFrom_96 rfl), rfl, rfl⟩
theorem dO_copyFrom_115 : dn tO_copyFrom 115 (.getfield 49) 3 118 := ⟨o_180 0 49 49 (oWd (K := 96) (r := 19) wi_O_copyFrom_96 rfl), rfl⟩
theorem dO_copyFrom_118 : dn tO_copyFrom 118 (.invokevirtual 69) 3 121 := ⟨o_182 0 69 69 (oWd (K := 96) (r := 22) wi_O_copyFrom_96 rfl), rfl⟩
theorem dO_copyFrom_121 : dl tO_copyFrom 121 .aload_n .aload 0 122 := Or.inl ⟨0, o_42 (oW (K := 96) (r := 25) wi_O_copyFrom_96 rfl), rfl, rfl⟩
theorem dO_copyFrom_122 : dn tO_copyFrom 122 (.getfield 52) 3 125 := ⟨o_180 0 52 52 (oWd (K := 96) (r := 26) wi_O_copyFrom_96 rfl), rfl⟩
theorem dO_copyFrom_125 : dl tO_copyFrom 125 .aload_n .aload 1 126 := Or.inl ⟨1, o_43 (oW (K := 96) (r := 29) wi_O_copyFrom_96 rfl), rfl, rfl⟩
theorem dO_copyFrom_126 : dn tO_copyFrom 126 (.getfield 52) 3 129 := ⟨o_180 0 52 52 (oWd (K := 96) (r := 30) wi_O_copyFrom_96 rfl), rfl⟩
def wl_O_copyFrom_128 : List Nat := [52, 182, 0, 69, 42, 180, 0, 55, 43, 180, 0, 55, 182, 0, 69, 42, 180, 0, 58, 43, 180, 0, 58, 182, 0, 69, 177]
theorem wi_O_copyFrom_128 : oC tO_copyFrom.2.1 128 wl_O_copyFrom_128 = true := by decide +kernel
theorem dO_copyFrom_129 : dn tO_copyFrom 129 (.invokevirtual 69) 3 132 := ⟨o_182 0 69 69 (oWd (K := 128) (r := 1) wi_O_copyFrom_128 rfl), rfl⟩
theorem dO_copyFrom_132 : dl tO_copyFrom 132 .aload_n .aload 0 133 := Or.inl ⟨0, o_42 (oW (K := 128) (r := 4) wi_O_copyFrom_128 rfl), rfl, rfl⟩
theorem dO_copyFrom_133 : dn tO_copyFrom 133 (.getfield 55) 3 136 := ⟨o_180 0 55 55 (oWd (K := 128) (r := 5) wi_O_copyFrom_128 rfl), rfl⟩
theorem dO_copyFrom_136 : dl tO_copyFrom 136 .aload_n .aload 1 137 := Or.inl ⟨1, o_43 (oW (K := 128) (r := 8) wi_O_copyFrom_128 rfl), rfl, rfl⟩
theorem dO_copyFrom_137 : dn tO_copyFrom 137 (.getfield 55) 3 140 := ⟨o_180 0 55 55 (oWd (K := 128) (r := 9) wi_O_copyFrom_128 rfl), rfl⟩
theorem dO_copyFrom_140 : dn tO_copyFrom 140 (.invokevirtual 69) 3 143 := ⟨o_182 0 69 69 (oWd (K := 128) (r := 12) wi_O_copyFrom_128 rfl), rfl⟩
theorem dO_copyFrom_143 : dl tO_copyFrom 143 .aload_n .aload 0 144 := Or.inl ⟨0, o_42 (oW (K := 128) (r := 15) wi_O_copyFrom_128 rfl), rfl, rfl⟩
theorem dO_copyFrom_144 : dn tO_copyFrom 144 (.getfield 58) 3 147 := ⟨o_180 0 58 58 (oWd (K := 128) (r := 16) wi_O_copyFrom_128 rfl), rfl⟩
theorem dO_copyFrom_147 : dl tO_copyFrom 147 .aload_n .aload 1 148 := Or.inl ⟨1, o_43 (oW (K := 128) (r := 19) wi_O_copyFrom_128 rfl), rfl, rfl⟩
theorem dO_copyFrom_148 : dn tO_copyFrom 148 (.getfield 58) 3 151 := ⟨o_180 0 58 58 (oWd (K := 128) (r := 20) wi_O_copyFrom_128 rfl), rfl⟩
theorem dO_copyFrom_151 : dn tO_copyFrom 151 (.invokevirtual 69) 3 154 := ⟨o_182 0 69 69 (oWd (K := 128) (r := 23) wi_O_copyFrom_128 rfl), rfl⟩
theorem dO_copyFrom_154 : dn tO_copyFrom 154 (.return_) 1 155 := ⟨o_177 (oW (K := 128) (r := 26) wi_O_copyFrom_128 rfl), rfl⟩
def tT_spread : MM := (⟨"GingerRents$Street", "spread", "(LGingerRents$Borough;LGingerRents$Rows;IZ)V"⟩, prog_10_method_2_code, 10, none)
theorem okT_spread : mV tT_spread 4 := ⟨⟨tb_in (in_t4 _ (List.mem_of_getElem? (i := 209) rfl)) rfl, tb_in (in_t1 _ (List.mem_of_getElem? (i := 11) rfl)) rfl, ⟨cq_12.1, cq_12.2, by decide +kernel⟩, by decide⟩, tb_in (in_t4 _ (List.mem_of_getElem? (i := 207) rfl)) rfl, tb_in (in_t4 _ (List.mem_of_getElem? (i := 208) rfl)) rfl⟩
def tT_onwards : MM := (⟨"GingerRents$Street", "onwards", "(IIZ)I"⟩, prog_10_method_3_code, 3, (some .int))
theorem okT_onwards : mS tT_onwards 3 := ⟨⟨tb_in (in_t4 _ (List.mem_of_getElem? (i := 216) rfl)) rfl, tb_in (in_t1 _ (List.mem_of_getElem? (i := 11) rfl)) rfl, ⟨cq_12.1, cq_12.2, by decide +kernel⟩, by decide⟩, tb_in (in_t4 _ (List.mem_of_getElem? (i := 215) rfl)) rfl⟩
def tT_costTo : MM := (⟨"GingerRents$Street", "costTo", "(I)I"⟩, prog_10_method_4_code, 2, (some .int))
theorem okT_costTo : mV tT_costTo 1 := ⟨⟨tb_in (in_t4 _ (List.mem_of_getElem? (i := 222) rfl)) rfl, tb_in (in_t1 _ (List.mem_of_getElem? (i := 11) rfl)) rfl, ⟨cq_12.1, cq_12.2, by decide +kernel⟩, by decide⟩, tb_in (in_t4 _ (List.mem_of_getElem? (i := 220) rfl)) rfl, tb_in (in_t4 _ (List.mem_of_getElem? (i := 221) rfl)) rfl⟩
def tT_countWithin : MM := (⟨"GingerRents$Street", "countWithin", "(III)I"⟩, prog_10_method_5_code, 6, (some .int))
theorem okT_countWithin : mV tT_countWithin 3 := ⟨⟨tb_in (in_t4 _ (List.mem_of_getElem? (i := 230) rfl)) rfl, tb_in (in_t1 _ (List.mem_of_getElem? (i := 11) rfl)) rfl, ⟨cq_12.1, cq_12.2, by decide +kernel⟩, by decide⟩, tb_in (in_t4 _ (List.mem_of_getElem? (i := 228) rfl)) rfl, tb_in (in_t4 _ (List.mem_of_getElem? (i := 229) rfl)) rfl⟩
def tT_mostAlone : MM := (⟨"GingerRents$Street", "mostAlone", "(LGingerRents$Borough;LGingerRents$Told;)I"⟩, prog_10_method_6_code, 7, (some .int))
theorem okT_mostAlone : mV tT_mostAlone 2 := ⟨⟨tb_in (in_t5 _ (List.mem_of_getElem? (i := 130) rfl)) rfl, tb_in (in_t1 _ (List.mem_of_getElem? (i := 11) rfl)) rfl, ⟨cq_12.1, cq_12.2, by decide +kernel⟩, by decide⟩, tb_in (in_t5 _ (List.mem_of_getElem? (i := 128) rfl)) rfl, tb_in (in_t5 _ (List.mem_of_getElem? (i := 129) rfl)) rfl⟩
def tT_isAlone : MM := (⟨"GingerRents$Street", "isAlone", "(I)Z"⟩, prog_10_method_7_code, 3, (some .boolean))
theorem okT_isAlone : mV tT_isAlone 1 := ⟨⟨tb_in (in_t5 _ (List.mem_of_getElem? (i := 137) rfl)) rfl, tb_in (in_t1 _ (List.mem_of_getElem? (i := 11) rfl)) rfl, ⟨cq_12.1, cq_12.2, by decide +kernel⟩, by decide⟩, tb_in (in_t5 _ (List.mem_of_getElem? (i := 136) rfl)) rfl, tb_in (in_s _ (List.mem_of_getElem? (i := 47) rfl)) rfl⟩
theorem fuT_9 : fu "GingerRents$Street" 9 9 0 := ⟨_, _, _, rfl, by decide, rfl, tb_in (in_t2 _ (List.mem_of_getElem? (i := 80) rfl)) rfl⟩
theorem lcT_18 : Cond.constant "GingerRents$Street" 18 1000000 ∈ tb := tb_in (in_t4 _ (List.mem_of_getElem? (i := 210) rfl)) rfl
theorem fuT_19 : fu "GingerRents$Street" 19 6 3 := ⟨_, _, _, rfl, by decide, rfl, tb_in (in_t1 _ (List.mem_of_getElem? (i := 102) rfl)) rfl⟩
theorem mlT_25 : Cond.methodLink "GingerRents$Street" 25 ⟨"GingerRents$Rows", "at", "(II)I"⟩ ∈ tb := tb_in (in_t4 _ (List.mem_of_getElem? (i := 211) rfl)) rfl
theorem mlT_29 : Cond.methodLink "GingerRents$Street" 29 ⟨"GingerRents$Borough", "has", "(I)Z"⟩ ∈ tb := tb_in (in_t4 _ (List.mem_of_getElem? (i := 212) rfl)) rfl
theorem mlT_35 : Cond.methodLink "GingerRents$Street" 35 ⟨"GingerRents$Borough", "sumOf", "(I)I"⟩ ∈ tb := tb_in (in_t4 _ (List.mem_of_getElem? (i := 213) rfl)) rfl
theorem mlT_39 : Cond.methodLink "GingerRents$Street" 39 ⟨"GingerRents$Street", "onwards", "(IIZ)I"⟩ ∈ tb := tb_in (in_t4 _ (List.mem_of_getElem? (i := 214) rfl)) rfl
theorem mlT_43 : Cond.methodLink "GingerRents$Street" 43 ⟨"java/lang/Math", "min", "(II)I"⟩ ∈ tb := tb_in (in_t4 _ (List.mem_of_getElem? (i := 218) rfl)) rfl
theorem mlT_48 : Cond.methodLink "GingerRents$Street" 48 ⟨"java/lang/Math", "max", "(II)I"⟩ ∈ tb := tb_in (in_t4 _ (List.mem_of_getElem? (i := 217) rfl)) rfl
theorem mlT_51 : Cond.methodLink "GingerRents$Street" 51 ⟨"GingerRents$Borough", "upSet", "()I"⟩ ∈ tb := tb_in (in_t5 _ (List.mem_of_getElem? (i := 131) rfl)) rfl
theorem fuT_15 : fu "GingerRents$Street" 15 9 1 := ⟨_, _, _, rfl, by decide, rfl, tb_in (in_t2 _ (List.mem_of_getElem? (i := 81) rfl)) rfl⟩
theorem mlT_55 : Cond.methodLink "GingerRents$Street" 55 ⟨"GingerRents$Told", "nextTo", "(I)I"⟩ ∈ tb := tb_in (in_t5 _ (List.mem_of_getElem? (i := 132) rfl)) rfl
theorem mlT_60 : Cond.methodLink "GingerRents$Street" 60 ⟨"java/lang/Integer", "bitCount", "(I)I"⟩ ∈ tb := tb_in (in_t5 _ (List.mem_of_getElem? (i := 133) rfl)) rfl
theorem mlT_65 : Cond.methodLink "GingerRents$Street" 65 ⟨"GingerRents$Street", "isAlone", "(I)Z"⟩ ∈ tb := tb_in (in_t5 _ (List.mem_of_getElem? (i := 134) rfl)) rfl
def wl_T_spread_0 : List Nat := [3, 54, 5, 21, 5, 16, 12, 162, 0, 28, 42, 180, 0, 9, 21, 5, 21, 5, 29, 160, 0, 7, 3, 167, 0, 5, 18, 18, 79, 132, 5, 1, 167, 255, 227, 3, 54, 5]
theorem wi_T_spread_0 : oC tT_spread.2.1 0 wl_T_spread_0 = true := by decide +kernel
theorem dT_spread_0 : dn tT_spread 0 (.iconst 0) 1 1 := ⟨o_3 (oW (K := 0) (r := 0) wi_T_spread_0 rfl), rfl⟩
theorem dT_spread_1 : dl tT_spread 1 .istore_n .istore 5 3 := Or.inr ⟨o_54 5 (oW (K := 0) (r := 1) wi_T_spread_0 rfl), rfl⟩
theorem dT_spread_3 : dl tT_spread 3 .iload_n .iload 5 5 := Or.inr ⟨o_21 5 (oW (K := 0) (r := 3) wi_T_spread_0 rfl), rfl⟩
theorem dT_spread_5 : dn tT_spread 5 (.bipush 12) 2 7 := ⟨o_16 12 12 (oWd (K := 0) (r := 5) wi_T_spread_0 rfl), rfl⟩
theorem dT_spread_7 : db tT_spread 7 (.if_icmp .ge) 35 10 := ⟨28, o_162 0 28 28 (oWd (K := 0) (r := 7) wi_T_spread_0 rfl), rfl, rfl⟩
theorem dT_spread_10 : dl tT_spread 10 .aload_n .aload 0 11 := Or.inl ⟨0, o_42 (oW (K := 0) (r := 10) wi_T_spread_0 rfl), rfl, rfl⟩
theorem dT_spread_11 : dn tT_spread 11 (.getfield 9) 3 14 := ⟨o_180 0 9 9 (oWd (K := 0) (r := 11) wi_T_spread_0 rfl), rfl⟩
theorem dT_spread_14 : dl tT_spread 14 .iload_n .iload 5 16 := Or.inr ⟨o_21 5 (oW (K := 0) (r := 14) wi_T_spread_0 rfl), rfl⟩
theorem dT_spread_16 : dl tT_spread 16 .iload_n .iload 5 18 := Or.inr ⟨o_21 5 (oW (K := 0) (r := 16) wi_T_spread_0 rfl), rfl⟩
theorem dT_spread_18 : dl tT_spread 18 .iload_n .iload 3 19 := Or.inl ⟨3, o_29 (oW (K := 0) (r := 18) wi_T_spread_0 rfl), rfl, rfl⟩
theorem dT_spread_19 : db tT_spread 19 (.if_icmp .ne) 26 22 := ⟨7, o_160 0 7 7 (oWd (K := 0) (r := 19) wi_T_spread_0 rfl), rfl, rfl⟩
theorem dT_spread_22 : dn tT_spread 22 (.iconst 0) 1 23 := ⟨o_3 (oW (K := 0) (r := 22) wi_T_spread_0 rfl), rfl⟩
theorem dT_spread_23 : db tT_spread 23 .goto 28 26 := ⟨5, o_167 0 5 5 (oWd (K := 0) (r := 23) wi_T_spread_0 rfl), rfl, rfl⟩
theorem dT_spread_26 : dn tT_spread 26 (.ldc 18) 2 28 := ⟨o_18 18 (oW (K := 0) (r := 26) wi_T_spread_0 rfl), rfl⟩
theorem dT_spread_28 : dn tT_spread 28 (.iastore) 1 29 := ⟨o_79 (oW (K := 0) (r := 28) wi_T_spread_0 rfl), rfl⟩
theorem dT_spread_29 : dn tT_spread 29 (.iinc 5 1) 3 32 := ⟨o_132 5 1 1 (oWd (K := 0) (r := 29) wi_T_spread_0 rfl), rfl⟩
def wl_T_spread_32 : List Nat := [167, 255, 227, 3, 54, 5, 21, 5, 16, 12, 162, 0, 140, 3, 54, 6, 21, 6, 44, 180, 0, 19, 162, 0, 122, 44, 21, 6, 3, 182, 0, 25, 54, 7, 44, 21, 6, 4]
theorem wi_T_spread_32 : oC tT_spread.2.1 32 wl_T_spread_32 = true := by decide +kernel
theorem dT_spread_32 : db tT_spread 32 .goto 3 35 := ⟨-29, o_167 255 227 (-29) (oWd (K := 32) (r := 0) wi_T_spread_32 rfl), rfl, rfl⟩
theorem dT_spread_35 : dn tT_spread 35 (.iconst 0) 1 36 := ⟨o_3 (oW (K := 32) (r := 3) wi_T_spread_32 rfl), rfl⟩
theorem dT_spread_36 : dl tT_spread 36 .istore_n .istore 5 38 := Or.inr ⟨o_54 5 (oW (K := 32) (r := 4) wi_T_spread_32 rfl), rfl⟩
theorem dT_spread_38 : dl tT_spread 38 .iload_n .iload 5 40 := Or.inr ⟨o_21 5 (oW (K := 32) (r := 6) wi_T_spread_32 rfl), rfl⟩
theorem dT_spread_40 : dn tT_spread 40 (.bipush 12) 2 42 := ⟨o_16 12 12 (oWd (K := 32) (r := 8) wi_T_spread_32 rfl), rfl⟩
theorem dT_spread_42 : db tT_spread 42 (.if_icmp .ge) 182 45 := ⟨140, o_162 0 140 140 (oWd (K := 32) (r := 10) wi_T_spread_32 rfl), rfl, rfl⟩
theorem dT_spread_45 : dn tT_spread 45 (.iconst 0) 1 46 := ⟨o_3 (oW (K := 32) (r := 13) wi_T_spread_32 rfl), rfl⟩
theorem dT_spread_46 : dl tT_spread 46 .istore_n .istore 6 48 := Or.inr ⟨o_54 6 (oW (K := 32) (r := 14) wi_T_spread_32 rfl), rfl⟩
theorem dT_spread_48 : dl tT_spread 48 .iload_n .iload 6 50 := Or.inr ⟨o_21 6 (oW (K := 32) (r := 16) wi_T_spread_32 rfl), rfl⟩
theorem dT_spread_50 : dl tT_spread 50 .aload_n .aload 2 51 := Or.inl ⟨2, o_44 (oW (K := 32) (r := 18) wi_T_spread_32 rfl), rfl, rfl⟩
theorem dT_spread_51 : dn tT_spread 51 (.getfield 19) 3 54 := ⟨o_180 0 19 19 (oWd (K := 32) (r := 19) wi_T_spread_32 rfl), rfl⟩
theorem dT_spread_54 : db tT_spread 54 (.if_icmp .ge) 176 57 := ⟨122, o_162 0 122 122 (oWd (K := 32) (r := 22) wi_T_spread_32 rfl), rfl, rfl⟩
theorem dT_spread_57 : dl tT_spread 57 .aload_n .aload 2 58 := Or.inl ⟨2, o_44 (oW (K := 32) (r := 25) wi_T_spread_32 rfl), rfl, rfl⟩
theorem dT_spread_58 : dl tT_spread 58 .iload_n .iload 6 60 := Or.inr ⟨o_21 6 (oW (K := 32) (r := 26) wi_T_spread_32 rfl), rfl⟩
theorem dT_spread_60 : dn tT_spread 60 (.iconst 0) 1 61 := ⟨o_3 (oW (K := 32) (r := 28) wi_T_spread_32 rfl), rfl⟩
theorem dT_spread_61 : dn tT_spread 61 (.invokevirtual 25) 3 64 := ⟨o_182 0 25 25 (oWd (K := 32) (r := 29) wi_T_spread_32 rfl), rfl⟩
def wl_T_spread_64 : List Nat := [54, 7, 44, 21, 6, 4, 182, 0, 25, 54, 8, 43, 21, 7, 182, 0, 29, 153, 0, 89, 43, 21, 8, 182, 0, 29, 153, 0, 80, 43, 21, 7, 182, 0, 35, 43, 21, 8]
theorem wi_T_spread_64 : oC tT_spread.2.1 64 wl_T_spread_64 = true := by decide +kernel
theorem dT_spread_64 : dl tT_spread 64 .istore_n .istore 7 66 := Or.inr ⟨o_54 7 (oW (K := 64) (r := 0) wi_T_spread_64 rfl), rfl⟩
theorem dT_spread_66 : dl tT_spread 66 .aload_n .aload 2 67 := Or.inl ⟨2, o_44 (oW (K := 64) (r := 2) wi_T_spread_64 rfl), rfl, rfl⟩
theorem dT_spread_67 : dl tT_spread 67 .iload_n .iload 6 69 := Or.inr ⟨o_21 6 (oW (K := 64) (r := 3) wi_T_spread_64 rfl), rfl⟩
theorem dT_spread_69 : dn tT_spread 69 (.iconst 1) 1 70 := ⟨o_4 (oW (K := 64) (r := 5) wi_T_spread_64 rfl), rfl⟩
theorem dT_spread_70 : dn tT_spread 70 (.invokevirtual 25) 3 73 := ⟨o_182 0 25 25 (oWd (K := 64) (r := 6) wi_T_spread_64 rfl), rfl⟩
theorem dT_spread_73 : dl tT_spread 73 .istore_n .istore 8 75 := Or.inr ⟨o_54 8 (oW (K := 64) (r := 9) wi_T_spread_64 rfl), rfl⟩
theorem dT_spread_75 : dl tT_spread 75 .aload_n .aload 1 76 := Or.inl ⟨1, o_43 (oW (K := 64) (r := 11) wi_T_spread_64 rfl), rfl, rfl⟩
theorem dT_spread_76 : dl tT_spread 76 .iload_n .iload 7 78 := Or.inr ⟨o_21 7 (oW (K := 64) (r := 12) wi_T_spread_64 rfl), rfl⟩
theorem dT_spread_78 : dn tT_spread 78 (.invokevirtual 29) 3 81 := ⟨o_182 0 29 29 (oWd (K := 64) (r := 14) wi_T_spread_64 rfl), rfl⟩
theorem dT_spread_81 : db tT_spread 81 (.ifCond .eq) 170 84 := ⟨89, o_153 0 89 89 (oWd (K := 64) (r := 17) wi_T_spread_64 rfl), rfl, rfl⟩
theorem dT_spread_84 : dl tT_spread 84 .aload_n .aload 1 85 := Or.inl ⟨1, o_43 (oW (K := 64) (r := 20) wi_T_spread_64 rfl), rfl, rfl⟩
theorem dT_spread_85 : dl tT_spread 85 .iload_n .iload 8 87 := Or.inr ⟨o_21 8 (oW (K := 64) (r := 21) wi_T_spread_64 rfl), rfl⟩
theorem dT_spread_87 : dn tT_spread 87 (.invokevirtual 29) 3 90 := ⟨o_182 0 29 29 (oWd (K := 64) (r := 23) wi_T_spread_64 rfl), rfl⟩
theorem dT_spread_90 : db tT_spread 90 (.ifCond .eq) 170 93 := ⟨80, o_153 0 80 80 (oWd (K := 64) (r := 26) wi_T_spread_64 rfl), rfl, rfl⟩
theorem dT_spread_93 : dl tT_spread 93 .aload_n .aload 1 94 := Or.inl ⟨1, o_43 (oW (K := 64) (r := 29) wi_T_spread_64 rfl), rfl, rfl⟩
theorem dT_spread_94 : dl tT_spread 94 .iload_n .iload 7 96 := Or.inr ⟨o_21 7 (oW (K := 64) (r := 30) wi_T_spread_64 rfl), rfl⟩
def wl_T_spread_96 : List Nat := [182, 0, 35, 43, 21, 8, 182, 0, 35, 96, 54, 9, 42, 180, 0, 9, 21, 8, 42, 180, 0, 9, 21, 8, 46, 42, 180, 0, 9, 21, 7, 46, 21, 9, 21, 4, 184, 0]
theorem wi_T_spread_96 : oC tT_spread.2.1 96 wl_T_spread_96 = true := by decide +kernel
theorem dT_spread_96 : dn tT_spread 96 (.invokevirtual 35) 3 99 := ⟨o_182 0 35 35 (oWd (K := 96) (r := 0) wi_T_spread_96 rfl), rfl⟩
theorem dT_spread_99 : dl tT_spread 99 .aload_n .aload 1 100 := Or.inl ⟨1, o_43 (oW (K := 96) (r := 3) wi_T_spread_96 rfl), rfl, rfl⟩
theorem dT_spread_100 : dl tT_spread 100 .iload_n .iload 8 102 := Or.inr ⟨o_21 8 (oW (K := 96) (r := 4) wi_T_spread_96 rfl), rfl⟩
theorem dT_spread_102 : dn tT_spread 102 (.invokevirtual 35) 3 105 := ⟨o_182 0 35 35 (oWd (K := 96) (r := 6) wi_T_spread_96 rfl), rfl⟩
theorem dT_spread_105 : dn tT_spread 105 (.iadd) 1 106 := ⟨o_96 (oW (K := 96) (r := 9) wi_T_spread_96 rfl), rfl⟩
theorem dT_spread_106 : dl tT_spread 106 .istore_n .istore 9 108 := Or.inr ⟨o_54 9 (oW (K := 96) (r := 10) wi_T_spread_96 rfl), rfl⟩
theorem dT_spread_108 : dl tT_spread 108 .aload_n .aload 0 109 := Or.inl ⟨0, o_42 (oW (K := 96) (r := 12) wi_T_spread_96 rfl), rfl, rfl⟩
theorem dT_spread_109 : dn tT_spread 109 (.getfield 9) 3 112 := ⟨o_180 0 9 9 (oWd (K := 96) (r := 13) wi_T_spread_96 rfl), rfl⟩
theorem dT_spread_112 : dl tT_spread 112 .iload_n .iload 8 114 := Or.inr ⟨o_21 8 (oW (K := 96) (r := 16) wi_T_spread_96 rfl), rfl⟩
theorem dT_spread_114 : dl tT_spread 114 .aload_n .aload 0 115 := Or.inl ⟨0, o_42 (oW (K := 96) (r := 18) wi_T_spread_96 rfl), rfl, rfl⟩
theorem dT_spread_115 : dn tT_spread 115 (.getfield 9) 3 118 := ⟨o_180 0 9 9 (oWd (K := 96) (r := 19) wi_T_spread_96 rfl), rfl⟩
theorem dT_spread_118 : dl tT_spread 118 .iload_n .iload 8 120 := Or.inr ⟨o_21 8 (oW (K := 96) (r := 22) wi_T_spread_96 rfl), rfl⟩
theorem dT_spread_120 : dn tT_spread 120 (.iaload) 1 121 := ⟨o_46 (oW (K := 96) (r := 24) wi_T_spread_96 rfl), rfl⟩
theorem dT_spread_121 : dl tT_spread 121 .aload_n .aload 0 122 := Or.inl ⟨0, o_42 (oW (K := 96) (r := 25) wi_T_spread_96 rfl), rfl, rfl⟩
theorem dT_spread_122 : dn tT_spread 122 (.getfield 9) 3 125 := ⟨o_180 0 9 9 (oWd (K := 96) (r := 26) wi_T_spread_96 rfl), rfl⟩
theorem dT_spread_125 : dl tT_spread 125 .iload_n .iload 7 127 := Or.inr ⟨o_21 7 (oW (K := 96) (r := 29) wi_T_spread_96 rfl), rfl⟩
theorem dT_spread_127 : dn tT_spread 127 (.iaload) 1 128 := ⟨o_46 (oW (K := 96) (r := 31) wi_T_spread_96 rfl), rfl⟩
def wl_T_spread_128 : List Nat := [21, 9, 21, 4, 184, 0, 39, 184, 0, 43, 79, 42, 180, 0, 9, 21, 7, 42, 180, 0, 9, 21, 7, 46, 42, 180, 0, 9, 21, 8, 46, 21, 9, 21, 4, 184, 0, 39]
theorem wi_T_spread_128 : oC tT_spread.2.1 128 wl_T_spread_128 = true := by decide +kernel
theorem dT_spread_128 : dl tT_spread 128 .iload_n .iload 9 130 := Or.inr ⟨o_21 9 (oW (K := 128) (r := 0) wi_T_spread_128 rfl), rfl⟩
theorem dT_spread_130 : dl tT_spread 130 .iload_n .iload 4 132 := Or.inr ⟨o_21 4 (oW (K := 128) (r := 2) wi_T_spread_128 rfl), rfl⟩
theorem dT_spread_132 : dn tT_spread 132 (.invokestatic 39) 3 135 := ⟨o_184 0 39 39 (oWd (K := 128) (r := 4) wi_T_spread_128 rfl), rfl⟩
theorem dT_spread_135 : dn tT_spread 135 (.invokestatic 43) 3 138 := ⟨o_184 0 43 43 (oWd (K := 128) (r := 7) wi_T_spread_128 rfl), rfl⟩
theorem dT_spread_138 : dn tT_spread 138 (.iastore) 1 139 := ⟨o_79 (oW (K := 128) (r := 10) wi_T_spread_128 rfl), rfl⟩
theorem dT_spread_139 : dl tT_spread 139 .aload_n .aload 0 140 := Or.inl ⟨0, o_42 (oW (K := 128) (r := 11) wi_T_spread_128 rfl), rfl, rfl⟩
theorem dT_spread_140 : dn tT_spread 140 (.getfield 9) 3 143 := ⟨o_180 0 9 9 (oWd (K := 128) (r := 12) wi_T_spread_128 rfl), rfl⟩
theorem dT_spread_143 : dl tT_spread 143 .iload_n .iload 7 145 := Or.inr ⟨o_21 7 (oW (K := 128) (r := 15) wi_T_spread_128 rfl), rfl⟩
theorem dT_spread_145 : dl tT_spread 145 .aload_n .aload 0 146 := Or.inl ⟨0, o_42 (oW (K := 128) (r := 17) wi_T_spread_128 rfl), rfl, rfl⟩
theorem dT_spread_146 : dn tT_spread 146 (.getfield 9) 3 149 := ⟨o_180 0 9 9 (oWd (K := 128) (r := 18) wi_T_spread_128 rfl), rfl⟩
theorem dT_spread_149 : dl tT_spread 149 .iload_n .iload 7 151 := Or.inr ⟨o_21 7 (oW (K := 128) (r := 21) wi_T_spread_128 rfl), rfl⟩
theorem dT_spread_151 : dn tT_spread 151 (.iaload) 1 152 := ⟨o_46 (oW (K := 128) (r := 23) wi_T_spread_128 rfl), rfl⟩
theorem dT_spread_152 : dl tT_spread 152 .aload_n .aload 0 153 := Or.inl ⟨0, o_42 (oW (K := 128) (r := 24) wi_T_spread_128 rfl), rfl, rfl⟩
theorem dT_spread_153 : dn tT_spread 153 (.getfield 9) 3 156 := ⟨o_180 0 9 9 (oWd (K := 128) (r := 25) wi_T_spread_128 rfl), rfl⟩
theorem dT_spread_156 : dl tT_spread 156 .iload_n .iload 8 158 := Or.inr ⟨o_21 8 (oW (K := 128) (r := 28) wi_T_spread_128 rfl), rfl⟩
theorem dT_spread_158 : dn tT_spread 158 (.iaload) 1 159 := ⟨o_46 (oW (K := 128) (r := 30) wi_T_spread_128 rfl), rfl⟩
theorem dT_spread_159 : dl tT_spread 159 .iload_n .iload 9 161 := Or.inr ⟨o_21 9 (oW (K := 128) (r := 31) wi_T_spread_128 rfl), rfl⟩
def wl_T_spread_160 : List Nat := [9, 21, 4, 184, 0, 39, 184, 0, 43, 79, 132, 6, 1, 167, 255, 131, 132, 5, 1, 167, 255, 115, 177]
theorem wi_T_spread_160 : oC tT_spread.2.1 160 wl_T_spread_160 = true := by decide +kernel
theorem dT_spread_161 : dl tT_spread 161 .iload_n .iload 4 163 := Or.inr ⟨o_21 4 (oW (K := 160) (r := 1) wi_T_spread_160 rfl), rfl⟩
theorem dT_spread_163 : dn tT_spread 163 (.invokestatic 39) 3 166 := ⟨o_184 0 39 39 (oWd (K := 160) (r := 3) wi_T_spread_160 rfl), rfl⟩
theorem dT_spread_166 : dn tT_spread 166 (.invokestatic 43) 3 169 := ⟨o_184 0 43 43 (oWd (K := 160) (r := 6) wi_T_spread_160 rfl), rfl⟩
theorem dT_spread_169 : dn tT_spread 169 (.iastore) 1 170 := ⟨o_79 (oW (K := 160) (r := 9) wi_T_spread_160 rfl), rfl⟩
theorem dT_spread_170 : dn tT_spread 170 (.iinc 6 1) 3 173 := ⟨o_132 6 1 1 (oWd (K := 160) (r := 10) wi_T_spread_160 rfl), rfl⟩
theorem dT_spread_173 : db tT_spread 173 .goto 48 176 := ⟨-125, o_167 255 131 (-125) (oWd (K := 160) (r := 13) wi_T_spread_160 rfl), rfl, rfl⟩
theorem dT_spread_176 : dn tT_spread 176 (.iinc 5 1) 3 179 := ⟨o_132 5 1 1 (oWd (K := 160) (r := 16) wi_T_spread_160 rfl), rfl⟩
theorem dT_spread_179 : db tT_spread 179 .goto 38 182 := ⟨-141, o_167 255 115 (-141) (oWd (K := 160) (r := 19) wi_T_spread_160 rfl), rfl, rfl⟩
theorem dT_spread_182 : dn tT_spread 182 (.return_) 1 183 := ⟨o_177 (oW (K := 160) (r := 22) wi_T_spread_160 rfl), rfl⟩
def wl_T_onwards_0 : List Nat := [28, 153, 0, 11, 26, 27, 184, 0, 48, 167, 0, 6, 26, 27, 96, 172]
theorem wi_T_onwards_0 : oC tT_onwards.2.1 0 wl_T_onwards_0 = true := by decide +kernel
theorem dT_onwards_0 : dl tT_onwards 0 .iload_n .iload 2 1 := Or.inl ⟨2, o_28 (oW (K := 0) (r := 0) wi_T_onwards_0 rfl), rfl, rfl⟩
theorem dT_onwards_1 : db tT_onwards 1 (.ifCond .eq) 12 4 := ⟨11, o_153 0 11 11 (oWd (K := 0) (r := 1) wi_T_onwards_0 rfl), rfl, rfl⟩
theorem dT_onwards_4 : dl tT_onwards 4 .iload_n .iload 0 5 := Or.inl ⟨0, o_26 (oW (K := 0) (r := 4) wi_T_onwards_0 rfl), rfl, rfl⟩
theorem dT_onwards_5 : dl tT_onwards 5 .iload_n .iload 1 6 := Or.inl ⟨1, o_27 (oW (K := 0) (r := 5) wi_T_onwards_0 rfl), rfl, rfl⟩
theorem dT_onwards_6 : dn tT_onwards 6 (.invokestatic 48) 3 9 := ⟨o_184 0 48 48 (oWd (K := 0) (r := 6) wi_T_onwards_0 rfl), rfl⟩
theorem dT_onwards_9 : db tT_onwards 9 .goto 15 12 := ⟨6, o_167 0 6 6 (oWd (K := 0) (r := 9) wi_T_onwards_0 rfl), rfl, rfl⟩
theorem dT_onwards_12 : dl tT_onwards 12 .iload_n .iload 0 13 := Or.inl ⟨0, o_26 (oW (K := 0) (r := 12) wi_T_onwards_0 rfl), rfl, rfl⟩
theorem dT_onwards_13 : dl tT_onwards 13 .iload_n .iload 1 14 := Or.inl ⟨1, o_27 (oW (K := 0) (r := 13) wi_T_onwards_0 rfl), rfl, rfl⟩
theorem dT_onwards_14 : dn tT_onwards 14 (.iadd) 1 15 := ⟨o_96 (oW (K := 0) (r := 14) wi_T_onwards_0 rfl), rfl⟩
theorem dT_onwards_15 : dn tT_onwards 15 (.ireturn) 1 16 := ⟨o_172 (oW (K := 0) (r := 15) wi_T_onwards_0 rfl), rfl⟩
def wl_T_costTo_0 : List Nat := [27, 155, 0, 20, 27, 16, 12, 162, 0, 14, 42, 180, 0, 9, 27, 46, 18, 18, 161, 0, 5, 2, 172, 42, 180, 0, 9, 27, 46, 172]
theorem wi_T_costTo_0 : oC tT_costTo.2.1 0 wl_T_costTo_0 = true := by decide +kernel
theorem dT_costTo_0 : dl tT_costTo 0 .iload_n .iload 1 1 := Or.inl ⟨1, o_27 (oW (K := 0) (r := 0) wi_T_costTo_0 rfl), rfl, rfl⟩
theorem dT_costTo_1 : db tT_costTo 1 (.ifCond .lt) 21 4 := ⟨20, o_155 0 20 20 (oWd (K := 0) (r := 1) wi_T_costTo_0 rfl), rfl, rfl⟩
theorem dT_costTo_4 : dl tT_costTo 4 .iload_n .iload 1 5 := Or.inl ⟨1, o_27 (oW (K := 0) (r := 4) wi_T_costTo_0 rfl), rfl, rfl⟩
theorem dT_costTo_5 : dn tT_costTo 5 (.bipush 12) 2 7 := ⟨o_16 12 12 (oWd (K := 0) (r := 5) wi_T_costTo_0 rfl), rfl⟩
theorem dT_costTo_7 : db tT_costTo 7 (.if_icmp .ge) 21 10 := ⟨14, o_162 0 14 14 (oWd (K := 0) (r := 7) wi_T_costTo_0 rfl), rfl, rfl⟩
theorem dT_costTo_10 : dl tT_costTo 10 .aload_n .aload 0 11 := Or.inl ⟨0, o_42 (oW (K := 0) (r := 10) wi_T_costTo_0 rfl), rfl, rfl⟩
theorem dT_costTo_11 : dn tT_costTo 11 (.getfield 9) 3 14 := ⟨o_180 0 9 9 (oWd (K := 0) (r := 11) wi_T_costTo_0 rfl), rfl⟩
theorem dT_costTo_14 : dl tT_costTo 14 .iload_n .iload 1 15 := Or.inl ⟨1, o_27 (oW (K := 0) (r := 14) wi_T_costTo_0 rfl), rfl, rfl⟩
theorem dT_costTo_15 : dn tT_costTo 15 (.iaload) 1 16 := ⟨o_46 (oW (K := 0) (r := 15) wi_T_costTo_0 rfl), rfl⟩
theorem dT_costTo_16 : dn tT_costTo 16 (.ldc 18) 2 18 := ⟨o_18 18 (oW (K := 0) (r := 16) wi_T_costTo_0 rfl), rfl⟩
theorem dT_costTo_18 : db tT_costTo 18 (.if_icmp .lt) 23 21 := ⟨5, o_161 0 5 5 (oWd (K := 0) (r := 18) wi_T_costTo_0 rfl), rfl, rfl⟩
theorem dT_costTo_21 : dn tT_costTo 21 (.iconst (-1)) 1 22 := ⟨o_2 (oW (K := 0) (r := 21) wi_T_costTo_0 rfl), rfl⟩
theorem dT_costTo_22 : dn tT_costTo 22 (.ireturn) 1 23 := ⟨o_172 (oW (K := 0) (r := 22) wi_T_costTo_0 rfl), rfl⟩
theorem dT_costTo_23 : dl tT_costTo 23 .aload_n .aload 0 24 := Or.inl ⟨0, o_42 (oW (K := 0) (r := 23) wi_T_costTo_0 rfl), rfl, rfl⟩
theorem dT_costTo_24 : dn tT_costTo 24 (.getfield 9) 3 27 := ⟨o_180 0 9 9 (oWd (K := 0) (r := 24) wi_T_costTo_0 rfl), rfl⟩
theorem dT_costTo_27 : dl tT_costTo 27 .iload_n .iload 1 28 := Or.inl ⟨1, o_27 (oW (K := 0) (r := 27) wi_T_costTo_0 rfl), rfl, rfl⟩
theorem dT_costTo_28 : dn tT_costTo 28 (.iaload) 1 29 := ⟨o_46 (oW (K := 0) (r := 28) wi_T_costTo_0 rfl), rfl⟩
theorem dT_costTo_29 : dn tT_costTo 29 (.ireturn) 1 30 := ⟨o_172 (oW (K := 0) (r := 29) wi_T_costTo_0 rfl), rfl⟩
def wl_T_countWithin_0 : List Nat := [3, 54, 4, 3, 54, 5, 21, 5, 27, 162, 0, 36, 21, 5, 16, 12, 162, 0, 29, 21, 5, 28, 159, 0, 17, 42, 180, 0, 9, 21, 5, 46, 29, 163, 0, 6, 132, 4]
theorem wi_T_countWithin_0 : oC tT_countWithin.2.1 0 wl_T_countWithin_0 = true := by decide +kernel
theorem dT_countWithin_0 : dn tT_countWithin 0 (.iconst 0) 1 1 := ⟨o_3 (oW (K := 0) (r := 0) wi_T_countWithin_0 rfl), rfl⟩
theorem dT_countWithin_1 : dl tT_countWithin 1 .istore_n .istore 4 3 := Or.inr ⟨o_54 4 (oW (K := 0) (r := 1) wi_T_countWithin_0 rfl), rfl⟩
theorem dT_countWithin_3 : dn tT_countWithin 3 (.iconst 0) 1 4 := ⟨o_3 (oW (K := 0) (r := 3) wi_T_countWithin_0 rfl), rfl⟩
theorem dT_countWithin_4 : dl tT_countWithin 4 .istore_n .istore 5 6 := Or.inr ⟨o_54 5 (oW (K := 0) (r := 4) wi_T_countWithin_0 rfl), rfl⟩
theorem dT_countWithin_6 : dl tT_countWithin 6 .iload_n .iload 5 8 := Or.inr ⟨o_21 5 (oW (K := 0) (r := 6) wi_T_countWithin_0 rfl), rfl⟩
theorem dT_countWithin_8 : dl tT_countWithin 8 .iload_n .iload 1 9 := Or.inl ⟨1, o_27 (oW (K := 0) (r := 8) wi_T_countWithin_0 rfl), rfl, rfl⟩
theorem dT_countWithin_9 : db tT_countWithin 9 (.if_icmp .ge) 45 12 := ⟨36, o_162 0 36 36 (oWd (K := 0) (r := 9) wi_T_countWithin_0 rfl), rfl, rfl⟩
theorem dT_countWithin_12 : dl tT_countWithin 12 .iload_n .iload 5 14 := Or.inr ⟨o_21 5 (oW (K := 0) (r := 12) wi_T_countWithin_0 rfl), rfl⟩
theorem dT_countWithin_14 : dn tT_countWithin 14 (.bipush 12) 2 16 := ⟨o_16 12 12 (oWd (K := 0) (r := 14) wi_T_countWithin_0 rfl), rfl⟩
theorem dT_countWithin_16 : db tT_countWithin 16 (.if_icmp .ge) 45 19 := ⟨29, o_162 0 29 29 (oWd (K := 0) (r := 16) wi_T_countWithin_0 rfl), rfl, rfl⟩
theorem dT_countWithin_19 : dl tT_countWithin 19 .iload_n .iload 5 21 := Or.inr ⟨o_21 5 (oW (K := 0) (r := 19) wi_T_countWithin_0 rfl), rfl⟩
theorem dT_countWithin_21 : dl tT_countWithin 21 .iload_n .iload 2 22 := Or.inl ⟨2, o_28 (oW (K := 0) (r := 21) wi_T_countWithin_0 rfl), rfl, rfl⟩
theorem dT_countWithin_22 : db tT_countWithin 22 (.if_icmp .eq) 39 25 := ⟨17, o_159 0 17 17 (oWd (K := 0) (r := 22) wi_T_countWithin_0 rfl), rfl, rfl⟩
theorem dT_countWithin_25 : dl tT_countWithin 25 .aload_n .aload 0 26 := Or.inl ⟨0, o_42 (oW (K := 0) (r := 25) wi_T_countWithin_0 rfl), rfl, rfl⟩
theorem dT_countWithin_26 : dn tT_countWithin 26 (.getfield 9) 3 29 := ⟨o_180 0 9 9 (oWd (K := 0) (r := 26) wi_T_countWithin_0 rfl), rfl⟩
theorem dT_countWithin_29 : dl tT_countWithin 29 .iload_n .iload 5 31 := Or.inr ⟨o_21 5 (oW (K := 0) (r := 29) wi_T_countWithin_0 rfl), rfl⟩
theorem dT_countWithin_31 : dn tT_countWithin 31 (.iaload) 1 32 := ⟨o_46 (oW (K := 0) (r := 31) wi_T_countWithin_0 rfl), rfl⟩
def wl_T_countWithin_32 : List Nat := [29, 163, 0, 6, 132, 4, 1, 132, 5, 1, 167, 255, 220, 21, 4, 172]
theorem wi_T_countWithin_32 : oC tT_countWithin.2.1 32 wl_T_countWithin_32 = true := by decide +kernel
theorem dT_countWithin_32 : dl tT_countWithin 32 .iload_n .iload 3 33 := Or.inl ⟨3, o_29 (oW (K := 32) (r := 0) wi_T_countWithin_32 rfl), rfl, rfl⟩
theorem dT_countWithin_33 : db tT_countWithin 33 (.if_icmp .gt) 39 36 := ⟨6, o_163 0 6 6 (oWd (K := 32) (r := 1) wi_T_countWithin_32 rfl), rfl, rfl⟩
theorem dT_countWithin_36 : dn tT_countWithin 36 (.iinc 4 1) 3 39 := ⟨o_132 4 1 1 (oWd (K := 32) (r := 4) wi_T_countWithin_32 rfl), rfl⟩
theorem dT_countWithin_39 : dn tT_countWithin 39 (.iinc 5 1) 3 42 := ⟨o_132 5 1 1 (oWd (K := 32) (r := 7) wi_T_countWithin_32 rfl), rfl⟩
theorem dT_countWithin_42 : db tT_countWithin 42 .goto 6 45 := ⟨-36, o_167 255 220 (-36) (oWd (K := 32) (r := 10) wi_T_countWithin_32 rfl), rfl, rfl⟩
theorem dT_countWithin_45 : dl tT_countWithin 45 .iload_n .iload 4 47 := Or.inr ⟨o_21 4 (oW (K := 32) (r := 13) wi_T_countWithin_32 rfl), rfl⟩
theorem dT_countWithin_47 : dn tT_countWithin 47 (.ireturn) 1 48 := ⟨o_172 (oW (K := 32) (r := 15) wi_T_countWithin_32 rfl), rfl⟩
def wl_T_mostAlone_0 : List Nat := [43, 182, 0, 51, 62, 3, 54, 4, 21, 4, 16, 12, 162, 0, 22, 42, 180, 0, 15, 21, 4, 44, 21, 4, 182, 0, 55, 79, 132, 4, 1, 167, 255, 233, 3, 54, 4, 3]
theorem wi_T_mostAlone_0 : oC tT_mostAlone.2.1 0 wl_T_mostAlone_0 = true := by decide +kernel
theorem dT_mostAlone_0 : dl tT_mostAlone 0 .aload_n .aload 1 1 := Or.inl ⟨1, o_43 (oW (K := 0) (r := 0) wi_T_mostAlone_0 rfl), rfl, rfl⟩
theorem dT_mostAlone_1 : dn tT_mostAlone 1 (.invokevirtual 51) 3 4 := ⟨o_182 0 51 51 (oWd (K := 0) (r := 1) wi_T_mostAlone_0 rfl), rfl⟩
theorem dT_mostAlone_4 : dl tT_mostAlone 4 .istore_n .istore 3 5 := Or.inl ⟨3, o_62 (oW (K := 0) (r := 4) wi_T_mostAlone_0 rfl), rfl, rfl⟩
theorem dT_mostAlone_5 : dn tT_mostAlone 5 (.iconst 0) 1 6 := ⟨o_3 (oW (K := 0) (r := 5) wi_T_mostAlone_0 rfl), rfl⟩
theorem dT_mostAlone_6 : dl tT_mostAlone 6 .istore_n .istore 4 8 := Or.inr ⟨o_54 4 (oW (K := 0) (r := 6) wi_T_mostAlone_0 rfl), rfl⟩
theorem dT_mostAlone_8 : dl tT_mostAlone 8 .iload_n .iload 4 10 := Or.inr ⟨o_21 4 (oW (K := 0) (r := 8) wi_T_mostAlone_0 rfl), rfl⟩
theorem dT_mostAlone_10 : dn tT_mostAlone 10 (.bipush 12) 2 12 := ⟨o_16 12 12 (oWd (K := 0) (r := 10) wi_T_mostAlone_0 rfl), rfl⟩
theorem dT_mostAlone_12 : db tT_mostAlone 12 (.if_icmp .ge) 34 15 := ⟨22, o_162 0 22 22 (oWd (K := 0) (r := 12) wi_T_mostAlone_0 rfl), rfl, rfl⟩
theorem dT_mostAlone_15 : dl tT_mostAlone 15 .aload_n .aload 0 16 := Or.inl ⟨0, o_42 (oW (K := 0) (r := 15) wi_T_mostAlone_0 rfl), rfl, rfl⟩
theorem dT_mostAlone_16 : dn tT_mostAlone 16 (.getfield 15) 3 19 := ⟨o_180 0 15 15 (oWd (K := 0) (r := 16) wi_T_mostAlone_0 rfl), rfl⟩
theorem dT_mostAlone_19 : dl tT_mostAlone 19 .iload_n .iload 4 21 := Or.inr ⟨o_21 4 (oW (K := 0) (r := 19) wi_T_mostAlone_0 rfl), rfl⟩
theorem dT_mostAlone_21 : dl tT_mostAlone 21 .aload_n .aload 2 22 := Or.inl ⟨2, o_44 (oW (K := 0) (r := 21) wi_T_mostAlone_0 rfl), rfl, rfl⟩
theorem dT_mostAlone_22 : dl tT_mostAlone 22 .iload_n .iload 4 24 := Or.inr ⟨o_21 4 (oW (K := 0) (r := 22) wi_T_mostAlone_0 rfl), rfl⟩
theorem dT_mostAlone_24 : dn tT_mostAlone 24 (.invokevirtual 55) 3 27 := ⟨o_182 0 55 55 (oWd (K := 0) (r := 24) wi_T_mostAlone_0 rfl), rfl⟩
theorem dT_mostAlone_27 : dn tT_mostAlone 27 (.iastore) 1 28 := ⟨o_79 (oW (K := 0) (r := 27) wi_T_mostAlone_0 rfl), rfl⟩
theorem dT_mostAlone_28 : dn tT_mostAlone 28 (.iinc 4 1) 3 31 := ⟨o_132 4 1 1 (oWd (K := 0) (r := 28) wi_T_mostAlone_0 rfl), rfl⟩
theorem dT_mostAlone_31 : db tT_mostAlone 31 .goto 8 34 := ⟨-23, o_167 255 233 (-23) (oWd (K := 0) (r := 31) wi_T_mostAlone_0 rfl), rfl, rfl⟩
def wl_T_mostAlone_32 : List Nat := [255, 233, 3, 54, 4, 3, 54, 5, 4, 54, 6, 21, 6, 17, 16, 0, 162, 0, 48, 21, 6, 29, 126, 21, 6, 160, 0, 33, 21, 6, 184, 0, 60, 21, 5, 164, 0, 23]
theorem wi_T_mostAlone_32 : oC tT_mostAlone.2.1 32 wl_T_mostAlone_32 = true := by decide +kernel
theorem dT_mostAlone_34 : dn tT_mostAlone 34 (.iconst 0) 1 35 := ⟨o_3 (oW (K := 32) (r := 2) wi_T_mostAlone_32 rfl), rfl⟩
theorem dT_mostAlone_35 : dl tT_mostAlone 35 .istore_n .istore 4 37 := Or.inr ⟨o_54 4 (oW (K := 32) (r := 3) wi_T_mostAlone_32 rfl), rfl⟩
theorem dT_mostAlone_37 : dn tT_mostAlone 37 (.iconst 0) 1 38 := ⟨o_3 (oW (K := 32) (r := 5) wi_T_mostAlone_32 rfl), rfl⟩
theorem dT_mostAlone_38 : dl tT_mostAlone 38 .istore_n .istore 5 40 := Or.inr ⟨o_54 5 (oW (K := 32) (r := 6) wi_T_mostAlone_32 rfl), rfl⟩
theorem dT_mostAlone_40 : dn tT_mostAlone 40 (.iconst 1) 1 41 := ⟨o_4 (oW (K := 32) (r := 8) wi_T_mostAlone_32 rfl), rfl⟩
theorem dT_mostAlone_41 : dl tT_mostAlone 41 .istore_n .istore 6 43 := Or.inr ⟨o_54 6 (oW (K := 32) (r := 9) wi_T_mostAlone_32 rfl), rfl⟩
theorem dT_mostAlone_43 : dl tT_mostAlone 43 .iload_n .iload 6 45 := Or.inr ⟨o_21 6 (oW (K := 32) (r := 11) wi_T_mostAlone_32 rfl), rfl⟩
theorem dT_mostAlone_45 : dn tT_mostAlone 45 (.sipush 4096) 3 48 := ⟨o_17 16 0 4096 (oWd (K := 32) (r := 13) wi_T_mostAlone_32 rfl), rfl⟩
theorem dT_mostAlone_48 : db tT_mostAlone 48 (.if_icmp .ge) 96 51 := ⟨48, o_162 0 48 48 (oWd (K := 32) (r := 16) wi_T_mostAlone_32 rfl), rfl, rfl⟩
theorem dT_mostAlone_51 : dl tT_mostAlone 51 .iload_n .iload 6 53 := Or.inr ⟨o_21 6 (oW (K := 32) (r := 19) wi_T_mostAlone_32 rfl), rfl⟩
theorem dT_mostAlone_53 : dl tT_mostAlone 53 .iload_n .iload 3 54 := Or.inl ⟨3, o_29 (oW (K := 32) (r := 21) wi_T_mostAlone_32 rfl), rfl, rfl⟩
theorem dT_mostAlone_54 : dn tT_mostAlone 54 (.iand) 1 55 := ⟨o_126 (oW (K := 32) (r := 22) wi_T_mostAlone_32 rfl), rfl⟩
theorem dT_mostAlone_55 : dl tT_mostAlone 55 .iload_n .iload 6 57 := Or.inr ⟨o_21 6 (oW (K := 32) (r := 23) wi_T_mostAlone_32 rfl), rfl⟩
theorem dT_mostAlone_57 : db tT_mostAlone 57 (.if_icmp .ne) 90 60 := ⟨33, o_160 0 33 33 (oWd (K := 32) (r := 25) wi_T_mostAlone_32 rfl), rfl, rfl⟩
theorem dT_mostAlone_60 : dl tT_mostAlone 60 .iload_n .iload 6 62 := Or.inr ⟨o_21 6 (oW (K := 32) (r := 28) wi_T_mostAlone_32 rfl), rfl⟩
theorem dT_mostAlone_62 : dn tT_mostAlone 62 (.invokestatic 60) 3 65 := ⟨o_184 0 60 60 (oWd (K := 32) (r := 30) wi_T_mostAlone_32 rfl), rfl⟩
def wl_T_mostAlone_64 : List Nat := [60, 21, 5, 164, 0, 23, 42, 21, 6, 182, 0, 65, 153, 0, 14, 21, 6, 54, 4, 21, 6, 184, 0, 60, 54, 5, 132, 6, 1, 167, 255, 206, 21, 4, 172]
theorem wi_T_mostAlone_64 : oC tT_mostAlone.2.1 64 wl_T_mostAlone_64 = true := by decide +kernel
theorem dT_mostAlone_65 : dl tT_mostAlone 65 .iload_n .iload 5 67 := Or.inr ⟨o_21 5 (oW (K := 64) (r := 1) wi_T_mostAlone_64 rfl), rfl⟩
theorem dT_mostAlone_67 : db tT_mostAlone 67 (.if_icmp .le) 90 70 := ⟨23, o_164 0 23 23 (oWd (K := 64) (r := 3) wi_T_mostAlone_64 rfl), rfl, rfl⟩
theorem dT_mostAlone_70 : dl tT_mostAlone 70 .aload_n .aload 0 71 := Or.inl ⟨0, o_42 (oW (K := 64) (r := 6) wi_T_mostAlone_64 rfl), rfl, rfl⟩
theorem dT_mostAlone_71 : dl tT_mostAlone 71 .iload_n .iload 6 73 := Or.inr ⟨o_21 6 (oW (K := 64) (r := 7) wi_T_mostAlone_64 rfl), rfl⟩
theorem dT_mostAlone_73 : dn tT_mostAlone 73 (.invokevirtual 65) 3 76 := ⟨o_182 0 65 65 (oWd (K := 64) (r := 9) wi_T_mostAlone_64 rfl), rfl⟩
theorem dT_mostAlone_76 : db tT_mostAlone 76 (.ifCond .eq) 90 79 := ⟨14, o_153 0 14 14 (oWd (K := 64) (r := 12) wi_T_mostAlone_64 rfl), rfl, rfl⟩
