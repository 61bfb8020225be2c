def wl_m_goes_32 : List Nat := [3, 62, 29, 27, 162, 0, 14, 42, 182, 1, 168, 87, 132, 3, 1, 167, 255, 243, 28, 154, 0, 12, 42, 180, 0, 7, 8, 46, 167, 0, 35, 28, 4, 160, 0, 14, 42, 42]
theorem wi_m_goes_32 : oC tm_goes.2.1 32 wl_m_goes_32 = true := by decide +kernel
theorem dm_goes_33 : dl tm_goes 33 .istore_n .istore 3 34 := Or.inl ⟨3, o_62 (oW (K := 32) (r := 1) wi_m_goes_32 (by decide +kernel)), rfl, rfl⟩
theorem dm_goes_34 : dl tm_goes 34 .iload_n .iload 3 35 := Or.inl ⟨3, o_29 (oW (K := 32) (r := 2) wi_m_goes_32 (by decide +kernel)), rfl, rfl⟩
theorem dm_goes_35 : dl tm_goes 35 .iload_n .iload 1 36 := Or.inl ⟨1, o_27 (oW (K := 32) (r := 3) wi_m_goes_32 (by decide +kernel)), rfl, rfl⟩
theorem dm_goes_36 : db tm_goes 36 (.if_icmp .ge) 50 39 := ⟨14, o_162 0 14 14 (oWd (K := 32) (r := 4) wi_m_goes_32 (by decide +kernel)), rfl, rfl⟩
theorem dm_goes_39 : dl tm_goes 39 .aload_n .aload 0 40 := Or.inl ⟨0, o_42 (oW (K := 32) (r := 7) wi_m_goes_32 (by decide +kernel)), rfl, rfl⟩
theorem dm_goes_40 : dn tm_goes 40 (.invokevirtual 424) 3 43 := ⟨o_182 1 168 424 (oWd (K := 32) (r := 8) wi_m_goes_32 (by decide +kernel)), rfl⟩
theorem dm_goes_43 : dn tm_goes 43 (.pop) 1 44 := ⟨o_87 (oW (K := 32) (r := 11) wi_m_goes_32 (by decide +kernel)), rfl⟩
theorem dm_goes_44 : dn tm_goes 44 (.iinc 3 1) 3 47 := ⟨o_132 3 1 1 (oWd (K := 32) (r := 12) wi_m_goes_32 (by decide +kernel)), rfl⟩
theorem dm_goes_47 : db tm_goes 47 .goto 34 50 := ⟨-13, o_167 255 243 (-13) (oWd (K := 32) (r := 15) wi_m_goes_32 (by decide +kernel)), rfl, rfl⟩
theorem dm_goes_50 : dl tm_goes 50 .iload_n .iload 2 51 := Or.inl ⟨2, o_28 (oW (K := 32) (r := 18) wi_m_goes_32 (by decide +kernel)), rfl, rfl⟩
theorem dm_goes_51 : db tm_goes 51 (.ifCond .ne) 63 54 := ⟨12, o_154 0 12 12 (oWd (K := 32) (r := 19) wi_m_goes_32 (by decide +kernel)), rfl, rfl⟩
theorem dm_goes_54 : dl tm_goes 54 .aload_n .aload 0 55 := Or.inl ⟨0, o_42 (oW (K := 32) (r := 22) wi_m_goes_32 (by decide +kernel)), rfl, rfl⟩
theorem dm_goes_55 : dn tm_goes 55 (.getfield 7) 3 58 := ⟨o_180 0 7 7 (oWd (K := 32) (r := 23) wi_m_goes_32 (by decide +kernel)), rfl⟩
theorem dm_goes_58 : dn tm_goes 58 (.iconst 5) 1 59 := ⟨o_8 (oW (K := 32) (r := 26) wi_m_goes_32 (by decide +kernel)), rfl⟩
theorem dm_goes_59 : dn tm_goes 59 (.iaload) 1 60 := ⟨o_46 (oW (K := 32) (r := 27) wi_m_goes_32 (by decide +kernel)), rfl⟩
theorem dm_goes_60 : db tm_goes 60 .goto 95 63 := ⟨35, o_167 0 35 35 (oWd (K := 32) (r := 28) wi_m_goes_32 (by decide +kernel)), rfl, rfl⟩
theorem dm_goes_63 : dl tm_goes 63 .iload_n .iload 2 64 := Or.inl ⟨2, o_28 (oW (K := 32) (r := 31) wi_m_goes_32 (by decide +kernel)), rfl, rfl⟩
def wl_m_goes_64 : List Nat := [4, 160, 0, 14, 42, 42, 182, 1, 153, 182, 1, 165, 167, 0, 19, 42, 28, 5, 160, 0, 8, 16, 67, 167, 0, 5, 16, 79, 182, 1, 174, 62, 42, 182, 1, 177, 29, 172]
theorem wi_m_goes_64 : oC tm_goes.2.1 64 wl_m_goes_64 = true := by decide +kernel
theorem dm_goes_64 : dn tm_goes 64 (.iconst 1) 1 65 := ⟨o_4 (oW (K := 64) (r := 0) wi_m_goes_64 (by decide +kernel)), rfl⟩
theorem dm_goes_65 : db tm_goes 65 (.if_icmp .ne) 79 68 := ⟨14, o_160 0 14 14 (oWd (K := 64) (r := 1) wi_m_goes_64 (by decide +kernel)), rfl, rfl⟩
theorem dm_goes_68 : dl tm_goes 68 .aload_n .aload 0 69 := Or.inl ⟨0, o_42 (oW (K := 64) (r := 4) wi_m_goes_64 (by decide +kernel)), rfl, rfl⟩
theorem dm_goes_69 : dl tm_goes 69 .aload_n .aload 0 70 := Or.inl ⟨0, o_42 (oW (K := 64) (r := 5) wi_m_goes_64 (by decide +kernel)), rfl, rfl⟩
theorem dm_goes_70 : dn tm_goes 70 (.invokevirtual 409) 3 73 := ⟨o_182 1 153 409 (oWd (K := 64) (r := 6) wi_m_goes_64 (by decide +kernel)), rfl⟩
theorem dm_goes_73 : dn tm_goes 73 (.invokevirtual 421) 3 76 := ⟨o_182 1 165 421 (oWd (K := 64) (r := 9) wi_m_goes_64 (by decide +kernel)), rfl⟩
theorem dm_goes_76 : db tm_goes 76 .goto 95 79 := ⟨19, o_167 0 19 19 (oWd (K := 64) (r := 12) wi_m_goes_64 (by decide +kernel)), rfl, rfl⟩
theorem dm_goes_79 : dl tm_goes 79 .aload_n .aload 0 80 := Or.inl ⟨0, o_42 (oW (K := 64) (r := 15) wi_m_goes_64 (by decide +kernel)), rfl, rfl⟩
theorem dm_goes_80 : dl tm_goes 80 .iload_n .iload 2 81 := Or.inl ⟨2, o_28 (oW (K := 64) (r := 16) wi_m_goes_64 (by decide +kernel)), rfl, rfl⟩
theorem dm_goes_81 : dn tm_goes 81 (.iconst 2) 1 82 := ⟨o_5 (oW (K := 64) (r := 17) wi_m_goes_64 (by decide +kernel)), rfl⟩
theorem dm_goes_82 : db tm_goes 82 (.if_icmp .ne) 90 85 := ⟨8, o_160 0 8 8 (oWd (K := 64) (r := 18) wi_m_goes_64 (by decide +kernel)), rfl, rfl⟩
theorem dm_goes_85 : dn tm_goes 85 (.bipush 67) 2 87 := ⟨o_16 67 67 (oWd (K := 64) (r := 21) wi_m_goes_64 (by decide +kernel)), rfl⟩
theorem dm_goes_87 : db tm_goes 87 .goto 92 90 := ⟨5, o_167 0 5 5 (oWd (K := 64) (r := 23) wi_m_goes_64 (by decide +kernel)), rfl, rfl⟩
theorem dm_goes_90 : dn tm_goes 90 (.bipush 79) 2 92 := ⟨o_16 79 79 (oWd (K := 64) (r := 26) wi_m_goes_64 (by decide +kernel)), rfl⟩
theorem dm_goes_92 : dn tm_goes 92 (.invokevirtual 430) 3 95 := ⟨o_182 1 174 430 (oWd (K := 64) (r := 28) wi_m_goes_64 (by decide +kernel)), rfl⟩
theorem dm_goes_95 : dl tm_goes 95 .istore_n .istore 3 96 := Or.inl ⟨3, o_62 (oW (K := 64) (r := 31) wi_m_goes_64 (by decide +kernel)), rfl, rfl⟩
def wl_m_goes_96 : List Nat := [42, 182, 1, 177, 29, 172]
theorem wi_m_goes_96 : oC tm_goes.2.1 96 wl_m_goes_96 = true := by decide +kernel
theorem dm_goes_96 : dl tm_goes 96 .aload_n .aload 0 97 := Or.inl ⟨0, o_42 (oW (K := 96) (r := 0) wi_m_goes_96 (by decide +kernel)), rfl, rfl⟩
theorem dm_goes_97 : dn tm_goes 97 (.invokevirtual 433) 3 100 := ⟨o_182 1 177 433 (oWd (K := 96) (r := 1) wi_m_goes_96 (by decide +kernel)), rfl⟩
theorem dm_goes_100 : dl tm_goes 100 .iload_n .iload 3 101 := Or.inl ⟨3, o_29 (oW (K := 96) (r := 4) wi_m_goes_96 (by decide +kernel)), rfl, rfl⟩
theorem dm_goes_101 : dn tm_goes 101 (.ireturn) 1 102 := ⟨o_172 (oW (K := 96) (r := 5) wi_m_goes_96 (by decide +kernel)), rfl⟩
def wl_m_stands_0 : List Nat := [42, 3, 181, 0, 146, 42, 27, 182, 0, 181, 154, 0, 6, 16, 254, 172, 42, 182, 1, 171, 3, 61, 42, 27, 182, 0, 173, 153, 0, 22, 28, 17, 0, 200, 163, 0, 15, 42]
theorem wi_m_stands_0 : oC tm_stands.2.1 0 wl_m_stands_0 = true := by decide +kernel
theorem dm_stands_0 : dl tm_stands 0 .aload_n .aload 0 1 := Or.inl ⟨0, o_42 (oW (K := 0) (r := 0) wi_m_stands_0 (by decide +kernel)), rfl, rfl⟩
theorem dm_stands_1 : dn tm_stands 1 (.iconst 0) 1 2 := ⟨o_3 (oW (K := 0) (r := 1) wi_m_stands_0 (by decide +kernel)), rfl⟩
theorem dm_stands_2 : dn tm_stands 2 (.putfield 146) 3 5 := ⟨o_181 0 146 146 (oWd (K := 0) (r := 2) wi_m_stands_0 (by decide +kernel)), rfl⟩
theorem dm_stands_5 : dl tm_stands 5 .aload_n .aload 0 6 := Or.inl ⟨0, o_42 (oW (K := 0) (r := 5) wi_m_stands_0 (by decide +kernel)), rfl, rfl⟩
theorem dm_stands_6 : dl tm_stands 6 .iload_n .iload 1 7 := Or.inl ⟨1, o_27 (oW (K := 0) (r := 6) wi_m_stands_0 (by decide +kernel)), rfl, rfl⟩
theorem dm_stands_7 : dn tm_stands 7 (.invokevirtual 181) 3 10 := ⟨o_182 0 181 181 (oWd (K := 0) (r := 7) wi_m_stands_0 (by decide +kernel)), rfl⟩
theorem dm_stands_10 : db tm_stands 10 (.ifCond .ne) 16 13 := ⟨6, o_154 0 6 6 (oWd (K := 0) (r := 10) wi_m_stands_0 (by decide +kernel)), rfl, rfl⟩
theorem dm_stands_13 : dn tm_stands 13 (.bipush (-2)) 2 15 := ⟨o_16 254 (-2) (oWd (K := 0) (r := 13) wi_m_stands_0 (by decide +kernel)), rfl⟩
theorem dm_stands_15 : dn tm_stands 15 (.ireturn) 1 16 := ⟨o_172 (oW (K := 0) (r := 15) wi_m_stands_0 (by decide +kernel)), rfl⟩
theorem dm_stands_16 : dl tm_stands 16 .aload_n .aload 0 17 := Or.inl ⟨0, o_42 (oW (K := 0) (r := 16) wi_m_stands_0 (by decide +kernel)), rfl, rfl⟩
theorem dm_stands_17 : dn tm_stands 17 (.invokevirtual 427) 3 20 := ⟨o_182 1 171 427 (oWd (K := 0) (r := 17) wi_m_stands_0 (by decide +kernel)), rfl⟩
theorem dm_stands_20 : dn tm_stands 20 (.iconst 0) 1 21 := ⟨o_3 (oW (K := 0) (r := 20) wi_m_stands_0 (by decide +kernel)), rfl⟩
theorem dm_stands_21 : dl tm_stands 21 .istore_n .istore 2 22 := Or.inl ⟨2, o_61 (oW (K := 0) (r := 21) wi_m_stands_0 (by decide +kernel)), rfl, rfl⟩
theorem dm_stands_22 : dl tm_stands 22 .aload_n .aload 0 23 := Or.inl ⟨0, o_42 (oW (K := 0) (r := 22) wi_m_stands_0 (by decide +kernel)), rfl, rfl⟩
theorem dm_stands_23 : dl tm_stands 23 .iload_n .iload 1 24 := Or.inl ⟨1, o_27 (oW (K := 0) (r := 23) wi_m_stands_0 (by decide +kernel)), rfl, rfl⟩
theorem dm_stands_24 : dn tm_stands 24 (.invokevirtual 173) 3 27 := ⟨o_182 0 173 173 (oWd (K := 0) (r := 24) wi_m_stands_0 (by decide +kernel)), rfl⟩
theorem dm_stands_27 : db tm_stands 27 (.ifCond .eq) 49 30 := ⟨22, o_153 0 22 22 (oWd (K := 0) (r := 27) wi_m_stands_0 (by decide +kernel)), rfl, rfl⟩
theorem dm_stands_30 : dl tm_stands 30 .iload_n .iload 2 31 := Or.inl ⟨2, o_28 (oW (K := 0) (r := 30) wi_m_stands_0 (by decide +kernel)), rfl, rfl⟩
theorem dm_stands_31 : dn tm_stands 31 (.sipush 200) 3 34 := ⟨o_17 0 200 200 (oWd (K := 0) (r := 31) wi_m_stands_0 (by decide +kernel)), rfl⟩
def wl_m_stands_32 : List Nat := [0, 200, 163, 0, 15, 42, 182, 1, 168, 87, 28, 4, 96, 61, 167, 255, 232, 42, 182, 1, 177, 28, 17, 0, 200, 164, 0, 7, 2, 167, 0, 4, 28, 172]
theorem wi_m_stands_32 : oC tm_stands.2.1 32 wl_m_stands_32 = true := by decide +kernel
theorem dm_stands_34 : db tm_stands 34 (.if_icmp .gt) 49 37 := ⟨15, o_163 0 15 15 (oWd (K := 32) (r := 2) wi_m_stands_32 (by decide +kernel)), rfl, rfl⟩
theorem dm_stands_37 : dl tm_stands 37 .aload_n .aload 0 38 := Or.inl ⟨0, o_42 (oW (K := 32) (r := 5) wi_m_stands_32 (by decide +kernel)), rfl, rfl⟩
theorem dm_stands_38 : dn tm_stands 38 (.invokevirtual 424) 3 41 := ⟨o_182 1 168 424 (oWd (K := 32) (r := 6) wi_m_stands_32 (by decide +kernel)), rfl⟩
theorem dm_stands_41 : dn tm_stands 41 (.pop) 1 42 := ⟨o_87 (oW (K := 32) (r := 9) wi_m_stands_32 (by decide +kernel)), rfl⟩
theorem dm_stands_42 : dl tm_stands 42 .iload_n .iload 2 43 := Or.inl ⟨2, o_28 (oW (K := 32) (r := 10) wi_m_stands_32 (by decide +kernel)), rfl, rfl⟩
theorem dm_stands_43 : dn tm_stands 43 (.iconst 1) 1 44 := ⟨o_4 (oW (K := 32) (r := 11) wi_m_stands_32 (by decide +kernel)), rfl⟩
theorem dm_stands_44 : dn tm_stands 44 (.iadd) 1 45 := ⟨o_96 (oW (K := 32) (r := 12) wi_m_stands_32 (by decide +kernel)), rfl⟩
theorem dm_stands_45 : dl tm_stands 45 .istore_n .istore 2 46 := Or.inl ⟨2, o_61 (oW (K := 32) (r := 13) wi_m_stands_32 (by decide +kernel)), rfl, rfl⟩
theorem dm_stands_46 : db tm_stands 46 .goto 22 49 := ⟨-24, o_167 255 232 (-24) (oWd (K := 32) (r := 14) wi_m_stands_32 (by decide +kernel)), rfl, rfl⟩
theorem dm_stands_49 : dl tm_stands 49 .aload_n .aload 0 50 := Or.inl ⟨0, o_42 (oW (K := 32) (r := 17) wi_m_stands_32 (by decide +kernel)), rfl, rfl⟩
theorem dm_stands_50 : dn tm_stands 50 (.invokevirtual 433) 3 53 := ⟨o_182 1 177 433 (oWd (K := 32) (r := 18) wi_m_stands_32 (by decide +kernel)), rfl⟩
theorem dm_stands_53 : dl tm_stands 53 .iload_n .iload 2 54 := Or.inl ⟨2, o_28 (oW (K := 32) (r := 21) wi_m_stands_32 (by decide +kernel)), rfl, rfl⟩
theorem dm_stands_54 : dn tm_stands 54 (.sipush 200) 3 57 := ⟨o_17 0 200 200 (oWd (K := 32) (r := 22) wi_m_stands_32 (by decide +kernel)), rfl⟩
theorem dm_stands_57 : db tm_stands 57 (.if_icmp .le) 64 60 := ⟨7, o_164 0 7 7 (oWd (K := 32) (r := 25) wi_m_stands_32 (by decide +kernel)), rfl, rfl⟩
theorem dm_stands_60 : dn tm_stands 60 (.iconst (-1)) 1 61 := ⟨o_2 (oW (K := 32) (r := 28) wi_m_stands_32 (by decide +kernel)), rfl⟩
theorem dm_stands_61 : db tm_stands 61 .goto 65 64 := ⟨4, o_167 0 4 4 (oWd (K := 32) (r := 29) wi_m_stands_32 (by decide +kernel)), rfl, rfl⟩
def wl_m_stands_64 : List Nat := [28, 172]
theorem wi_m_stands_64 : oC tm_stands.2.1 64 wl_m_stands_64 = true := by decide +kernel
theorem dm_stands_64 : dl tm_stands 64 .iload_n .iload 2 65 := Or.inl ⟨2, o_28 (oW (K := 64) (r := 0) wi_m_stands_64 (by decide +kernel)), rfl, rfl⟩
theorem dm_stands_65 : dn tm_stands 65 (.ireturn) 1 66 := ⟨o_172 (oW (K := 64) (r := 1) wi_m_stands_64 (by decide +kernel)), rfl⟩
def wl_m_stepCost_0 : List Nat := [42, 27, 182, 0, 169, 42, 28, 182, 0, 169, 96, 172]
theorem wi_m_stepCost_0 : oC tm_stepCost.2.1 0 wl_m_stepCost_0 = true := by decide +kernel
theorem dm_stepCost_0 : dl tm_stepCost 0 .aload_n .aload 0 1 := Or.inl ⟨0, o_42 (oW (K := 0) (r := 0) wi_m_stepCost_0 (by decide +kernel)), rfl, rfl⟩
theorem dm_stepCost_1 : dl tm_stepCost 1 .iload_n .iload 1 2 := Or.inl ⟨1, o_27 (oW (K := 0) (r := 1) wi_m_stepCost_0 (by decide +kernel)), rfl, rfl⟩
theorem dm_stepCost_2 : dn tm_stepCost 2 (.invokevirtual 169) 3 5 := ⟨o_182 0 169 169 (oWd (K := 0) (r := 2) wi_m_stepCost_0 (by decide +kernel)), rfl⟩
theorem dm_stepCost_5 : dl tm_stepCost 5 .aload_n .aload 0 6 := Or.inl ⟨0, o_42 (oW (K := 0) (r := 5) wi_m_stepCost_0 (by decide +kernel)), rfl, rfl⟩
theorem dm_stepCost_6 : dl tm_stepCost 6 .iload_n .iload 2 7 := Or.inl ⟨2, o_28 (oW (K := 0) (r := 6) wi_m_stepCost_0 (by decide +kernel)), rfl, rfl⟩
theorem dm_stepCost_7 : dn tm_stepCost 7 (.invokevirtual 169) 3 10 := ⟨o_182 0 169 169 (oWd (K := 0) (r := 7) wi_m_stepCost_0 (by decide +kernel)), rfl⟩
theorem dm_stepCost_10 : dn tm_stepCost 10 (.iadd) 1 11 := ⟨o_96 (oW (K := 0) (r := 10) wi_m_stepCost_0 (by decide +kernel)), rfl⟩
theorem dm_stepCost_11 : dn tm_stepCost 11 (.ireturn) 1 12 := ⟨o_172 (oW (K := 0) (r := 11) wi_m_stepCost_0 (by decide +kernel)), rfl⟩
def wl_m_findsCosts_0 : List Nat := [3, 62, 29, 42, 180, 0, 158, 162, 0, 27, 42, 180, 0, 77, 29, 29, 27, 160, 0, 7, 3, 167, 0, 6, 19, 1, 180, 79, 132, 3, 1, 167, 255, 227, 3, 62, 29, 42]
theorem wi_m_findsCosts_0 : oC tm_findsCosts.2.1 0 wl_m_findsCosts_0 = true := by decide +kernel
theorem dm_findsCosts_0 : dn tm_findsCosts 0 (.iconst 0) 1 1 := ⟨o_3 (oW (K := 0) (r := 0) wi_m_findsCosts_0 (by decide +kernel)), rfl⟩
theorem dm_findsCosts_1 : dl tm_findsCosts 1 .istore_n .istore 3 2 := Or.inl ⟨3, o_62 (oW (K := 0) (r := 1) wi_m_findsCosts_0 (by decide +kernel)), rfl, rfl⟩
theorem dm_findsCosts_2 : dl tm_findsCosts 2 .iload_n .iload 3 3 := Or.inl ⟨3, o_29 (oW (K := 0) (r := 2) wi_m_findsCosts_0 (by decide +kernel)), rfl, rfl⟩
theorem dm_findsCosts_3 : dl tm_findsCosts 3 .aload_n .aload 0 4 := Or.inl ⟨0, o_42 (oW (K := 0) (r := 3) wi_m_findsCosts_0 (by decide +kernel)), rfl, rfl⟩
theorem dm_findsCosts_4 : dn tm_findsCosts 4 (.getfield 158) 3 7 := ⟨o_180 0 158 158 (oWd (K := 0) (r := 4) wi_m_findsCosts_0 (by decide +kernel)), rfl⟩
theorem dm_findsCosts_7 : db tm_findsCosts 7 (.if_icmp .ge) 34 10 := ⟨27, o_162 0 27 27 (oWd (K := 0) (r := 7) wi_m_findsCosts_0 (by decide +kernel)), rfl, rfl⟩
theorem dm_findsCosts_10 : dl tm_findsCosts 10 .aload_n .aload 0 11 := Or.inl ⟨0, o_42 (oW (K := 0) (r := 10) wi_m_findsCosts_0 (by decide +kernel)), rfl, rfl⟩
theorem dm_findsCosts_11 : dn tm_findsCosts 11 (.getfield 77) 3 14 := ⟨o_180 0 77 77 (oWd (K := 0) (r := 11) wi_m_findsCosts_0 (by decide +kernel)), rfl⟩
theorem dm_findsCosts_14 : dl tm_findsCosts 14 .iload_n .iload 3 15 := Or.inl ⟨3, o_29 (oW (K := 0) (r := 14) wi_m_findsCosts_0 (by decide +kernel)), rfl, rfl⟩
theorem dm_findsCosts_15 : dl tm_findsCosts 15 .iload_n .iload 3 16 := Or.inl ⟨3, o_29 (oW (K := 0) (r := 15) wi_m_findsCosts_0 (by decide +kernel)), rfl, rfl⟩
theorem dm_findsCosts_16 : dl tm_findsCosts 16 .iload_n .iload 1 17 := Or.inl ⟨1, o_27 (oW (K := 0) (r := 16) wi_m_findsCosts_0 (by decide +kernel)), rfl, rfl⟩
theorem dm_findsCosts_17 : db tm_findsCosts 17 (.if_icmp .ne) 24 20 := ⟨7, o_160 0 7 7 (oWd (K := 0) (r := 17) wi_m_findsCosts_0 (by decide +kernel)), rfl, rfl⟩
theorem dm_findsCosts_20 : dn tm_findsCosts 20 (.iconst 0) 1 21 := ⟨o_3 (oW (K := 0) (r := 20) wi_m_findsCosts_0 (by decide +kernel)), rfl⟩
theorem dm_findsCosts_21 : db tm_findsCosts 21 .goto 27 24 := ⟨6, o_167 0 6 6 (oWd (K := 0) (r := 21) wi_m_findsCosts_0 (by decide +kernel)), rfl, rfl⟩
theorem dm_findsCosts_24 : dn tm_findsCosts 24 (.ldc_w 436) 3 27 := ⟨o_19 1 180 436 (oWd (K := 0) (r := 24) wi_m_findsCosts_0 (by decide +kernel)), rfl⟩
theorem dm_findsCosts_27 : dn tm_findsCosts 27 (.iastore) 1 28 := ⟨o_79 (oW (K := 0) (r := 27) wi_m_findsCosts_0 (by decide +kernel)), rfl⟩
theorem dm_findsCosts_28 : dn tm_findsCosts 28 (.iinc 3 1) 3 31 := ⟨o_132 3 1 1 (oWd (K := 0) (r := 28) wi_m_findsCosts_0 (by decide +kernel)), rfl⟩
theorem dm_findsCosts_31 : db tm_findsCosts 31 .goto 2 34 := ⟨-29, o_167 255 227 (-29) (oWd (K := 0) (r := 31) wi_m_findsCosts_0 (by decide +kernel)), rfl, rfl⟩
def wl_m_findsCosts_32 : List Nat := [255, 227, 3, 62, 29, 42, 180, 0, 158, 162, 0, 141, 3, 54, 4, 21, 4, 42, 180, 0, 158, 162, 0, 123, 3, 54, 5, 21, 5, 42, 180, 0, 158, 162, 0, 105, 42, 42]
theorem wi_m_findsCosts_32 : oC tm_findsCosts.2.1 32 wl_m_findsCosts_32 = true := by decide +kernel
theorem dm_findsCosts_34 : dn tm_findsCosts 34 (.iconst 0) 1 35 := ⟨o_3 (oW (K := 32) (r := 2) wi_m_findsCosts_32 (by decide +kernel)), rfl⟩
theorem dm_findsCosts_35 : dl tm_findsCosts 35 .istore_n .istore 3 36 := Or.inl ⟨3, o_62 (oW (K := 32) (r := 3) wi_m_findsCosts_32 (by decide +kernel)), rfl, rfl⟩
theorem dm_findsCosts_36 : dl tm_findsCosts 36 .iload_n .iload 3 37 := Or.inl ⟨3, o_29 (oW (K := 32) (r := 4) wi_m_findsCosts_32 (by decide +kernel)), rfl, rfl⟩
theorem dm_findsCosts_37 : dl tm_findsCosts 37 .aload_n .aload 0 38 := Or.inl ⟨0, o_42 (oW (K := 32) (r := 5) wi_m_findsCosts_32 (by decide +kernel)), rfl, rfl⟩
theorem dm_findsCosts_38 : dn tm_findsCosts 38 (.getfield 158) 3 41 := ⟨o_180 0 158 158 (oWd (K := 32) (r := 6) wi_m_findsCosts_32 (by decide +kernel)), rfl⟩
theorem dm_findsCosts_41 : db tm_findsCosts 41 (.if_icmp .ge) 182 44 := ⟨141, o_162 0 141 141 (oWd (K := 32) (r := 9) wi_m_findsCosts_32 (by decide +kernel)), rfl, rfl⟩
theorem dm_findsCosts_44 : dn tm_findsCosts 44 (.iconst 0) 1 45 := ⟨o_3 (oW (K := 32) (r := 12) wi_m_findsCosts_32 (by decide +kernel)), rfl⟩
theorem dm_findsCosts_45 : dl tm_findsCosts 45 .istore_n .istore 4 47 := Or.inr ⟨o_54 4 (oW (K := 32) (r := 13) wi_m_findsCosts_32 (by decide +kernel)), rfl⟩
theorem dm_findsCosts_47 : dl tm_findsCosts 47 .iload_n .iload 4 49 := Or.inr ⟨o_21 4 (oW (K := 32) (r := 15) wi_m_findsCosts_32 (by decide +kernel)), rfl⟩
theorem dm_findsCosts_49 : dl tm_findsCosts 49 .aload_n .aload 0 50 := Or.inl ⟨0, o_42 (oW (K := 32) (r := 17) wi_m_findsCosts_32 (by decide +kernel)), rfl, rfl⟩
theorem dm_findsCosts_50 : dn tm_findsCosts 50 (.getfield 158) 3 53 := ⟨o_180 0 158 158 (oWd (K := 32) (r := 18) wi_m_findsCosts_32 (by decide +kernel)), rfl⟩
theorem dm_findsCosts_53 : db tm_findsCosts 53 (.if_icmp .ge) 176 56 := ⟨123, o_162 0 123 123 (oWd (K := 32) (r := 21) wi_m_findsCosts_32 (by decide +kernel)), rfl, rfl⟩
theorem dm_findsCosts_56 : dn tm_findsCosts 56 (.iconst 0) 1 57 := ⟨o_3 (oW (K := 32) (r := 24) wi_m_findsCosts_32 (by decide +kernel)), rfl⟩
theorem dm_findsCosts_57 : dl tm_findsCosts 57 .istore_n .istore 5 59 := Or.inr ⟨o_54 5 (oW (K := 32) (r := 25) wi_m_findsCosts_32 (by decide +kernel)), rfl⟩
theorem dm_findsCosts_59 : dl tm_findsCosts 59 .iload_n .iload 5 61 := Or.inr ⟨o_21 5 (oW (K := 32) (r := 27) wi_m_findsCosts_32 (by decide +kernel)), rfl⟩
theorem dm_findsCosts_61 : dl tm_findsCosts 61 .aload_n .aload 0 62 := Or.inl ⟨0, o_42 (oW (K := 32) (r := 29) wi_m_findsCosts_32 (by decide +kernel)), rfl, rfl⟩
theorem dm_findsCosts_62 : dn tm_findsCosts 62 (.getfield 158) 3 65 := ⟨o_180 0 158 158 (oWd (K := 32) (r := 30) wi_m_findsCosts_32 (by decide +kernel)), rfl⟩
def wl_m_findsCosts_64 : List Nat := [158, 162, 0, 105, 42, 42, 180, 0, 68, 21, 4, 46, 21, 5, 182, 1, 104, 153, 0, 83, 42, 180, 0, 77, 21, 4, 46, 19, 1, 180, 160, 0, 6, 167, 0, 67, 28, 153]
theorem wi_m_findsCosts_64 : oC tm_findsCosts.2.1 64 wl_m_findsCosts_64 = true := by decide +kernel
theorem dm_findsCosts_65 : db tm_findsCosts 65 (.if_icmp .ge) 170 68 := ⟨105, o_162 0 105 105 (oWd (K := 64) (r := 1) wi_m_findsCosts_64 (by decide +kernel)), rfl, rfl⟩
theorem dm_findsCosts_68 : dl tm_findsCosts 68 .aload_n .aload 0 69 := Or.inl ⟨0, o_42 (oW (K := 64) (r := 4) wi_m_findsCosts_64 (by decide +kernel)), rfl, rfl⟩
theorem dm_findsCosts_69 : dl tm_findsCosts 69 .aload_n .aload 0 70 := Or.inl ⟨0, o_42 (oW (K := 64) (r := 5) wi_m_findsCosts_64 (by decide +kernel)), rfl, rfl⟩
theorem dm_findsCosts_70 : dn tm_findsCosts 70 (.getfield 68) 3 73 := ⟨o_180 0 68 68 (oWd (K := 64) (r := 6) wi_m_findsCosts_64 (by decide +kernel)), rfl⟩
theorem dm_findsCosts_73 : dl tm_findsCosts 73 .iload_n .iload 4 75 := Or.inr ⟨o_21 4 (oW (K := 64) (r := 9) wi_m_findsCosts_64 (by decide +kernel)), rfl⟩
theorem dm_findsCosts_75 : dn tm_findsCosts 75 (.iaload) 1 76 := ⟨o_46 (oW (K := 64) (r := 11) wi_m_findsCosts_64 (by decide +kernel)), rfl⟩
theorem dm_findsCosts_76 : dl tm_findsCosts 76 .iload_n .iload 5 78 := Or.inr ⟨o_21 5 (oW (K := 64) (r := 12) wi_m_findsCosts_64 (by decide +kernel)), rfl⟩
theorem dm_findsCosts_78 : dn tm_findsCosts 78 (.invokevirtual 360) 3 81 := ⟨o_182 1 104 360 (oWd (K := 64) (r := 14) wi_m_findsCosts_64 (by decide +kernel)), rfl⟩
theorem dm_findsCosts_81 : db tm_findsCosts 81 (.ifCond .eq) 164 84 := ⟨83, o_153 0 83 83 (oWd (K := 64) (r := 17) wi_m_findsCosts_64 (by decide +kernel)), rfl, rfl⟩
theorem dm_findsCosts_84 : dl tm_findsCosts 84 .aload_n .aload 0 85 := Or.inl ⟨0, o_42 (oW (K := 64) (r := 20) wi_m_findsCosts_64 (by decide +kernel)), rfl, rfl⟩
theorem dm_findsCosts_85 : dn tm_findsCosts 85 (.getfield 77) 3 88 := ⟨o_180 0 77 77 (oWd (K := 64) (r := 21) wi_m_findsCosts_64 (by decide +kernel)), rfl⟩
theorem dm_findsCosts_88 : dl tm_findsCosts 88 .iload_n .iload 4 90 := Or.inr ⟨o_21 4 (oW (K := 64) (r := 24) wi_m_findsCosts_64 (by decide +kernel)), rfl⟩
theorem dm_findsCosts_90 : dn tm_findsCosts 90 (.iaload) 1 91 := ⟨o_46 (oW (K := 64) (r := 26) wi_m_findsCosts_64 (by decide +kernel)), rfl⟩
theorem dm_findsCosts_91 : dn tm_findsCosts 91 (.ldc_w 436) 3 94 := ⟨o_19 1 180 436 (oWd (K := 64) (r := 27) wi_m_findsCosts_64 (by decide +kernel)), rfl⟩
theorem dm_findsCosts_94 : db tm_findsCosts 94 (.if_icmp .ne) 100 97 := ⟨6, o_160 0 6 6 (oWd (K := 64) (r := 30) wi_m_findsCosts_64 (by decide +kernel)), rfl, rfl⟩
def wl_m_findsCosts_96 : List Nat := [6, 167, 0, 67, 28, 153, 0, 25, 42, 42, 180, 0, 77, 21, 4, 46, 42, 21, 4, 21, 5, 182, 1, 181, 182, 1, 129, 167, 0, 19, 42, 180, 0, 77, 21, 4, 46, 42]
theorem wi_m_findsCosts_96 : oC tm_findsCosts.2.1 96 wl_m_findsCosts_96 = true := by decide +kernel
theorem dm_findsCosts_97 : db tm_findsCosts 97 .goto 164 100 := ⟨67, o_167 0 67 67 (oWd (K := 96) (r := 1) wi_m_findsCosts_96 (by decide +kernel)), rfl, rfl⟩
theorem dm_findsCosts_100 : dl tm_findsCosts 100 .iload_n .iload 2 101 := Or.inl ⟨2, o_28 (oW (K := 96) (r := 4) wi_m_findsCosts_96 (by decide +kernel)), rfl, rfl⟩
theorem dm_findsCosts_101 : db tm_findsCosts 101 (.ifCond .eq) 126 104 := ⟨25, o_153 0 25 25 (oWd (K := 96) (r := 5) wi_m_findsCosts_96 (by decide +kernel)), rfl, rfl⟩
theorem dm_findsCosts_104 : dl tm_findsCosts 104 .aload_n .aload 0 105 := Or.inl ⟨0, o_42 (oW (K := 96) (r := 8) wi_m_findsCosts_96 (by decide +kernel)), rfl, rfl⟩
theorem dm_findsCosts_105 : dl tm_findsCosts 105 .aload_n .aload 0 106 := Or.inl ⟨0, o_42 (oW (K := 96) (r := 9) wi_m_findsCosts_96 (by decide +kernel)), rfl, rfl⟩
theorem dm_findsCosts_106 : dn tm_findsCosts 106 (.getfield 77) 3 109 := ⟨o_180 0 77 77 (oWd (K := 96) (r := 10) wi_m_findsCosts_96 (by decide +kernel)), rfl⟩
theorem dm_findsCosts_109 : dl tm_findsCosts 109 .iload_n .iload 4 111 := Or.inr ⟨o_21 4 (oW (K := 96) (r := 13) wi_m_findsCosts_96 (by decide +kernel)), rfl⟩
theorem dm_findsCosts_111 : dn tm_findsCosts 111 (.iaload) 1 112 := ⟨o_46 (oW (K := 96) (r := 15) wi_m_findsCosts_96 (by decide +kernel)), rfl⟩
theorem dm_findsCosts_112 : dl tm_findsCosts 112 .aload_n .aload 0 113 := Or.inl ⟨0, o_42 (oW (K := 96) (r := 16) wi_m_findsCosts_96 (by decide +kernel)), rfl, rfl⟩
theorem dm_findsCosts_113 : dl tm_findsCosts 113 .iload_n .iload 4 115 := Or.inr ⟨o_21 4 (oW (K := 96) (r := 17) wi_m_findsCosts_96 (by decide +kernel)), rfl⟩
theorem dm_findsCosts_115 : dl tm_findsCosts 115 .iload_n .iload 5 117 := Or.inr ⟨o_21 5 (oW (K := 96) (r := 19) wi_m_findsCosts_96 (by decide +kernel)), rfl⟩
theorem dm_findsCosts_117 : dn tm_findsCosts 117 (.invokevirtual 437) 3 120 := ⟨o_182 1 181 437 (oWd (K := 96) (r := 21) wi_m_findsCosts_96 (by decide +kernel)), rfl⟩
theorem dm_findsCosts_120 : dn tm_findsCosts 120 (.invokevirtual 385) 3 123 := ⟨o_182 1 129 385 (oWd (K := 96) (r := 24) wi_m_findsCosts_96 (by decide +kernel)), rfl⟩
theorem dm_findsCosts_123 : db tm_findsCosts 123 .goto 142 126 := ⟨19, o_167 0 19 19 (oWd (K := 96) (r := 27) wi_m_findsCosts_96 (by decide +kernel)), rfl, rfl⟩
theorem dm_findsCosts_126 : dl tm_findsCosts 126 .aload_n .aload 0 127 := Or.inl ⟨0, o_42 (oW (K := 96) (r := 30) wi_m_findsCosts_96 (by decide +kernel)), rfl, rfl⟩
theorem dm_findsCosts_127 : dn tm_findsCosts 127 (.getfield 77) 3 130 := ⟨o_180 0 77 77 (oWd (K := 96) (r := 31) wi_m_findsCosts_96 (by decide +kernel)), rfl⟩
def wl_m_findsCosts_128 : List Nat := [0, 77, 21, 4, 46, 42, 21, 4, 21, 5, 182, 1, 181, 96, 54, 6, 42, 180, 0, 77, 21, 5, 42, 42, 180, 0, 77, 21, 5, 46, 21, 6, 182, 1, 144, 79, 132, 5]
theorem wi_m_findsCosts_128 : oC tm_findsCosts.2.1 128 wl_m_findsCosts_128 = true := by decide +kernel
theorem dm_findsCosts_130 : dl tm_findsCosts 130 .iload_n .iload 4 132 := Or.inr ⟨o_21 4 (oW (K := 128) (r := 2) wi_m_findsCosts_128 (by decide +kernel)), rfl⟩
theorem dm_findsCosts_132 : dn tm_findsCosts 132 (.iaload) 1 133 := ⟨o_46 (oW (K := 128) (r := 4) wi_m_findsCosts_128 (by decide +kernel)), rfl⟩
theorem dm_findsCosts_133 : dl tm_findsCosts 133 .aload_n .aload 0 134 := Or.inl ⟨0, o_42 (oW (K := 128) (r := 5) wi_m_findsCosts_128 (by decide +kernel)), rfl, rfl⟩
theorem dm_findsCosts_134 : dl tm_findsCosts 134 .iload_n .iload 4 136 := Or.inr ⟨o_21 4 (oW (K := 128) (r := 6) wi_m_findsCosts_128 (by decide +kernel)), rfl⟩
theorem dm_findsCosts_136 : dl tm_findsCosts 136 .iload_n .iload 5 138 := Or.inr ⟨o_21 5 (oW (K := 128) (r := 8) wi_m_findsCosts_128 (by decide +kernel)), rfl⟩
theorem dm_findsCosts_138 : dn tm_findsCosts 138 (.invokevirtual 437) 3 141 := ⟨o_182 1 181 437 (oWd (K := 128) (r := 10) wi_m_findsCosts_128 (by decide +kernel)), rfl⟩
theorem dm_findsCosts_141 : dn tm_findsCosts 141 (.iadd) 1 142 := ⟨o_96 (oW (K := 128) (r := 13) wi_m_findsCosts_128 (by decide +kernel)), rfl⟩
theorem dm_findsCosts_142 : dl tm_findsCosts 142 .istore_n .istore 6 144 := Or.inr ⟨o_54 6 (oW (K := 128) (r := 14) wi_m_findsCosts_128 (by decide +kernel)), rfl⟩
theorem dm_findsCosts_144 : dl tm_findsCosts 144 .aload_n .aload 0 145 := Or.inl ⟨0, o_42 (oW (K := 128) (r := 16) wi_m_findsCosts_128 (by decide +kernel)), rfl, rfl⟩
theorem dm_findsCosts_145 : dn tm_findsCosts 145 (.getfield 77) 3 148 := ⟨o_180 0 77 77 (oWd (K := 128) (r := 17) wi_m_findsCosts_128 (by decide +kernel)), rfl⟩
theorem dm_findsCosts_148 : dl tm_findsCosts 148 .iload_n .iload 5 150 := Or.inr ⟨o_21 5 (oW (K := 128) (r := 20) wi_m_findsCosts_128 (by decide +kernel)), rfl⟩
theorem dm_findsCosts_150 : dl tm_findsCosts 150 .aload_n .aload 0 151 := Or.inl ⟨0, o_42 (oW (K := 128) (r := 22) wi_m_findsCosts_128 (by decide +kernel)), rfl, rfl⟩
theorem dm_findsCosts_151 : dl tm_findsCosts 151 .aload_n .aload 0 152 := Or.inl ⟨0, o_42 (oW (K := 128) (r := 23) wi_m_findsCosts_128 (by decide +kernel)), rfl, rfl⟩
theorem dm_findsCosts_152 : dn tm_findsCosts 152 (.getfield 77) 3 155 := ⟨o_180 0 77 77 (oWd (K := 128) (r := 24) wi_m_findsCosts_128 (by decide +kernel)), rfl⟩
theorem dm_findsCosts_155 : dl tm_findsCosts 155 .iload_n .iload 5 157 := Or.inr ⟨o_21 5 (oW (K := 128) (r := 27) wi_m_findsCosts_128 (by decide +kernel)), rfl⟩
theorem dm_findsCosts_157 : dn tm_findsCosts 157 (.iaload) 1 158 := ⟨o_46 (oW (K := 128) (r := 29) wi_m_findsCosts_128 (by decide +kernel)), rfl⟩
theorem dm_findsCosts_158 : dl tm_findsCosts 158 .iload_n .iload 6 160 := Or.inr ⟨o_21 6 (oW (K := 128) (r := 30) wi_m_findsCosts_128 (by decide +kernel)), rfl⟩
def wl_m_findsCosts_160 : List Nat := [182, 1, 144, 79, 132, 5, 1, 167, 255, 148, 132, 4, 1, 167, 255, 130, 132, 3, 1, 167, 255, 113, 177]
theorem wi_m_findsCosts_160 : oC tm_findsCosts.2.1 160 wl_m_findsCosts_160 = true := by decide +kernel
theorem dm_findsCosts_160 : dn tm_findsCosts 160 (.invokevirtual 400) 3 163 := ⟨o_182 1 144 400 (oWd (K := 160) (r := 0) wi_m_findsCosts_160 (by decide +kernel)), rfl⟩
theorem dm_findsCosts_163 : dn tm_findsCosts 163 (.iastore) 1 164 := ⟨o_79 (oW (K := 160) (r := 3) wi_m_findsCosts_160 (by decide +kernel)), rfl⟩
theorem dm_findsCosts_164 : dn tm_findsCosts 164 (.iinc 5 1) 3 167 := ⟨o_132 5 1 1 (oWd (K := 160) (r := 4) wi_m_findsCosts_160 (by decide +kernel)), rfl⟩
theorem dm_findsCosts_167 : db tm_findsCosts 167 .goto 59 170 := ⟨-108, o_167 255 148 (-108) (oWd (K := 160) (r := 7) wi_m_findsCosts_160 (by decide +kernel)), rfl, rfl⟩
theorem dm_findsCosts_170 : dn tm_findsCosts 170 (.iinc 4 1) 3 173 := ⟨o_132 4 1 1 (oWd (K := 160) (r := 10) wi_m_findsCosts_160 (by decide +kernel)), rfl⟩
theorem dm_findsCosts_173 : db tm_findsCosts 173 .goto 47 176 := ⟨-126, o_167 255 130 (-126) (oWd (K := 160) (r := 13) wi_m_findsCosts_160 (by decide +kernel)), rfl, rfl⟩
theorem dm_findsCosts_176 : dn tm_findsCosts 176 (.iinc 3 1) 3 179 := ⟨o_132 3 1 1 (oWd (K := 160) (r := 16) wi_m_findsCosts_160 (by decide +kernel)), rfl⟩
theorem dm_findsCosts_179 : db tm_findsCosts 179 .goto 36 182 := ⟨-143, o_167 255 113 (-143) (oWd (K := 160) (r := 19) wi_m_findsCosts_160 (by decide +kernel)), rfl, rfl⟩
theorem dm_findsCosts_182 : dn tm_findsCosts 182 (.return_) 1 183 := ⟨o_177 (oW (K := 160) (r := 22) wi_m_findsCosts_160 (by decide +kernel)), rfl⟩
def wl_m_costOf_0 : List Nat := [42, 27, 182, 0, 181, 153, 0, 11, 42, 28, 182, 0, 181, 154, 0, 5, 2, 172, 42, 27, 29, 182, 1, 184, 42, 180, 0, 77, 28, 46, 19, 1, 180, 160, 0, 7, 2, 167]
theorem wi_m_costOf_0 : oC tm_costOf.2.1 0 wl_m_costOf_0 = true := by decide +kernel
theorem dm_costOf_0 : dl tm_costOf 0 .aload_n .aload 0 1 := Or.inl ⟨0, o_42 (oW (K := 0) (r := 0) wi_m_costOf_0 (by decide +kernel)), rfl, rfl⟩
theorem dm_costOf_1 : dl tm_costOf 1 .iload_n .iload 1 2 := Or.inl ⟨1, o_27 (oW (K := 0) (r := 1) wi_m_costOf_0 (by decide +kernel)), rfl, rfl⟩
theorem dm_costOf_2 : dn tm_costOf 2 (.invokevirtual 181) 3 5 := ⟨o_182 0 181 181 (oWd (K := 0) (r := 2) wi_m_costOf_0 (by decide +kernel)), rfl⟩
theorem dm_costOf_5 : db tm_costOf 5 (.ifCond .eq) 16 8 := ⟨11, o_153 0 11 11 (oWd (K := 0) (r := 5) wi_m_costOf_0 (by decide +kernel)), rfl, rfl⟩
theorem dm_costOf_8 : dl tm_costOf 8 .aload_n .aload 0 9 := Or.inl ⟨0, o_42 (oW (K := 0) (r := 8) wi_m_costOf_0 (by decide +kernel)), rfl, rfl⟩
theorem dm_costOf_9 : dl tm_costOf 9 .iload_n .iload 2 10 := Or.inl ⟨2, o_28 (oW (K := 0) (r := 9) wi_m_costOf_0 (by decide +kernel)), rfl, rfl⟩
theorem dm_costOf_10 : dn tm_costOf 10 (.invokevirtual 181) 3 13 := ⟨o_182 0 181 181 (oWd (K := 0) (r := 10) wi_m_costOf_0 (by decide +kernel)), rfl⟩
theorem dm_costOf_13 : db tm_costOf 13 (.ifCond .ne) 18 16 := ⟨5, o_154 0 5 5 (oWd (K := 0) (r := 13) wi_m_costOf_0 (by decide +kernel)), rfl, rfl⟩
theorem dm_costOf_16 : dn tm_costOf 16 (.iconst (-1)) 1 17 := ⟨o_2 (oW (K := 0) (r := 16) wi_m_costOf_0 (by decide +kernel)), rfl⟩
theorem dm_costOf_17 : dn tm_costOf 17 (.ireturn) 1 18 := ⟨o_172 (oW (K := 0) (r := 17) wi_m_costOf_0 (by decide +kernel)), rfl⟩
theorem dm_costOf_18 : dl tm_costOf 18 .aload_n .aload 0 19 := Or.inl ⟨0, o_42 (oW (K := 0) (r := 18) wi_m_costOf_0 (by decide +kernel)), rfl, rfl⟩
theorem dm_costOf_19 : dl tm_costOf 19 .iload_n .iload 1 20 := Or.inl ⟨1, o_27 (oW (K := 0) (r := 19) wi_m_costOf_0 (by decide +kernel)), rfl, rfl⟩
theorem dm_costOf_20 : dl tm_costOf 20 .iload_n .iload 3 21 := Or.inl ⟨3, o_29 (oW (K := 0) (r := 20) wi_m_costOf_0 (by decide +kernel)), rfl, rfl⟩
theorem dm_costOf_21 : dn tm_costOf 21 (.invokevirtual 440) 3 24 := ⟨o_182 1 184 440 (oWd (K := 0) (r := 21) wi_m_costOf_0 (by decide +kernel)), rfl⟩
theorem dm_costOf_24 : dl tm_costOf 24 .aload_n .aload 0 25 := Or.inl ⟨0, o_42 (oW (K := 0) (r := 24) wi_m_costOf_0 (by decide +kernel)), rfl, rfl⟩
theorem dm_costOf_25 : dn tm_costOf 25 (.getfield 77) 3 28 := ⟨o_180 0 77 77 (oWd (K := 0) (r := 25) wi_m_costOf_0 (by decide +kernel)), rfl⟩
theorem dm_costOf_28 : dl tm_costOf 28 .iload_n .iload 2 29 := Or.inl ⟨2, o_28 (oW (K := 0) (r := 28) wi_m_costOf_0 (by decide +kernel)), rfl, rfl⟩
theorem dm_costOf_29 : dn tm_costOf 29 (.iaload) 1 30 := ⟨o_46 (oW (K := 0) (r := 29) wi_m_costOf_0 (by decide +kernel)), rfl⟩
theorem dm_costOf_30 : dn tm_costOf 30 (.ldc_w 436) 3 33 := ⟨o_19 1 180 436 (oWd (K := 0) (r := 30) wi_m_costOf_0 (by decide +kernel)), rfl⟩
def wl_m_costOf_32 : List Nat := [180, 160, 0, 7, 2, 167, 0, 9, 42, 180, 0, 77, 28, 46, 172]
theorem wi_m_costOf_32 : oC tm_costOf.2.1 32 wl_m_costOf_32 = true := by decide +kernel
theorem dm_costOf_33 : db tm_costOf 33 (.if_icmp .ne) 40 36 := ⟨7, o_160 0 7 7 (oWd (K := 32) (r := 1) wi_m_costOf_32 (by decide +kernel)), rfl, rfl⟩
theorem dm_costOf_36 : dn tm_costOf 36 (.iconst (-1)) 1 37 := ⟨o_2 (oW (K := 32) (r := 4) wi_m_costOf_32 (by decide +kernel)), rfl⟩
theorem dm_costOf_37 : db tm_costOf 37 .goto 46 40 := ⟨9, o_167 0 9 9 (oWd (K := 32) (r := 5) wi_m_costOf_32 (by decide +kernel)), rfl, rfl⟩
theorem dm_costOf_40 : dl tm_costOf 40 .aload_n .aload 0 41 := Or.inl ⟨0, o_42 (oW (K := 32) (r := 8) wi_m_costOf_32 (by decide +kernel)), rfl, rfl⟩
theorem dm_costOf_41 : dn tm_costOf 41 (.getfield 77) 3 44 := ⟨o_180 0 77 77 (oWd (K := 32) (r := 9) wi_m_costOf_32 (by decide +kernel)), rfl⟩
theorem dm_costOf_44 : dl tm_costOf 44 .iload_n .iload 2 45 := Or.inl ⟨2, o_28 (oW (K := 32) (r := 12) wi_m_costOf_32 (by decide +kernel)), rfl, rfl⟩
theorem dm_costOf_45 : dn tm_costOf 45 (.iaload) 1 46 := ⟨o_46 (oW (K := 32) (r := 13) wi_m_costOf_32 (by decide +kernel)), rfl⟩
theorem dm_costOf_46 : dn tm_costOf 46 (.ireturn) 1 47 := ⟨o_172 (oW (K := 32) (r := 14) wi_m_costOf_32 (by decide +kernel)), rfl⟩
def wl_m_hears_0 : List Nat := [42, 3, 181, 0, 146, 42, 27, 28, 4, 182, 1, 188, 172]
theorem wi_m_hears_0 : oC tm_hears.2.1 0 wl_m_hears_0 = true := by decide +kernel
theorem dm_hears_0 : dl tm_hears 0 .aload_n .aload 0 1 := Or.inl ⟨0, o_42 (oW (K := 0) (r := 0) wi_m_hears_0 (by decide +kernel)), rfl, rfl⟩
theorem dm_hears_1 : dn tm_hears 1 (.iconst 0) 1 2 := ⟨o_3 (oW (K := 0) (r := 1) wi_m_hears_0 (by decide +kernel)), rfl⟩
theorem dm_hears_2 : dn tm_hears 2 (.putfield 146) 3 5 := ⟨o_181 0 146 146 (oWd (K := 0) (r := 2) wi_m_hears_0 (by decide +kernel)), rfl⟩
theorem dm_hears_5 : dl tm_hears 5 .aload_n .aload 0 6 := Or.inl ⟨0, o_42 (oW (K := 0) (r := 5) wi_m_hears_0 (by decide +kernel)), rfl, rfl⟩
theorem dm_hears_6 : dl tm_hears 6 .iload_n .iload 1 7 := Or.inl ⟨1, o_27 (oW (K := 0) (r := 6) wi_m_hears_0 (by decide +kernel)), rfl, rfl⟩
theorem dm_hears_7 : dl tm_hears 7 .iload_n .iload 2 8 := Or.inl ⟨2, o_28 (oW (K := 0) (r := 7) wi_m_hears_0 (by decide +kernel)), rfl, rfl⟩
theorem dm_hears_8 : dn tm_hears 8 (.iconst 1) 1 9 := ⟨o_4 (oW (K := 0) (r := 8) wi_m_hears_0 (by decide +kernel)), rfl⟩
theorem dm_hears_9 : dn tm_hears 9 (.invokevirtual 444) 3 12 := ⟨o_182 1 188 444 (oWd (K := 0) (r := 9) wi_m_hears_0 (by decide +kernel)), rfl⟩
theorem dm_hears_12 : dn tm_hears 12 (.ireturn) 1 13 := ⟨o_172 (oW (K := 0) (r := 12) wi_m_hears_0 (by decide +kernel)), rfl⟩
def wl_m_heard_0 : List Nat := [42, 3, 181, 0, 146, 42, 27, 182, 0, 181, 153, 0, 15, 42, 28, 3, 17, 3, 32, 182, 0, 177, 154, 0, 5, 2, 172, 42, 27, 4, 182, 1, 184, 3, 62, 3, 54, 4]
theorem wi_m_heard_0 : oC tm_heard.2.1 0 wl_m_heard_0 = true := by decide +kernel
theorem dm_heard_0 : dl tm_heard 0 .aload_n .aload 0 1 := Or.inl ⟨0, o_42 (oW (K := 0) (r := 0) wi_m_heard_0 (by decide +kernel)), rfl, rfl⟩
theorem dm_heard_1 : dn tm_heard 1 (.iconst 0) 1 2 := ⟨o_3 (oW (K := 0) (r := 1) wi_m_heard_0 (by decide +kernel)), rfl⟩
theorem dm_heard_2 : dn tm_heard 2 (.putfield 146) 3 5 := ⟨o_181 0 146 146 (oWd (K := 0) (r := 2) wi_m_heard_0 (by decide +kernel)), rfl⟩
theorem dm_heard_5 : dl tm_heard 5 .aload_n .aload 0 6 := Or.inl ⟨0, o_42 (oW (K := 0) (r := 5) wi_m_heard_0 (by decide +kernel)), rfl, rfl⟩
theorem dm_heard_6 : dl tm_heard 6 .iload_n .iload 1 7 := Or.inl ⟨1, o_27 (oW (K := 0) (r := 6) wi_m_heard_0 (by decide +kernel)), rfl, rfl⟩
theorem dm_heard_7 : dn tm_heard 7 (.invokevirtual 181) 3 10 := ⟨o_182 0 181 181 (oWd (K := 0) (r := 7) wi_m_heard_0 (by decide +kernel)), rfl⟩
theorem dm_heard_10 : db tm_heard 10 (.ifCond .eq) 25 13 := ⟨15, o_153 0 15 15 (oWd (K := 0) (r := 10) wi_m_heard_0 (by decide +kernel)), rfl, rfl⟩
theorem dm_heard_13 : dl tm_heard 13 .aload_n .aload 0 14 := Or.inl ⟨0, o_42 (oW (K := 0) (r := 13) wi_m_heard_0 (by decide +kernel)), rfl, rfl⟩
theorem dm_heard_14 : dl tm_heard 14 .iload_n .iload 2 15 := Or.inl ⟨2, o_28 (oW (K := 0) (r := 14) wi_m_heard_0 (by decide +kernel)), rfl, rfl⟩
theorem dm_heard_15 : dn tm_heard 15 (.iconst 0) 1 16 := ⟨o_3 (oW (K := 0) (r := 15) wi_m_heard_0 (by decide +kernel)), rfl⟩
theorem dm_heard_16 : dn tm_heard 16 (.sipush 800) 3 19 := ⟨o_17 3 32 800 (oWd (K := 0) (r := 16) wi_m_heard_0 (by decide +kernel)), rfl⟩
theorem dm_heard_19 : dn tm_heard 19 (.invokevirtual 177) 3 22 := ⟨o_182 0 177 177 (oWd (K := 0) (r := 19) wi_m_heard_0 (by decide +kernel)), rfl⟩
theorem dm_heard_22 : db tm_heard 22 (.ifCond .ne) 27 25 := ⟨5, o_154 0 5 5 (oWd (K := 0) (r := 22) wi_m_heard_0 (by decide +kernel)), rfl, rfl⟩
theorem dm_heard_25 : dn tm_heard 25 (.iconst (-1)) 1 26 := ⟨o_2 (oW (K := 0) (r := 25) wi_m_heard_0 (by decide +kernel)), rfl⟩
theorem dm_heard_26 : dn tm_heard 26 (.ireturn) 1 27 := ⟨o_172 (oW (K := 0) (r := 26) wi_m_heard_0 (by decide +kernel)), rfl⟩
theorem dm_heard_27 : dl tm_heard 27 .aload_n .aload 0 28 := Or.inl ⟨0, o_42 (oW (K := 0) (r := 27) wi_m_heard_0 (by decide +kernel)), rfl, rfl⟩
theorem dm_heard_28 : dl tm_heard 28 .iload_n .iload 1 29 := Or.inl ⟨1, o_27 (oW (K := 0) (r := 28) wi_m_heard_0 (by decide +kernel)), rfl, rfl⟩
theorem dm_heard_29 : dn tm_heard 29 (.iconst 1) 1 30 := ⟨o_4 (oW (K := 0) (r := 29) wi_m_heard_0 (by decide +kernel)), rfl⟩
theorem dm_heard_30 : dn tm_heard 30 (.invokevirtual 440) 3 33 := ⟨o_182 1 184 440 (oWd (K := 0) (r := 30) wi_m_heard_0 (by decide +kernel)), rfl⟩
def wl_m_heard_32 : List Nat := [184, 3, 62, 3, 54, 4, 21, 4, 42, 180, 0, 158, 162, 0, 30, 21, 4, 27, 159, 0, 18, 42, 180, 0, 77, 21, 4, 46, 28, 163, 0, 7, 29, 4, 96, 62, 132, 4]
theorem wi_m_heard_32 : oC tm_heard.2.1 32 wl_m_heard_32 = true := by decide +kernel
theorem dm_heard_33 : dn tm_heard 33 (.iconst 0) 1 34 := ⟨o_3 (oW (K := 32) (r := 1) wi_m_heard_32 (by decide +kernel)), rfl⟩
theorem dm_heard_34 : dl tm_heard 34 .istore_n .istore 3 35 := Or.inl ⟨3, o_62 (oW (K := 32) (r := 2) wi_m_heard_32 (by decide +kernel)), rfl, rfl⟩
theorem dm_heard_35 : dn tm_heard 35 (.iconst 0) 1 36 := ⟨o_3 (oW (K := 32) (r := 3) wi_m_heard_32 (by decide +kernel)), rfl⟩
theorem dm_heard_36 : dl tm_heard 36 .istore_n .istore 4 38 := Or.inr ⟨o_54 4 (oW (K := 32) (r := 4) wi_m_heard_32 (by decide +kernel)), rfl⟩
theorem dm_heard_38 : dl tm_heard 38 .iload_n .iload 4 40 := Or.inr ⟨o_21 4 (oW (K := 32) (r := 6) wi_m_heard_32 (by decide +kernel)), rfl⟩
theorem dm_heard_40 : dl tm_heard 40 .aload_n .aload 0 41 := Or.inl ⟨0, o_42 (oW (K := 32) (r := 8) wi_m_heard_32 (by decide +kernel)), rfl, rfl⟩
theorem dm_heard_41 : dn tm_heard 41 (.getfield 158) 3 44 := ⟨o_180 0 158 158 (oWd (K := 32) (r := 9) wi_m_heard_32 (by decide +kernel)), rfl⟩
theorem dm_heard_44 : db tm_heard 44 (.if_icmp .ge) 74 47 := ⟨30, o_162 0 30 30 (oWd (K := 32) (r := 12) wi_m_heard_32 (by decide +kernel)), rfl, rfl⟩
theorem dm_heard_47 : dl tm_heard 47 .iload_n .iload 4 49 := Or.inr ⟨o_21 4 (oW (K := 32) (r := 15) wi_m_heard_32 (by decide +kernel)), rfl⟩
theorem dm_heard_49 : dl tm_heard 49 .iload_n .iload 1 50 := Or.inl ⟨1, o_27 (oW (K := 32) (r := 17) wi_m_heard_32 (by decide +kernel)), rfl, rfl⟩
theorem dm_heard_50 : db tm_heard 50 (.if_icmp .eq) 68 53 := ⟨18, o_159 0 18 18 (oWd (K := 32) (r := 18) wi_m_heard_32 (by decide +kernel)), rfl, rfl⟩
theorem dm_heard_53 : dl tm_heard 53 .aload_n .aload 0 54 := Or.inl ⟨0, o_42 (oW (K := 32) (r := 21) wi_m_heard_32 (by decide +kernel)), rfl, rfl⟩
theorem dm_heard_54 : dn tm_heard 54 (.getfield 77) 3 57 := ⟨o_180 0 77 77 (oWd (K := 32) (r := 22) wi_m_heard_32 (by decide +kernel)), rfl⟩
theorem dm_heard_57 : dl tm_heard 57 .iload_n .iload 4 59 := Or.inr ⟨o_21 4 (oW (K := 32) (r := 25) wi_m_heard_32 (by decide +kernel)), rfl⟩
theorem dm_heard_59 : dn tm_heard 59 (.iaload) 1 60 := ⟨o_46 (oW (K := 32) (r := 27) wi_m_heard_32 (by decide +kernel)), rfl⟩
theorem dm_heard_60 : dl tm_heard 60 .iload_n .iload 2 61 := Or.inl ⟨2, o_28 (oW (K := 32) (r := 28) wi_m_heard_32 (by decide +kernel)), rfl, rfl⟩
theorem dm_heard_61 : db tm_heard 61 (.if_icmp .gt) 68 64 := ⟨7, o_163 0 7 7 (oWd (K := 32) (r := 29) wi_m_heard_32 (by decide +kernel)), rfl, rfl⟩
def wl_m_heard_64 : List Nat := [29, 4, 96, 62, 132, 4, 1, 167, 255, 223, 29, 172]
theorem wi_m_heard_64 : oC tm_heard.2.1 64 wl_m_heard_64 = true := by decide +kernel
theorem dm_heard_64 : dl tm_heard 64 .iload_n .iload 3 65 := Or.inl ⟨3, o_29 (oW (K := 64) (r := 0) wi_m_heard_64 (by decide +kernel)), rfl, rfl⟩
theorem dm_heard_65 : dn tm_heard 65 (.iconst 1) 1 66 := ⟨o_4 (oW (K := 64) (r := 1) wi_m_heard_64 (by decide +kernel)), rfl⟩
theorem dm_heard_66 : dn tm_heard 66 (.iadd) 1 67 := ⟨o_96 (oW (K := 64) (r := 2) wi_m_heard_64 (by decide +kernel)), rfl⟩
theorem dm_heard_67 : dl tm_heard 67 .istore_n .istore 3 68 := Or.inl ⟨3, o_62 (oW (K := 64) (r := 3) wi_m_heard_64 (by decide +kernel)), rfl, rfl⟩
theorem dm_heard_68 : dn tm_heard 68 (.iinc 4 1) 3 71 := ⟨o_132 4 1 1 (oWd (K := 64) (r := 4) wi_m_heard_64 (by decide +kernel)), rfl⟩
theorem dm_heard_71 : db tm_heard 71 .goto 38 74 := ⟨-33, o_167 255 223 (-33) (oWd (K := 64) (r := 7) wi_m_heard_64 (by decide +kernel)), rfl, rfl⟩
theorem dm_heard_74 : dl tm_heard 74 .iload_n .iload 3 75 := Or.inl ⟨3, o_29 (oW (K := 64) (r := 10) wi_m_heard_64 (by decide +kernel)), rfl, rfl⟩
theorem dm_heard_75 : dn tm_heard 75 (.ireturn) 1 76 := ⟨o_172 (oW (K := 64) (r := 11) wi_m_heard_64 (by decide +kernel)), rfl⟩
def wl_m_ants_0 : List Nat := [42, 3, 181, 0, 146, 42, 27, 28, 3, 182, 1, 188, 172]
theorem wi_m_ants_0 : oC tm_ants.2.1 0 wl_m_ants_0 = true := by decide +kernel
theorem dm_ants_0 : dl tm_ants 0 .aload_n .aload 0 1 := Or.inl ⟨0, o_42 (oW (K := 0) (r := 0) wi_m_ants_0 (by decide +kernel)), rfl, rfl⟩
theorem dm_ants_1 : dn tm_ants 1 (.iconst 0) 1 2 := ⟨o_3 (oW (K := 0) (r := 1) wi_m_ants_0 (by decide +kernel)), rfl⟩
theorem dm_ants_2 : dn tm_ants 2 (.putfield 146) 3 5 := ⟨o_181 0 146 146 (oWd (K := 0) (r := 2) wi_m_ants_0 (by decide +kernel)), rfl⟩
theorem dm_ants_5 : dl tm_ants 5 .aload_n .aload 0 6 := Or.inl ⟨0, o_42 (oW (K := 0) (r := 5) wi_m_ants_0 (by decide +kernel)), rfl, rfl⟩
theorem dm_ants_6 : dl tm_ants 6 .iload_n .iload 1 7 := Or.inl ⟨1, o_27 (oW (K := 0) (r := 6) wi_m_ants_0 (by decide +kernel)), rfl, rfl⟩
theorem dm_ants_7 : dl tm_ants 7 .iload_n .iload 2 8 := Or.inl ⟨2, o_28 (oW (K := 0) (r := 7) wi_m_ants_0 (by decide +kernel)), rfl, rfl⟩
theorem dm_ants_8 : dn tm_ants 8 (.iconst 0) 1 9 := ⟨o_3 (oW (K := 0) (r := 8) wi_m_ants_0 (by decide +kernel)), rfl⟩
theorem dm_ants_9 : dn tm_ants 9 (.invokevirtual 444) 3 12 := ⟨o_182 1 188 444 (oWd (K := 0) (r := 9) wi_m_ants_0 (by decide +kernel)), rfl⟩
theorem dm_ants_12 : dn tm_ants 12 (.ireturn) 1 13 := ⟨o_172 (oW (K := 0) (r := 12) wi_m_ants_0 (by decide +kernel)), rfl⟩
def wl_m_piece_0 : List Nat := [42, 3, 181, 0, 146, 27, 2, 160, 0, 10, 42, 3, 181, 1, 192, 3, 172, 42, 27, 3, 16, 99, 182, 0, 177, 153, 0, 12, 42, 180, 1, 192, 16, 9, 160, 0, 5, 2]
theorem wi_m_piece_0 : oC tm_piece.2.1 0 wl_m_piece_0 = true := by decide +kernel
theorem dm_piece_0 : dl tm_piece 0 .aload_n .aload 0 1 := Or.inl ⟨0, o_42 (oW (K := 0) (r := 0) wi_m_piece_0 (by decide +kernel)), rfl, rfl⟩
theorem dm_piece_1 : dn tm_piece 1 (.iconst 0) 1 2 := ⟨o_3 (oW (K := 0) (r := 1) wi_m_piece_0 (by decide +kernel)), rfl⟩
theorem dm_piece_2 : dn tm_piece 2 (.putfield 146) 3 5 := ⟨o_181 0 146 146 (oWd (K := 0) (r := 2) wi_m_piece_0 (by decide +kernel)), rfl⟩
theorem dm_piece_5 : dl tm_piece 5 .iload_n .iload 1 6 := Or.inl ⟨1, o_27 (oW (K := 0) (r := 5) wi_m_piece_0 (by decide +kernel)), rfl, rfl⟩
theorem dm_piece_6 : dn tm_piece 6 (.iconst (-1)) 1 7 := ⟨o_2 (oW (K := 0) (r := 6) wi_m_piece_0 (by decide +kernel)), rfl⟩
theorem dm_piece_7 : db tm_piece 7 (.if_icmp .ne) 17 10 := ⟨10, o_160 0 10 10 (oWd (K := 0) (r := 7) wi_m_piece_0 (by decide +kernel)), rfl, rfl⟩
theorem dm_piece_10 : dl tm_piece 10 .aload_n .aload 0 11 := Or.inl ⟨0, o_42 (oW (K := 0) (r := 10) wi_m_piece_0 (by decide +kernel)), rfl, rfl⟩
theorem dm_piece_11 : dn tm_piece 11 (.iconst 0) 1 12 := ⟨o_3 (oW (K := 0) (r := 11) wi_m_piece_0 (by decide +kernel)), rfl⟩
theorem dm_piece_12 : dn tm_piece 12 (.putfield 448) 3 15 := ⟨o_181 1 192 448 (oWd (K := 0) (r := 12) wi_m_piece_0 (by decide +kernel)), rfl⟩
theorem dm_piece_15 : dn tm_piece 15 (.iconst 0) 1 16 := ⟨o_3 (oW (K := 0) (r := 15) wi_m_piece_0 (by decide +kernel)), rfl⟩
theorem dm_piece_16 : dn tm_piece 16 (.ireturn) 1 17 := ⟨o_172 (oW (K := 0) (r := 16) wi_m_piece_0 (by decide +kernel)), rfl⟩
theorem dm_piece_17 : dl tm_piece 17 .aload_n .aload 0 18 := Or.inl ⟨0, o_42 (oW (K := 0) (r := 17) wi_m_piece_0 (by decide +kernel)), rfl, rfl⟩
theorem dm_piece_18 : dl tm_piece 18 .iload_n .iload 1 19 := Or.inl ⟨1, o_27 (oW (K := 0) (r := 18) wi_m_piece_0 (by decide +kernel)), rfl, rfl⟩
theorem dm_piece_19 : dn tm_piece 19 (.iconst 0) 1 20 := ⟨o_3 (oW (K := 0) (r := 19) wi_m_piece_0 (by decide +kernel)), rfl⟩
theorem dm_piece_20 : dn tm_piece 20 (.bipush 99) 2 22 := ⟨o_16 99 99 (oWd (K := 0) (r := 20) wi_m_piece_0 (by decide +kernel)), rfl⟩
theorem dm_piece_22 : dn tm_piece 22 (.invokevirtual 177) 3 25 := ⟨o_182 0 177 177 (oWd (K := 0) (r := 22) wi_m_piece_0 (by decide +kernel)), rfl⟩
theorem dm_piece_25 : db tm_piece 25 (.ifCond .eq) 37 28 := ⟨12, o_153 0 12 12 (oWd (K := 0) (r := 25) wi_m_piece_0 (by decide +kernel)), rfl, rfl⟩
theorem dm_piece_28 : dl tm_piece 28 .aload_n .aload 0 29 := Or.inl ⟨0, o_42 (oW (K := 0) (r := 28) wi_m_piece_0 (by decide +kernel)), rfl, rfl⟩
theorem dm_piece_29 : dn tm_piece 29 (.getfield 448) 3 32 := ⟨o_180 1 192 448 (oWd (K := 0) (r := 29) wi_m_piece_0 (by decide +kernel)), rfl⟩
def wl_m_piece_32 : List Nat := [16, 9, 160, 0, 5, 2, 172, 42, 180, 0, 80, 42, 180, 1, 192, 27, 79, 42, 42, 180, 1, 192, 4, 96, 181, 1, 192, 42, 180, 1, 192, 172]
theorem wi_m_piece_32 : oC tm_piece.2.1 32 wl_m_piece_32 = true := by decide +kernel
theorem dm_piece_32 : dn tm_piece 32 (.bipush 9) 2 34 := ⟨o_16 9 9 (oWd (K := 32) (r := 0) wi_m_piece_32 (by decide +kernel)), rfl⟩
theorem dm_piece_34 : db tm_piece 34 (.if_icmp .ne) 39 37 := ⟨5, o_160 0 5 5 (oWd (K := 32) (r := 2) wi_m_piece_32 (by decide +kernel)), rfl, rfl⟩
theorem dm_piece_37 : dn tm_piece 37 (.iconst (-1)) 1 38 := ⟨o_2 (oW (K := 32) (r := 5) wi_m_piece_32 (by decide +kernel)), rfl⟩
theorem dm_piece_38 : dn tm_piece 38 (.ireturn) 1 39 := ⟨o_172 (oW (K := 32) (r := 6) wi_m_piece_32 (by decide +kernel)), rfl⟩
theorem dm_piece_39 : dl tm_piece 39 .aload_n .aload 0 40 := Or.inl ⟨0, o_42 (oW (K := 32) (r := 7) wi_m_piece_32 (by decide +kernel)), rfl, rfl⟩
theorem dm_piece_40 : dn tm_piece 40 (.getfield 80) 3 43 := ⟨o_180 0 80 80 (oWd (K := 32) (r := 8) wi_m_piece_32 (by decide +kernel)), rfl⟩
theorem dm_piece_43 : dl tm_piece 43 .aload_n .aload 0 44 := Or.inl ⟨0, o_42 (oW (K := 32) (r := 11) wi_m_piece_32 (by decide +kernel)), rfl, rfl⟩
theorem dm_piece_44 : dn tm_piece 44 (.getfield 448) 3 47 := ⟨o_180 1 192 448 (oWd (K := 32) (r := 12) wi_m_piece_32 (by decide +kernel)), rfl⟩
theorem dm_piece_47 : dl tm_piece 47 .iload_n .iload 1 48 := Or.inl ⟨1, o_27 (oW (K := 32) (r := 15) wi_m_piece_32 (by decide +kernel)), rfl, rfl⟩
theorem dm_piece_48 : dn tm_piece 48 (.iastore) 1 49 := ⟨o_79 (oW (K := 32) (r := 16) wi_m_piece_32 (by decide +kernel)), rfl⟩
theorem dm_piece_49 : dl tm_piece 49 .aload_n .aload 0 50 := Or.inl ⟨0, o_42 (oW (K := 32) (r := 17) wi_m_piece_32 (by decide +kernel)), rfl, rfl⟩
theorem dm_piece_50 : dl tm_piece 50 .aload_n .aload 0 51 := Or.inl ⟨0, o_42 (oW (K := 32) (r := 18) wi_m_piece_32 (by decide +kernel)), rfl, rfl⟩
theorem dm_piece_51 : dn tm_piece 51 (.getfield 448) 3 54 := ⟨o_180 1 192 448 (oWd (K := 32) (r := 19) wi_m_piece_32 (by decide +kernel)), rfl⟩
theorem dm_piece_54 : dn tm_piece 54 (.iconst 1) 1 55 := ⟨o_4 (oW (K := 32) (r := 22) wi_m_piece_32 (by decide +kernel)), rfl⟩
theorem dm_piece_55 : dn tm_piece 55 (.iadd) 1 56 := ⟨o_96 (oW (K := 32) (r := 23) wi_m_piece_32 (by decide +kernel)), rfl⟩
theorem dm_piece_56 : dn tm_piece 56 (.putfield 448) 3 59 := ⟨o_181 1 192 448 (oWd (K := 32) (r := 24) wi_m_piece_32 (by decide +kernel)), rfl⟩
theorem dm_piece_59 : dl tm_piece 59 .aload_n .aload 0 60 := Or.inl ⟨0, o_42 (oW (K := 32) (r := 27) wi_m_piece_32 (by decide +kernel)), rfl, rfl⟩
theorem dm_piece_60 : dn tm_piece 60 (.getfield 448) 3 63 := ⟨o_180 1 192 448 (oWd (K := 32) (r := 28) wi_m_piece_32 (by decide +kernel)), rfl⟩
theorem dm_piece_63 : dn tm_piece 63 (.ireturn) 1 64 := ⟨o_172 (oW (K := 32) (r := 31) wi_m_piece_32 (by decide +kernel)), rfl⟩
def wl_m_piecesOver_0 : List Nat := [3, 62, 27, 54, 4, 21, 4, 28, 162, 0, 19, 29, 42, 180, 0, 80, 21, 4, 46, 96, 62, 132, 4, 1, 167, 255, 237, 29, 172]
theorem wi_m_piecesOver_0 : oC tm_piecesOver.2.1 0 wl_m_piecesOver_0 = true := by decide +kernel
theorem dm_piecesOver_0 : dn tm_piecesOver 0 (.iconst 0) 1 1 := ⟨o_3 (oW (K := 0) (r := 0) wi_m_piecesOver_0 (by decide +kernel)), rfl⟩
theorem dm_piecesOver_1 : dl tm_piecesOver 1 .istore_n .istore 3 2 := Or.inl ⟨3, o_62 (oW (K := 0) (r := 1) wi_m_piecesOver_0 (by decide +kernel)), rfl, rfl⟩
theorem dm_piecesOver_2 : dl tm_piecesOver 2 .iload_n .iload 1 3 := Or.inl ⟨1, o_27 (oW (K := 0) (r := 2) wi_m_piecesOver_0 (by decide +kernel)), rfl, rfl⟩
theorem dm_piecesOver_3 : dl tm_piecesOver 3 .istore_n .istore 4 5 := Or.inr ⟨o_54 4 (oW (K := 0) (r := 3) wi_m_piecesOver_0 (by decide +kernel)), rfl⟩
theorem dm_piecesOver_5 : dl tm_piecesOver 5 .iload_n .iload 4 7 := Or.inr ⟨o_21 4 (oW (K := 0) (r := 5) wi_m_piecesOver_0 (by decide +kernel)), rfl⟩
theorem dm_piecesOver_7 : dl tm_piecesOver 7 .iload_n .iload 2 8 := Or.inl ⟨2, o_28 (oW (K := 0) (r := 7) wi_m_piecesOver_0 (by decide +kernel)), rfl, rfl⟩
theorem dm_piecesOver_8 : db tm_piecesOver 8 (.if_icmp .ge) 27 11 := ⟨19, o_162 0 19 19 (oWd (K := 0) (r := 8) wi_m_piecesOver_0 (by decide +kernel)), rfl, rfl⟩
theorem dm_piecesOver_11 : dl tm_piecesOver 11 .iload_n .iload 3 12 := Or.inl ⟨3, o_29 (oW (K := 0) (r := 11) wi_m_piecesOver_0 (by decide +kernel)), rfl, rfl⟩
theorem dm_piecesOver_12 : dl tm_piecesOver 12 .aload_n .aload 0 13 := Or.inl ⟨0, o_42 (oW (K := 0) (r := 12) wi_m_piecesOver_0 (by decide +kernel)), rfl, rfl⟩
theorem dm_piecesOver_13 : dn tm_piecesOver 13 (.getfield 80) 3 16 := ⟨o_180 0 80 80 (oWd (K := 0) (r := 13) wi_m_piecesOver_0 (by decide +kernel)), rfl⟩
theorem dm_piecesOver_16 : dl tm_piecesOver 16 .iload_n .iload 4 18 := Or.inr ⟨o_21 4 (oW (K := 0) (r := 16) wi_m_piecesOver_0 (by decide +kernel)), rfl⟩
theorem dm_piecesOver_18 : dn tm_piecesOver 18 (.iaload) 1 19 := ⟨o_46 (oW (K := 0) (r := 18) wi_m_piecesOver_0 (by decide +kernel)), rfl⟩
theorem dm_piecesOver_19 : dn tm_piecesOver 19 (.iadd) 1 20 := ⟨o_96 (oW (K := 0) (r := 19) wi_m_piecesOver_0 (by decide +kernel)), rfl⟩
theorem dm_piecesOver_20 : dl tm_piecesOver 20 .istore_n .istore 3 21 := Or.inl ⟨3, o_62 (oW (K := 0) (r := 20) wi_m_piecesOver_0 (by decide +kernel)), rfl, rfl⟩
theorem dm_piecesOver_21 : dn tm_piecesOver 21 (.iinc 4 1) 3 24 := ⟨o_132 4 1 1 (oWd (K := 0) (r := 21) wi_m_piecesOver_0 (by decide +kernel)), rfl⟩
theorem dm_piecesOver_24 : db tm_piecesOver 24 .goto 5 27 := ⟨-19, o_167 255 237 (-19) (oWd (K := 0) (r := 24) wi_m_piecesOver_0 (by decide +kernel)), rfl, rfl⟩
theorem dm_piecesOver_27 : dl tm_piecesOver 27 .iload_n .iload 3 28 := Or.inl ⟨3, o_29 (oW (K := 0) (r := 27) wi_m_piecesOver_0 (by decide +kernel)), rfl, rfl⟩
theorem dm_piecesOver_28 : dn tm_piecesOver 28 (.ireturn) 1 29 := ⟨o_172 (oW (K := 0) (r := 28) wi_m_piecesOver_0 (by decide +kernel)), rfl⟩
def wl_m_findsShares_0 : List Nat := [3, 60, 27, 16, 10, 162, 0, 112, 3, 61, 28, 42, 180, 1, 192, 163, 0, 96, 27, 154, 0, 17, 28, 42, 180, 1, 192, 160, 0, 9, 19, 1, 180, 167, 0, 4, 2, 62]
theorem wi_m_findsShares_0 : oC tm_findsShares.2.1 0 wl_m_findsShares_0 = true := by decide +kernel
theorem dm_findsShares_0 : dn tm_findsShares 0 (.iconst 0) 1 1 := ⟨o_3 (oW (K := 0) (r := 0) wi_m_findsShares_0 (by decide +kernel)), rfl⟩
theorem dm_findsShares_1 : dl tm_findsShares 1 .istore_n .istore 1 2 := Or.inl ⟨1, o_60 (oW (K := 0) (r := 1) wi_m_findsShares_0 (by decide +kernel)), rfl, rfl⟩
theorem dm_findsShares_2 : dl tm_findsShares 2 .iload_n .iload 1 3 := Or.inl ⟨1, o_27 (oW (K := 0) (r := 2) wi_m_findsShares_0 (by decide +kernel)), rfl, rfl⟩
theorem dm_findsShares_3 : dn tm_findsShares 3 (.bipush 10) 2 5 := ⟨o_16 10 10 (oWd (K := 0) (r := 3) wi_m_findsShares_0 (by decide +kernel)), rfl⟩
theorem dm_findsShares_5 : db tm_findsShares 5 (.if_icmp .ge) 117 8 := ⟨112, o_162 0 112 112 (oWd (K := 0) (r := 5) wi_m_findsShares_0 (by decide +kernel)), rfl, rfl⟩
theorem dm_findsShares_8 : dn tm_findsShares 8 (.iconst 0) 1 9 := ⟨o_3 (oW (K := 0) (r := 8) wi_m_findsShares_0 (by decide +kernel)), rfl⟩
theorem dm_findsShares_9 : dl tm_findsShares 9 .istore_n .istore 2 10 := Or.inl ⟨2, o_61 (oW (K := 0) (r := 9) wi_m_findsShares_0 (by decide +kernel)), rfl, rfl⟩
theorem dm_findsShares_10 : dl tm_findsShares 10 .iload_n .iload 2 11 := Or.inl ⟨2, o_28 (oW (K := 0) (r := 10) wi_m_findsShares_0 (by decide +kernel)), rfl, rfl⟩
theorem dm_findsShares_11 : dl tm_findsShares 11 .aload_n .aload 0 12 := Or.inl ⟨0, o_42 (oW (K := 0) (r := 11) wi_m_findsShares_0 (by decide +kernel)), rfl, rfl⟩
theorem dm_findsShares_12 : dn tm_findsShares 12 (.getfield 448) 3 15 := ⟨o_180 1 192 448 (oWd (K := 0) (r := 12) wi_m_findsShares_0 (by decide +kernel)), rfl⟩
theorem dm_findsShares_15 : db tm_findsShares 15 (.if_icmp .gt) 111 18 := ⟨96, o_163 0 96 96 (oWd (K := 0) (r := 15) wi_m_findsShares_0 (by decide +kernel)), rfl, rfl⟩
theorem dm_findsShares_18 : dl tm_findsShares 18 .iload_n .iload 1 19 := Or.inl ⟨1, o_27 (oW (K := 0) (r := 18) wi_m_findsShares_0 (by decide +kernel)), rfl, rfl⟩
theorem dm_findsShares_19 : db tm_findsShares 19 (.ifCond .ne) 36 22 := ⟨17, o_154 0 17 17 (oWd (K := 0) (r := 19) wi_m_findsShares_0 (by decide +kernel)), rfl, rfl⟩
theorem dm_findsShares_22 : dl tm_findsShares 22 .iload_n .iload 2 23 := Or.inl ⟨2, o_28 (oW (K := 0) (r := 22) wi_m_findsShares_0 (by decide +kernel)), rfl, rfl⟩
theorem dm_findsShares_23 : dl tm_findsShares 23 .aload_n .aload 0 24 := Or.inl ⟨0, o_42 (oW (K := 0) (r := 23) wi_m_findsShares_0 (by decide +kernel)), rfl, rfl⟩
theorem dm_findsShares_24 : dn tm_findsShares 24 (.getfield 448) 3 27 := ⟨o_180 1 192 448 (oWd (K := 0) (r := 24) wi_m_findsShares_0 (by decide +kernel)), rfl⟩
theorem dm_findsShares_27 : db tm_findsShares 27 (.if_icmp .ne) 36 30 := ⟨9, o_160 0 9 9 (oWd (K := 0) (r := 27) wi_m_findsShares_0 (by decide +kernel)), rfl, rfl⟩
theorem dm_findsShares_30 : dn tm_findsShares 30 (.ldc_w 436) 3 33 := ⟨o_19 1 180 436 (oWd (K := 0) (r := 30) wi_m_findsShares_0 (by decide +kernel)), rfl⟩
def wl_m_findsShares_32 : List Nat := [180, 167, 0, 4, 2, 62, 28, 4, 96, 54, 4, 21, 4, 42, 180, 1, 192, 163, 0, 44, 27, 158, 0, 40, 42, 29, 42, 42, 28, 21, 4, 182, 1, 195, 42, 180, 0, 83]
theorem wi_m_findsShares_32 : oC tm_findsShares.2.1 32 wl_m_findsShares_32 = true := by decide +kernel
theorem dm_findsShares_33 : db tm_findsShares 33 .goto 37 36 := ⟨4, o_167 0 4 4 (oWd (K := 32) (r := 1) wi_m_findsShares_32 (by decide +kernel)), rfl, rfl⟩
theorem dm_findsShares_36 : dn tm_findsShares 36 (.iconst (-1)) 1 37 := ⟨o_2 (oW (K := 32) (r := 4) wi_m_findsShares_32 (by decide +kernel)), rfl⟩
theorem dm_findsShares_37 : dl tm_findsShares 37 .istore_n .istore 3 38 := Or.inl ⟨3, o_62 (oW (K := 32) (r := 5) wi_m_findsShares_32 (by decide +kernel)), rfl, rfl⟩
theorem dm_findsShares_38 : dl tm_findsShares 38 .iload_n .iload 2 39 := Or.inl ⟨2, o_28 (oW (K := 32) (r := 6) wi_m_findsShares_32 (by decide +kernel)), rfl, rfl⟩
theorem dm_findsShares_39 : dn tm_findsShares 39 (.iconst 1) 1 40 := ⟨o_4 (oW (K := 32) (r := 7) wi_m_findsShares_32 (by decide +kernel)), rfl⟩
theorem dm_findsShares_40 : dn tm_findsShares 40 (.iadd) 1 41 := ⟨o_96 (oW (K := 32) (r := 8) wi_m_findsShares_32 (by decide +kernel)), rfl⟩
theorem dm_findsShares_41 : dl tm_findsShares 41 .istore_n .istore 4 43 := Or.inr ⟨o_54 4 (oW (K := 32) (r := 9) wi_m_findsShares_32 (by decide +kernel)), rfl⟩
theorem dm_findsShares_43 : dl tm_findsShares 43 .iload_n .iload 4 45 := Or.inr ⟨o_21 4 (oW (K := 32) (r := 11) wi_m_findsShares_32 (by decide +kernel)), rfl⟩
theorem dm_findsShares_45 : dl tm_findsShares 45 .aload_n .aload 0 46 := Or.inl ⟨0, o_42 (oW (K := 32) (r := 13) wi_m_findsShares_32 (by decide +kernel)), rfl, rfl⟩
theorem dm_findsShares_46 : dn tm_findsShares 46 (.getfield 448) 3 49 := ⟨o_180 1 192 448 (oWd (K := 32) (r := 14) wi_m_findsShares_32 (by decide +kernel)), rfl⟩
theorem dm_findsShares_49 : db tm_findsShares 49 (.if_icmp .gt) 93 52 := ⟨44, o_163 0 44 44 (oWd (K := 32) (r := 17) wi_m_findsShares_32 (by decide +kernel)), rfl, rfl⟩
theorem dm_findsShares_52 : dl tm_findsShares 52 .iload_n .iload 1 53 := Or.inl ⟨1, o_27 (oW (K := 32) (r := 20) wi_m_findsShares_32 (by decide +kernel)), rfl, rfl⟩
theorem dm_findsShares_53 : db tm_findsShares 53 (.ifCond .le) 93 56 := ⟨40, o_158 0 40 40 (oWd (K := 32) (r := 21) wi_m_findsShares_32 (by decide +kernel)), rfl, rfl⟩
theorem dm_findsShares_56 : dl tm_findsShares 56 .aload_n .aload 0 57 := Or.inl ⟨0, o_42 (oW (K := 32) (r := 24) wi_m_findsShares_32 (by decide +kernel)), rfl, rfl⟩
theorem dm_findsShares_57 : dl tm_findsShares 57 .iload_n .iload 3 58 := Or.inl ⟨3, o_29 (oW (K := 32) (r := 25) wi_m_findsShares_32 (by decide +kernel)), rfl, rfl⟩
theorem dm_findsShares_58 : dl tm_findsShares 58 .aload_n .aload 0 59 := Or.inl ⟨0, o_42 (oW (K := 32) (r := 26) wi_m_findsShares_32 (by decide +kernel)), rfl, rfl⟩
theorem dm_findsShares_59 : dl tm_findsShares 59 .aload_n .aload 0 60 := Or.inl ⟨0, o_42 (oW (K := 32) (r := 27) wi_m_findsShares_32 (by decide +kernel)), rfl, rfl⟩
theorem dm_findsShares_60 : dl tm_findsShares 60 .iload_n .iload 2 61 := Or.inl ⟨2, o_28 (oW (K := 32) (r := 28) wi_m_findsShares_32 (by decide +kernel)), rfl, rfl⟩
theorem dm_findsShares_61 : dl tm_findsShares 61 .iload_n .iload 4 63 := Or.inr ⟨o_21 4 (oW (K := 32) (r := 29) wi_m_findsShares_32 (by decide +kernel)), rfl⟩
theorem dm_findsShares_63 : dn tm_findsShares 63 (.invokevirtual 451) 3 66 := ⟨o_182 1 195 451 (oWd (K := 32) (r := 31) wi_m_findsShares_32 (by decide +kernel)), rfl⟩
def wl_m_findsShares_64 : List Nat := [1, 195, 42, 180, 0, 83, 16, 10, 27, 4, 100, 104, 21, 4, 96, 46, 182, 1, 144, 182, 1, 129, 62, 132, 4, 1, 167, 255, 209, 42, 180, 0, 83, 16, 10, 27, 104, 28]
theorem wi_m_findsShares_64 : oC tm_findsShares.2.1 64 wl_m_findsShares_64 = true := by decide +kernel
theorem dm_findsShares_66 : dl tm_findsShares 66 .aload_n .aload 0 67 := Or.inl ⟨0, o_42 (oW (K := 64) (r := 2) wi_m_findsShares_64 (by decide +kernel)), rfl, rfl⟩
theorem dm_findsShares_67 : dn tm_findsShares 67 (.getfield 83) 3 70 := ⟨o_180 0 83 83 (oWd (K := 64) (r := 3) wi_m_findsShares_64 (by decide +kernel)), rfl⟩
theorem dm_findsShares_70 : dn tm_findsShares 70 (.bipush 10) 2 72 := ⟨o_16 10 10 (oWd (K := 64) (r := 6) wi_m_findsShares_64 (by decide +kernel)), rfl⟩
theorem dm_findsShares_72 : dl tm_findsShares 72 .iload_n .iload 1 73 := Or.inl ⟨1, o_27 (oW (K := 64) (r := 8) wi_m_findsShares_64 (by decide +kernel)), rfl, rfl⟩
theorem dm_findsShares_73 : dn tm_findsShares 73 (.iconst 1) 1 74 := ⟨o_4 (oW (K := 64) (r := 9) wi_m_findsShares_64 (by decide +kernel)), rfl⟩
theorem dm_findsShares_74 : dn tm_findsShares 74 (.isub) 1 75 := ⟨o_100 (oW (K := 64) (r := 10) wi_m_findsShares_64 (by decide +kernel)), rfl⟩
theorem dm_findsShares_75 : dn tm_findsShares 75 (.imul) 1 76 := ⟨o_104 (oW (K := 64) (r := 11) wi_m_findsShares_64 (by decide +kernel)), rfl⟩
theorem dm_findsShares_76 : dl tm_findsShares 76 .iload_n .iload 4 78 := Or.inr ⟨o_21 4 (oW (K := 64) (r := 12) wi_m_findsShares_64 (by decide +kernel)), rfl⟩
theorem dm_findsShares_78 : dn tm_findsShares 78 (.iadd) 1 79 := ⟨o_96 (oW (K := 64) (r := 14) wi_m_findsShares_64 (by decide +kernel)), rfl⟩
theorem dm_findsShares_79 : dn tm_findsShares 79 (.iaload) 1 80 := ⟨o_46 (oW (K := 64) (r := 15) wi_m_findsShares_64 (by decide +kernel)), rfl⟩
theorem dm_findsShares_80 : dn tm_findsShares 80 (.invokevirtual 400) 3 83 := ⟨o_182 1 144 400 (oWd (K := 64) (r := 16) wi_m_findsShares_64 (by decide +kernel)), rfl⟩
theorem dm_findsShares_83 : dn tm_findsShares 83 (.invokevirtual 385) 3 86 := ⟨o_182 1 129 385 (oWd (K := 64) (r := 19) wi_m_findsShares_64 (by decide +kernel)), rfl⟩
theorem dm_findsShares_86 : dl tm_findsShares 86 .istore_n .istore 3 87 := Or.inl ⟨3, o_62 (oW (K := 64) (r := 22) wi_m_findsShares_64 (by decide +kernel)), rfl, rfl⟩
theorem dm_findsShares_87 : dn tm_findsShares 87 (.iinc 4 1) 3 90 := ⟨o_132 4 1 1 (oWd (K := 64) (r := 23) wi_m_findsShares_64 (by decide +kernel)), rfl⟩
theorem dm_findsShares_90 : db tm_findsShares 90 .goto 43 93 := ⟨-47, o_167 255 209 (-47) (oWd (K := 64) (r := 26) wi_m_findsShares_64 (by decide +kernel)), rfl, rfl⟩
theorem dm_findsShares_93 : dl tm_findsShares 93 .aload_n .aload 0 94 := Or.inl ⟨0, o_42 (oW (K := 64) (r := 29) wi_m_findsShares_64 (by decide +kernel)), rfl, rfl⟩
theorem dm_findsShares_94 : dn tm_findsShares 94 (.getfield 83) 3 97 := ⟨o_180 0 83 83 (oWd (K := 64) (r := 30) wi_m_findsShares_64 (by decide +kernel)), rfl⟩
def wl_m_findsShares_96 : List Nat := [83, 16, 10, 27, 104, 28, 96, 29, 79, 132, 2, 1, 167, 255, 158, 132, 1, 1, 167, 255, 144, 177]
theorem wi_m_findsShares_96 : oC tm_findsShares.2.1 96 wl_m_findsShares_96 = true := by decide +kernel
theorem dm_findsShares_97 : dn tm_findsShares 97 (.bipush 10) 2 99 := ⟨o_16 10 10 (oWd (K := 96) (r := 1) wi_m_findsShares_96 (by decide +kernel)), rfl⟩
theorem dm_findsShares_99 : dl tm_findsShares 99 .iload_n .iload 1 100 := Or.inl ⟨1, o_27 (oW (K := 96) (r := 3) wi_m_findsShares_96 (by decide +kernel)), rfl, rfl⟩
theorem dm_findsShares_100 : dn tm_findsShares 100 (.imul) 1 101 := ⟨o_104 (oW (K := 96) (r := 4) wi_m_findsShares_96 (by decide +kernel)), rfl⟩
theorem dm_findsShares_101 : dl tm_findsShares 101 .iload_n .iload 2 102 := Or.inl ⟨2, o_28 (oW (K := 96) (r := 5) wi_m_findsShares_96 (by decide +kernel)), rfl, rfl⟩
theorem dm_findsShares_102 : dn tm_findsShares 102 (.iadd) 1 103 := ⟨o_96 (oW (K := 96) (r := 6) wi_m_findsShares_96 (by decide +kernel)), rfl⟩
theorem dm_findsShares_103 : dl tm_findsShares 103 .iload_n .iload 3 104 := Or.inl ⟨3, o_29 (oW (K := 96) (r := 7) wi_m_findsShares_96 (by decide +kernel)), rfl, rfl⟩
theorem dm_findsShares_104 : dn tm_findsShares 104 (.iastore) 1 105 := ⟨o_79 (oW (K := 96) (r := 8) wi_m_findsShares_96 (by decide +kernel)), rfl⟩
theorem dm_findsShares_105 : dn tm_findsShares 105 (.iinc 2 1) 3 108 := ⟨o_132 2 1 1 (oWd (K := 96) (r := 9) wi_m_findsShares_96 (by decide +kernel)), rfl⟩
theorem dm_findsShares_108 : db tm_findsShares 108 .goto 10 111 := ⟨-98, o_167 255 158 (-98) (oWd (K := 96) (r := 12) wi_m_findsShares_96 (by decide +kernel)), rfl, rfl⟩
theorem dm_findsShares_111 : dn tm_findsShares 111 (.iinc 1 1) 3 114 := ⟨o_132 1 1 1 (oWd (K := 96) (r := 15) wi_m_findsShares_96 (by decide +kernel)), rfl⟩
theorem dm_findsShares_114 : db tm_findsShares 114 .goto 2 117 := ⟨-112, o_167 255 144 (-112) (oWd (K := 96) (r := 18) wi_m_findsShares_96 (by decide +kernel)), rfl, rfl⟩
theorem dm_findsShares_117 : dn tm_findsShares 117 (.return_) 1 118 := ⟨o_177 (oW (K := 96) (r := 21) wi_m_findsShares_96 (by decide +kernel)), rfl⟩
def wl_m_plate_0 : List Nat := [42, 3, 181, 0, 146, 42, 27, 4, 42, 180, 1, 192, 182, 0, 177, 153, 0, 13, 42, 28, 3, 4, 182, 0, 177, 154, 0, 5, 2, 172, 42, 182, 1, 198, 42, 180, 0, 83]
theorem wi_m_plate_0 : oC tm_plate.2.1 0 wl_m_plate_0 = true := by decide +kernel
theorem dm_plate_0 : dl tm_plate 0 .aload_n .aload 0 1 := Or.inl ⟨0, o_42 (oW (K := 0) (r := 0) wi_m_plate_0 (by decide +kernel)), rfl, rfl⟩
theorem dm_plate_1 : dn tm_plate 1 (.iconst 0) 1 2 := ⟨o_3 (oW (K := 0) (r := 1) wi_m_plate_0 (by decide +kernel)), rfl⟩
theorem dm_plate_2 : dn tm_plate 2 (.putfield 146) 3 5 := ⟨o_181 0 146 146 (oWd (K := 0) (r := 2) wi_m_plate_0 (by decide +kernel)), rfl⟩
theorem dm_plate_5 : dl tm_plate 5 .aload_n .aload 0 6 := Or.inl ⟨0, o_42 (oW (K := 0) (r := 5) wi_m_plate_0 (by decide +kernel)), rfl, rfl⟩
theorem dm_plate_6 : dl tm_plate 6 .iload_n .iload 1 7 := Or.inl ⟨1, o_27 (oW (K := 0) (r := 6) wi_m_plate_0 (by decide +kernel)), rfl, rfl⟩
theorem dm_plate_7 : dn tm_plate 7 (.iconst 1) 1 8 := ⟨o_4 (oW (K := 0) (r := 7) wi_m_plate_0 (by decide +kernel)), rfl⟩
theorem dm_plate_8 : dl tm_plate 8 .aload_n .aload 0 9 := Or.inl ⟨0, o_42 (oW (K := 0) (r := 8) wi_m_plate_0 (by decide +kernel)), rfl, rfl⟩
theorem dm_plate_9 : dn tm_plate 9 (.getfield 448) 3 12 := ⟨o_180 1 192 448 (oWd (K := 0) (r := 9) wi_m_plate_0 (by decide +kernel)), rfl⟩
theorem dm_plate_12 : dn tm_plate 12 (.invokevirtual 177) 3 15 := ⟨o_182 0 177 177 (oWd (K := 0) (r := 12) wi_m_plate_0 (by decide +kernel)), rfl⟩
theorem dm_plate_15 : db tm_plate 15 (.ifCond .eq) 28 18 := ⟨13, o_153 0 13 13 (oWd (K := 0) (r := 15) wi_m_plate_0 (by decide +kernel)), rfl, rfl⟩
theorem dm_plate_18 : dl tm_plate 18 .aload_n .aload 0 19 := Or.inl ⟨0, o_42 (oW (K := 0) (r := 18) wi_m_plate_0 (by decide +kernel)), rfl, rfl⟩
theorem dm_plate_19 : dl tm_plate 19 .iload_n .iload 2 20 := Or.inl ⟨2, o_28 (oW (K := 0) (r := 19) wi_m_plate_0 (by decide +kernel)), rfl, rfl⟩
theorem dm_plate_20 : dn tm_plate 20 (.iconst 0) 1 21 := ⟨o_3 (oW (K := 0) (r := 20) wi_m_plate_0 (by decide +kernel)), rfl⟩
theorem dm_plate_21 : dn tm_plate 21 (.iconst 1) 1 22 := ⟨o_4 (oW (K := 0) (r := 21) wi_m_plate_0 (by decide +kernel)), rfl⟩
theorem dm_plate_22 : dn tm_plate 22 (.invokevirtual 177) 3 25 := ⟨o_182 0 177 177 (oWd (K := 0) (r := 22) wi_m_plate_0 (by decide +kernel)), rfl⟩
theorem dm_plate_25 : db tm_plate 25 (.ifCond .ne) 30 28 := ⟨5, o_154 0 5 5 (oWd (K := 0) (r := 25) wi_m_plate_0 (by decide +kernel)), rfl, rfl⟩
theorem dm_plate_28 : dn tm_plate 28 (.iconst (-1)) 1 29 := ⟨o_2 (oW (K := 0) (r := 28) wi_m_plate_0 (by decide +kernel)), rfl⟩
theorem dm_plate_29 : dn tm_plate 29 (.ireturn) 1 30 := ⟨o_172 (oW (K := 0) (r := 29) wi_m_plate_0 (by decide +kernel)), rfl⟩
theorem dm_plate_30 : dl tm_plate 30 .aload_n .aload 0 31 := Or.inl ⟨0, o_42 (oW (K := 0) (r := 30) wi_m_plate_0 (by decide +kernel)), rfl, rfl⟩
theorem dm_plate_31 : dn tm_plate 31 (.invokevirtual 454) 3 34 := ⟨o_182 1 198 454 (oWd (K := 0) (r := 31) wi_m_plate_0 (by decide +kernel)), rfl⟩
def wl_m_plate_32 : List Nat := [1, 198, 42, 180, 0, 83, 16, 10, 27, 104, 46, 62, 28, 154, 0, 5, 29, 172, 4, 54, 4, 21, 4, 42, 180, 1, 192, 162, 0, 46, 27, 4, 164, 0, 41, 42, 42, 3]
theorem wi_m_plate_32 : oC tm_plate.2.1 32 wl_m_plate_32 = true := by decide +kernel
theorem dm_plate_34 : dl tm_plate 34 .aload_n .aload 0 35 := Or.inl ⟨0, o_42 (oW (K := 32) (r := 2) wi_m_plate_32 (by decide +kernel)), rfl, rfl⟩
theorem dm_plate_35 : dn tm_plate 35 (.getfield 83) 3 38 := ⟨o_180 0 83 83 (oWd (K := 32) (r := 3) wi_m_plate_32 (by decide +kernel)), rfl⟩
theorem dm_plate_38 : dn tm_plate 38 (.bipush 10) 2 40 := ⟨o_16 10 10 (oWd (K := 32) (r := 6) wi_m_plate_32 (by decide +kernel)), rfl⟩
theorem dm_plate_40 : dl tm_plate 40 .iload_n .iload 1 41 := Or.inl ⟨1, o_27 (oW (K := 32) (r := 8) wi_m_plate_32 (by decide +kernel)), rfl, rfl⟩
theorem dm_plate_41 : dn tm_plate 41 (.imul) 1 42 := ⟨o_104 (oW (K := 32) (r := 9) wi_m_plate_32 (by decide +kernel)), rfl⟩
theorem dm_plate_42 : dn tm_plate 42 (.iaload) 1 43 := ⟨o_46 (oW (K := 32) (r := 10) wi_m_plate_32 (by decide +kernel)), rfl⟩
theorem dm_plate_43 : dl tm_plate 43 .istore_n .istore 3 44 := Or.inl ⟨3, o_62 (oW (K := 32) (r := 11) wi_m_plate_32 (by decide +kernel)), rfl, rfl⟩
theorem dm_plate_44 : dl tm_plate 44 .iload_n .iload 2 45 := Or.inl ⟨2, o_28 (oW (K := 32) (r := 12) wi_m_plate_32 (by decide +kernel)), rfl, rfl⟩
theorem dm_plate_45 : db tm_plate 45 (.ifCond .ne) 50 48 := ⟨5, o_154 0 5 5 (oWd (K := 32) (r := 13) wi_m_plate_32 (by decide +kernel)), rfl, rfl⟩
theorem dm_plate_48 : dl tm_plate 48 .iload_n .iload 3 49 := Or.inl ⟨3, o_29 (oW (K := 32) (r := 16) wi_m_plate_32 (by decide +kernel)), rfl, rfl⟩
theorem dm_plate_49 : dn tm_plate 49 (.ireturn) 1 50 := ⟨o_172 (oW (K := 32) (r := 17) wi_m_plate_32 (by decide +kernel)), rfl⟩
theorem dm_plate_50 : dn tm_plate 50 (.iconst 1) 1 51 := ⟨o_4 (oW (K := 32) (r := 18) wi_m_plate_32 (by decide +kernel)), rfl⟩
theorem dm_plate_51 : dl tm_plate 51 .istore_n .istore 4 53 := Or.inr ⟨o_54 4 (oW (K := 32) (r := 19) wi_m_plate_32 (by decide +kernel)), rfl⟩
theorem dm_plate_53 : dl tm_plate 53 .iload_n .iload 4 55 := Or.inr ⟨o_21 4 (oW (K := 32) (r := 21) wi_m_plate_32 (by decide +kernel)), rfl⟩
theorem dm_plate_55 : dl tm_plate 55 .aload_n .aload 0 56 := Or.inl ⟨0, o_42 (oW (K := 32) (r := 23) wi_m_plate_32 (by decide +kernel)), rfl, rfl⟩
theorem dm_plate_56 : dn tm_plate 56 (.getfield 448) 3 59 := ⟨o_180 1 192 448 (oWd (K := 32) (r := 24) wi_m_plate_32 (by decide +kernel)), rfl⟩
theorem dm_plate_59 : db tm_plate 59 (.if_icmp .ge) 105 62 := ⟨46, o_162 0 46 46 (oWd (K := 32) (r := 27) wi_m_plate_32 (by decide +kernel)), rfl, rfl⟩
theorem dm_plate_62 : dl tm_plate 62 .iload_n .iload 1 63 := Or.inl ⟨1, o_27 (oW (K := 32) (r := 30) wi_m_plate_32 (by decide +kernel)), rfl, rfl⟩
theorem dm_plate_63 : dn tm_plate 63 (.iconst 1) 1 64 := ⟨o_4 (oW (K := 32) (r := 31) wi_m_plate_32 (by decide +kernel)), rfl⟩
def wl_m_plate_64 : List Nat := [164, 0, 41, 42, 42, 3, 21, 4, 182, 1, 195, 42, 180, 0, 83, 16, 10, 27, 4, 100, 104, 21, 4, 96, 46, 182, 1, 144, 29, 160, 0, 6, 21, 4, 172, 132, 4, 1]
theorem wi_m_plate_64 : oC tm_plate.2.1 64 wl_m_plate_64 = true := by decide +kernel
theorem dm_plate_64 : db tm_plate 64 (.if_icmp .le) 105 67 := ⟨41, o_164 0 41 41 (oWd (K := 64) (r := 0) wi_m_plate_64 (by decide +kernel)), rfl, rfl⟩
theorem dm_plate_67 : dl tm_plate 67 .aload_n .aload 0 68 := Or.inl ⟨0, o_42 (oW (K := 64) (r := 3) wi_m_plate_64 (by decide +kernel)), rfl, rfl⟩
theorem dm_plate_68 : dl tm_plate 68 .aload_n .aload 0 69 := Or.inl ⟨0, o_42 (oW (K := 64) (r := 4) wi_m_plate_64 (by decide +kernel)), rfl, rfl⟩
theorem dm_plate_69 : dn tm_plate 69 (.iconst 0) 1 70 := ⟨o_3 (oW (K := 64) (r := 5) wi_m_plate_64 (by decide +kernel)), rfl⟩
theorem dm_plate_70 : dl tm_plate 70 .iload_n .iload 4 72 := Or.inr ⟨o_21 4 (oW (K := 64) (r := 6) wi_m_plate_64 (by decide +kernel)), rfl⟩
theorem dm_plate_72 : dn tm_plate 72 (.invokevirtual 451) 3 75 := ⟨o_182 1 195 451 (oWd (K := 64) (r := 8) wi_m_plate_64 (by decide +kernel)), rfl⟩
theorem dm_plate_75 : dl tm_plate 75 .aload_n .aload 0 76 := Or.inl ⟨0, o_42 (oW (K := 64) (r := 11) wi_m_plate_64 (by decide +kernel)), rfl, rfl⟩
theorem dm_plate_76 : dn tm_plate 76 (.getfield 83) 3 79 := ⟨o_180 0 83 83 (oWd (K := 64) (r := 12) wi_m_plate_64 (by decide +kernel)), rfl⟩
theorem dm_plate_79 : dn tm_plate 79 (.bipush 10) 2 81 := ⟨o_16 10 10 (oWd (K := 64) (r := 15) wi_m_plate_64 (by decide +kernel)), rfl⟩
theorem dm_plate_81 : dl tm_plate 81 .iload_n .iload 1 82 := Or.inl ⟨1, o_27 (oW (K := 64) (r := 17) wi_m_plate_64 (by decide +kernel)), rfl, rfl⟩
theorem dm_plate_82 : dn tm_plate 82 (.iconst 1) 1 83 := ⟨o_4 (oW (K := 64) (r := 18) wi_m_plate_64 (by decide +kernel)), rfl⟩
theorem dm_plate_83 : dn tm_plate 83 (.isub) 1 84 := ⟨o_100 (oW (K := 64) (r := 19) wi_m_plate_64 (by decide +kernel)), rfl⟩
theorem dm_plate_84 : dn tm_plate 84 (.imul) 1 85 := ⟨o_104 (oW (K := 64) (r := 20) wi_m_plate_64 (by decide +kernel)), rfl⟩
theorem dm_plate_85 : dl tm_plate 85 .iload_n .iload 4 87 := Or.inr ⟨o_21 4 (oW (K := 64) (r := 21) wi_m_plate_64 (by decide +kernel)), rfl⟩
theorem dm_plate_87 : dn tm_plate 87 (.iadd) 1 88 := ⟨o_96 (oW (K := 64) (r := 23) wi_m_plate_64 (by decide +kernel)), rfl⟩
theorem dm_plate_88 : dn tm_plate 88 (.iaload) 1 89 := ⟨o_46 (oW (K := 64) (r := 24) wi_m_plate_64 (by decide +kernel)), rfl⟩
theorem dm_plate_89 : dn tm_plate 89 (.invokevirtual 400) 3 92 := ⟨o_182 1 144 400 (oWd (K := 64) (r := 25) wi_m_plate_64 (by decide +kernel)), rfl⟩
theorem dm_plate_92 : dl tm_plate 92 .iload_n .iload 3 93 := Or.inl ⟨3, o_29 (oW (K := 64) (r := 28) wi_m_plate_64 (by decide +kernel)), rfl, rfl⟩
theorem dm_plate_93 : db tm_plate 93 (.if_icmp .ne) 99 96 := ⟨6, o_160 0 6 6 (oWd (K := 64) (r := 29) wi_m_plate_64 (by decide +kernel)), rfl, rfl⟩
def wl_m_plate_96 : List Nat := [21, 4, 172, 132, 4, 1, 167, 255, 207, 2, 172]
theorem wi_m_plate_96 : oC tm_plate.2.1 96 wl_m_plate_96 = true := by decide +kernel
theorem dm_plate_96 : dl tm_plate 96 .iload_n .iload 4 98 := Or.inr ⟨o_21 4 (oW (K := 96) (r := 0) wi_m_plate_96 (by decide +kernel)), rfl⟩
theorem dm_plate_98 : dn tm_plate 98 (.ireturn) 1 99 := ⟨o_172 (oW (K := 96) (r := 2) wi_m_plate_96 (by decide +kernel)), rfl⟩
theorem dm_plate_99 : dn tm_plate 99 (.iinc 4 1) 3 102 := ⟨o_132 4 1 1 (oWd (K := 96) (r := 3) wi_m_plate_96 (by decide +kernel)), rfl⟩
theorem dm_plate_102 : db tm_plate 102 .goto 53 105 := ⟨-49, o_167 255 207 (-49) (oWd (K := 96) (r := 6) wi_m_plate_96 (by decide +kernel)), rfl, rfl⟩
theorem dm_plate_105 : dn tm_plate 105 (.iconst (-1)) 1 106 := ⟨o_2 (oW (K := 96) (r := 9) wi_m_plate_96 (by decide +kernel)), rfl⟩
theorem dm_plate_106 : dn tm_plate 106 (.ireturn) 1 107 := ⟨o_172 (oW (K := 96) (r := 10) wi_m_plate_96 (by decide +kernel)), rfl⟩
def wl_m_dough_0 : List Nat := [42, 3, 181, 0, 146, 27, 2, 160, 0, 10, 42, 3, 181, 1, 201, 3, 172, 42, 27, 4, 16, 30, 182, 0, 177, 153, 0, 12, 42, 180, 1, 201, 16, 8, 160, 0, 5, 2]
theorem wi_m_dough_0 : oC tm_dough.2.1 0 wl_m_dough_0 = true := by decide +kernel
theorem dm_dough_0 : dl tm_dough 0 .aload_n .aload 0 1 := Or.inl ⟨0, o_42 (oW (K := 0) (r := 0) wi_m_dough_0 (by decide +kernel)), rfl, rfl⟩
theorem dm_dough_1 : dn tm_dough 1 (.iconst 0) 1 2 := ⟨o_3 (oW (K := 0) (r := 1) wi_m_dough_0 (by decide +kernel)), rfl⟩
theorem dm_dough_2 : dn tm_dough 2 (.putfield 146) 3 5 := ⟨o_181 0 146 146 (oWd (K := 0) (r := 2) wi_m_dough_0 (by decide +kernel)), rfl⟩
theorem dm_dough_5 : dl tm_dough 5 .iload_n .iload 1 6 := Or.inl ⟨1, o_27 (oW (K := 0) (r := 5) wi_m_dough_0 (by decide +kernel)), rfl, rfl⟩
theorem dm_dough_6 : dn tm_dough 6 (.iconst (-1)) 1 7 := ⟨o_2 (oW (K := 0) (r := 6) wi_m_dough_0 (by decide +kernel)), rfl⟩
theorem dm_dough_7 : db tm_dough 7 (.if_icmp .ne) 17 10 := ⟨10, o_160 0 10 10 (oWd (K := 0) (r := 7) wi_m_dough_0 (by decide +kernel)), rfl, rfl⟩
theorem dm_dough_10 : dl tm_dough 10 .aload_n .aload 0 11 := Or.inl ⟨0, o_42 (oW (K := 0) (r := 10) wi_m_dough_0 (by decide +kernel)), rfl, rfl⟩
theorem dm_dough_11 : dn tm_dough 11 (.iconst 0) 1 12 := ⟨o_3 (oW (K := 0) (r := 11) wi_m_dough_0 (by decide +kernel)), rfl⟩
theorem dm_dough_12 : dn tm_dough 12 (.putfield 457) 3 15 := ⟨o_181 1 201 457 (oWd (K := 0) (r := 12) wi_m_dough_0 (by decide +kernel)), rfl⟩
theorem dm_dough_15 : dn tm_dough 15 (.iconst 0) 1 16 := ⟨o_3 (oW (K := 0) (r := 15) wi_m_dough_0 (by decide +kernel)), rfl⟩
theorem dm_dough_16 : dn tm_dough 16 (.ireturn) 1 17 := ⟨o_172 (oW (K := 0) (r := 16) wi_m_dough_0 (by decide +kernel)), rfl⟩
theorem dm_dough_17 : dl tm_dough 17 .aload_n .aload 0 18 := Or.inl ⟨0, o_42 (oW (K := 0) (r := 17) wi_m_dough_0 (by decide +kernel)), rfl, rfl⟩
theorem dm_dough_18 : dl tm_dough 18 .iload_n .iload 1 19 := Or.inl ⟨1, o_27 (oW (K := 0) (r := 18) wi_m_dough_0 (by decide +kernel)), rfl, rfl⟩
theorem dm_dough_19 : dn tm_dough 19 (.iconst 1) 1 20 := ⟨o_4 (oW (K := 0) (r := 19) wi_m_dough_0 (by decide +kernel)), rfl⟩
theorem dm_dough_20 : dn tm_dough 20 (.bipush 30) 2 22 := ⟨o_16 30 30 (oWd (K := 0) (r := 20) wi_m_dough_0 (by decide +kernel)), rfl⟩
theorem dm_dough_22 : dn tm_dough 22 (.invokevirtual 177) 3 25 := ⟨o_182 0 177 177 (oWd (K := 0) (r := 22) wi_m_dough_0 (by decide +kernel)), rfl⟩
theorem dm_dough_25 : db tm_dough 25 (.ifCond .eq) 37 28 := ⟨12, o_153 0 12 12 (oWd (K := 0) (r := 25) wi_m_dough_0 (by decide +kernel)), rfl, rfl⟩
theorem dm_dough_28 : dl tm_dough 28 .aload_n .aload 0 29 := Or.inl ⟨0, o_42 (oW (K := 0) (r := 28) wi_m_dough_0 (by decide +kernel)), rfl, rfl⟩
theorem dm_dough_29 : dn tm_dough 29 (.getfield 457) 3 32 := ⟨o_180 1 201 457 (oWd (K := 0) (r := 29) wi_m_dough_0 (by decide +kernel)), rfl⟩
def wl_m_dough_32 : List Nat := [16, 8, 160, 0, 5, 2, 172, 42, 180, 0, 86, 42, 180, 1, 201, 27, 79, 42, 42, 180, 1, 201, 4, 96, 181, 1, 201, 42, 180, 1, 201, 172]
theorem wi_m_dough_32 : oC tm_dough.2.1 32 wl_m_dough_32 = true := by decide +kernel
theorem dm_dough_32 : dn tm_dough 32 (.bipush 8) 2 34 := ⟨o_16 8 8 (oWd (K := 32) (r := 0) wi_m_dough_32 (by decide +kernel)), rfl⟩
theorem dm_dough_34 : db tm_dough 34 (.if_icmp .ne) 39 37 := ⟨5, o_160 0 5 5 (oWd (K := 32) (r := 2) wi_m_dough_32 (by decide +kernel)), rfl, rfl⟩
theorem dm_dough_37 : dn tm_dough 37 (.iconst (-1)) 1 38 := ⟨o_2 (oW (K := 32) (r := 5) wi_m_dough_32 (by decide +kernel)), rfl⟩
theorem dm_dough_38 : dn tm_dough 38 (.ireturn) 1 39 := ⟨o_172 (oW (K := 32) (r := 6) wi_m_dough_32 (by decide +kernel)), rfl⟩
theorem dm_dough_39 : dl tm_dough 39 .aload_n .aload 0 40 := Or.inl ⟨0, o_42 (oW (K := 32) (r := 7) wi_m_dough_32 (by decide +kernel)), rfl, rfl⟩
theorem dm_dough_40 : dn tm_dough 40 (.getfield 86) 3 43 := ⟨o_180 0 86 86 (oWd (K := 32) (r := 8) wi_m_dough_32 (by decide +kernel)), rfl⟩
theorem dm_dough_43 : dl tm_dough 43 .aload_n .aload 0 44 := Or.inl ⟨0, o_42 (oW (K := 32) (r := 11) wi_m_dough_32 (by decide +kernel)), rfl, rfl⟩
theorem dm_dough_44 : dn tm_dough 44 (.getfield 457) 3 47 := ⟨o_180 1 201 457 (oWd (K := 32) (r := 12) wi_m_dough_32 (by decide +kernel)), rfl⟩
theorem dm_dough_47 : dl tm_dough 47 .iload_n .iload 1 48 := Or.inl ⟨1, o_27 (oW (K := 32) (r := 15) wi_m_dough_32 (by decide +kernel)), rfl, rfl⟩
theorem dm_dough_48 : dn tm_dough 48 (.iastore) 1 49 := ⟨o_79 (oW (K := 32) (r := 16) wi_m_dough_32 (by decide +kernel)), rfl⟩
theorem dm_dough_49 : dl tm_dough 49 .aload_n .aload 0 50 := Or.inl ⟨0, o_42 (oW (K := 32) (r := 17) wi_m_dough_32 (by decide +kernel)), rfl, rfl⟩
theorem dm_dough_50 : dl tm_dough 50 .aload_n .aload 0 51 := Or.inl ⟨0, o_42 (oW (K := 32) (r := 18) wi_m_dough_32 (by decide +kernel)), rfl, rfl⟩
theorem dm_dough_51 : dn tm_dough 51 (.getfield 457) 3 54 := ⟨o_180 1 201 457 (oWd (K := 32) (r := 19) wi_m_dough_32 (by decide +kernel)), rfl⟩
theorem dm_dough_54 : dn tm_dough 54 (.iconst 1) 1 55 := ⟨o_4 (oW (K := 32) (r := 22) wi_m_dough_32 (by decide +kernel)), rfl⟩
theorem dm_dough_55 : dn tm_dough 55 (.iadd) 1 56 := ⟨o_96 (oW (K := 32) (r := 23) wi_m_dough_32 (by decide +kernel)), rfl⟩
theorem dm_dough_56 : dn tm_dough 56 (.putfield 457) 3 59 := ⟨o_181 1 201 457 (oWd (K := 32) (r := 24) wi_m_dough_32 (by decide +kernel)), rfl⟩
theorem dm_dough_59 : dl tm_dough 59 .aload_n .aload 0 60 := Or.inl ⟨0, o_42 (oW (K := 32) (r := 27) wi_m_dough_32 (by decide +kernel)), rfl, rfl⟩
theorem dm_dough_60 : dn tm_dough 60 (.getfield 457) 3 63 := ⟨o_180 1 201 457 (oWd (K := 32) (r := 28) wi_m_dough_32 (by decide +kernel)), rfl⟩
theorem dm_dough_63 : dn tm_dough 63 (.ireturn) 1 64 := ⟨o_172 (oW (K := 32) (r := 31) wi_m_dough_32 (by decide +kernel)), rfl⟩
def wl_m_withDough_0 : List Nat := [27, 16, 100, 108, 54, 4, 27, 16, 100, 112, 54, 5, 21, 4, 158, 0, 24, 21, 5, 28, 96, 29, 163, 0, 16, 16, 100, 21, 4, 104, 21, 5, 96, 28, 96, 167, 0, 12]
theorem wi_m_withDough_0 : oC tm_withDough.2.1 0 wl_m_withDough_0 = true := by decide +kernel
theorem dm_withDough_0 : dl tm_withDough 0 .iload_n .iload 1 1 := Or.inl ⟨1, o_27 (oW (K := 0) (r := 0) wi_m_withDough_0 (by decide +kernel)), rfl, rfl⟩
theorem dm_withDough_1 : dn tm_withDough 1 (.bipush 100) 2 3 := ⟨o_16 100 100 (oWd (K := 0) (r := 1) wi_m_withDough_0 (by decide +kernel)), rfl⟩
theorem dm_withDough_3 : dn tm_withDough 3 (.idiv) 1 4 := ⟨o_108 (oW (K := 0) (r := 3) wi_m_withDough_0 (by decide +kernel)), rfl⟩
theorem dm_withDough_4 : dl tm_withDough 4 .istore_n .istore 4 6 := Or.inr ⟨o_54 4 (oW (K := 0) (r := 4) wi_m_withDough_0 (by decide +kernel)), rfl⟩
theorem dm_withDough_6 : dl tm_withDough 6 .iload_n .iload 1 7 := Or.inl ⟨1, o_27 (oW (K := 0) (r := 6) wi_m_withDough_0 (by decide +kernel)), rfl, rfl⟩
theorem dm_withDough_7 : dn tm_withDough 7 (.bipush 100) 2 9 := ⟨o_16 100 100 (oWd (K := 0) (r := 7) wi_m_withDough_0 (by decide +kernel)), rfl⟩
theorem dm_withDough_9 : dn tm_withDough 9 (.irem) 1 10 := ⟨o_112 (oW (K := 0) (r := 9) wi_m_withDough_0 (by decide +kernel)), rfl⟩
theorem dm_withDough_10 : dl tm_withDough 10 .istore_n .istore 5 12 := Or.inr ⟨o_54 5 (oW (K := 0) (r := 10) wi_m_withDough_0 (by decide +kernel)), rfl⟩
theorem dm_withDough_12 : dl tm_withDough 12 .iload_n .iload 4 14 := Or.inr ⟨o_21 4 (oW (K := 0) (r := 12) wi_m_withDough_0 (by decide +kernel)), rfl⟩
theorem dm_withDough_14 : db tm_withDough 14 (.ifCond .le) 38 17 := ⟨24, o_158 0 24 24 (oWd (K := 0) (r := 14) wi_m_withDough_0 (by decide +kernel)), rfl, rfl⟩
theorem dm_withDough_17 : dl tm_withDough 17 .iload_n .iload 5 19 := Or.inr ⟨o_21 5 (oW (K := 0) (r := 17) wi_m_withDough_0 (by decide +kernel)), rfl⟩
theorem dm_withDough_19 : dl tm_withDough 19 .iload_n .iload 2 20 := Or.inl ⟨2, o_28 (oW (K := 0) (r := 19) wi_m_withDough_0 (by decide +kernel)), rfl, rfl⟩
theorem dm_withDough_20 : dn tm_withDough 20 (.iadd) 1 21 := ⟨o_96 (oW (K := 0) (r := 20) wi_m_withDough_0 (by decide +kernel)), rfl⟩
theorem dm_withDough_21 : dl tm_withDough 21 .iload_n .iload 3 22 := Or.inl ⟨3, o_29 (oW (K := 0) (r := 21) wi_m_withDough_0 (by decide +kernel)), rfl, rfl⟩
theorem dm_withDough_22 : db tm_withDough 22 (.if_icmp .gt) 38 25 := ⟨16, o_163 0 16 16 (oWd (K := 0) (r := 22) wi_m_withDough_0 (by decide +kernel)), rfl, rfl⟩
theorem dm_withDough_25 : dn tm_withDough 25 (.bipush 100) 2 27 := ⟨o_16 100 100 (oWd (K := 0) (r := 25) wi_m_withDough_0 (by decide +kernel)), rfl⟩
theorem dm_withDough_27 : dl tm_withDough 27 .iload_n .iload 4 29 := Or.inr ⟨o_21 4 (oW (K := 0) (r := 27) wi_m_withDough_0 (by decide +kernel)), rfl⟩
theorem dm_withDough_29 : dn tm_withDough 29 (.imul) 1 30 := ⟨o_104 (oW (K := 0) (r := 29) wi_m_withDough_0 (by decide +kernel)), rfl⟩
theorem dm_withDough_30 : dl tm_withDough 30 .iload_n .iload 5 32 := Or.inr ⟨o_21 5 (oW (K := 0) (r := 30) wi_m_withDough_0 (by decide +kernel)), rfl⟩
def wl_m_withDough_32 : List Nat := [96, 28, 96, 167, 0, 12, 16, 100, 21, 4, 4, 96, 104, 28, 96, 172]
theorem wi_m_withDough_32 : oC tm_withDough.2.1 32 wl_m_withDough_32 = true := by decide +kernel
theorem dm_withDough_32 : dn tm_withDough 32 (.iadd) 1 33 := ⟨o_96 (oW (K := 32) (r := 0) wi_m_withDough_32 (by decide +kernel)), rfl⟩
theorem dm_withDough_33 : dl tm_withDough 33 .iload_n .iload 2 34 := Or.inl ⟨2, o_28 (oW (K := 32) (r := 1) wi_m_withDough_32 (by decide +kernel)), rfl, rfl⟩
theorem dm_withDough_34 : dn tm_withDough 34 (.iadd) 1 35 := ⟨o_96 (oW (K := 32) (r := 2) wi_m_withDough_32 (by decide +kernel)), rfl⟩
theorem dm_withDough_35 : db tm_withDough 35 .goto 47 38 := ⟨12, o_167 0 12 12 (oWd (K := 32) (r := 3) wi_m_withDough_32 (by decide +kernel)), rfl, rfl⟩
theorem dm_withDough_38 : dn tm_withDough 38 (.bipush 100) 2 40 := ⟨o_16 100 100 (oWd (K := 32) (r := 6) wi_m_withDough_32 (by decide +kernel)), rfl⟩
theorem dm_withDough_40 : dl tm_withDough 40 .iload_n .iload 4 42 := Or.inr ⟨o_21 4 (oW (K := 32) (r := 8) wi_m_withDough_32 (by decide +kernel)), rfl⟩
theorem dm_withDough_42 : dn tm_withDough 42 (.iconst 1) 1 43 := ⟨o_4 (oW (K := 32) (r := 10) wi_m_withDough_32 (by decide +kernel)), rfl⟩
theorem dm_withDough_43 : dn tm_withDough 43 (.iadd) 1 44 := ⟨o_96 (oW (K := 32) (r := 11) wi_m_withDough_32 (by decide +kernel)), rfl⟩
theorem dm_withDough_44 : dn tm_withDough 44 (.imul) 1 45 := ⟨o_104 (oW (K := 32) (r := 12) wi_m_withDough_32 (by decide +kernel)), rfl⟩
theorem dm_withDough_45 : dl tm_withDough 45 .iload_n .iload 2 46 := Or.inl ⟨2, o_28 (oW (K := 32) (r := 13) wi_m_withDough_32 (by decide +kernel)), rfl, rfl⟩
theorem dm_withDough_46 : dn tm_withDough 46 (.iadd) 1 47 := ⟨o_96 (oW (K := 32) (r := 14) wi_m_withDough_32 (by decide +kernel)), rfl⟩
theorem dm_withDough_47 : dn tm_withDough 47 (.ireturn) 1 48 := ⟨o_172 (oW (K := 32) (r := 15) wi_m_withDough_32 (by decide +kernel)), rfl⟩
def wl_m_fewestPans_0 : List Nat := [42, 180, 0, 89, 3, 3, 79, 4, 61, 28, 4, 42, 180, 1, 201, 120, 162, 0, 82, 42, 180, 0, 89, 28, 19, 1, 180, 79, 3, 62, 29, 42, 180, 1, 201, 162, 0, 57]
theorem wi_m_fewestPans_0 : oC tm_fewestPans.2.1 0 wl_m_fewestPans_0 = true := by decide +kernel
theorem dm_fewestPans_0 : dl tm_fewestPans 0 .aload_n .aload 0 1 := Or.inl ⟨0, o_42 (oW (K := 0) (r := 0) wi_m_fewestPans_0 (by decide +kernel)), rfl, rfl⟩
theorem dm_fewestPans_1 : dn tm_fewestPans 1 (.getfield 89) 3 4 := ⟨o_180 0 89 89 (oWd (K := 0) (r := 1) wi_m_fewestPans_0 (by decide +kernel)), rfl⟩
theorem dm_fewestPans_4 : dn tm_fewestPans 4 (.iconst 0) 1 5 := ⟨o_3 (oW (K := 0) (r := 4) wi_m_fewestPans_0 (by decide +kernel)), rfl⟩
theorem dm_fewestPans_5 : dn tm_fewestPans 5 (.iconst 0) 1 6 := ⟨o_3 (oW (K := 0) (r := 5) wi_m_fewestPans_0 (by decide +kernel)), rfl⟩
theorem dm_fewestPans_6 : dn tm_fewestPans 6 (.iastore) 1 7 := ⟨o_79 (oW (K := 0) (r := 6) wi_m_fewestPans_0 (by decide +kernel)), rfl⟩
theorem dm_fewestPans_7 : dn tm_fewestPans 7 (.iconst 1) 1 8 := ⟨o_4 (oW (K := 0) (r := 7) wi_m_fewestPans_0 (by decide +kernel)), rfl⟩
theorem dm_fewestPans_8 : dl tm_fewestPans 8 .istore_n .istore 2 9 := Or.inl ⟨2, o_61 (oW (K := 0) (r := 8) wi_m_fewestPans_0 (by decide +kernel)), rfl, rfl⟩
theorem dm_fewestPans_9 : dl tm_fewestPans 9 .iload_n .iload 2 10 := Or.inl ⟨2, o_28 (oW (K := 0) (r := 9) wi_m_fewestPans_0 (by decide +kernel)), rfl, rfl⟩
theorem dm_fewestPans_10 : dn tm_fewestPans 10 (.iconst 1) 1 11 := ⟨o_4 (oW (K := 0) (r := 10) wi_m_fewestPans_0 (by decide +kernel)), rfl⟩
theorem dm_fewestPans_11 : dl tm_fewestPans 11 .aload_n .aload 0 12 := Or.inl ⟨0, o_42 (oW (K := 0) (r := 11) wi_m_fewestPans_0 (by decide +kernel)), rfl, rfl⟩
theorem dm_fewestPans_12 : dn tm_fewestPans 12 (.getfield 457) 3 15 := ⟨o_180 1 201 457 (oWd (K := 0) (r := 12) wi_m_fewestPans_0 (by decide +kernel)), rfl⟩
theorem dm_fewestPans_15 : dn tm_fewestPans 15 (.ishl) 1 16 := ⟨o_120 (oW (K := 0) (r := 15) wi_m_fewestPans_0 (by decide +kernel)), rfl⟩
theorem dm_fewestPans_16 : db tm_fewestPans 16 (.if_icmp .ge) 98 19 := ⟨82, o_162 0 82 82 (oWd (K := 0) (r := 16) wi_m_fewestPans_0 (by decide +kernel)), rfl, rfl⟩
theorem dm_fewestPans_19 : dl tm_fewestPans 19 .aload_n .aload 0 20 := Or.inl ⟨0, o_42 (oW (K := 0) (r := 19) wi_m_fewestPans_0 (by decide +kernel)), rfl, rfl⟩
theorem dm_fewestPans_20 : dn tm_fewestPans 20 (.getfield 89) 3 23 := ⟨o_180 0 89 89 (oWd (K := 0) (r := 20) wi_m_fewestPans_0 (by decide +kernel)), rfl⟩
theorem dm_fewestPans_23 : dl tm_fewestPans 23 .iload_n .iload 2 24 := Or.inl ⟨2, o_28 (oW (K := 0) (r := 23) wi_m_fewestPans_0 (by decide +kernel)), rfl, rfl⟩
theorem dm_fewestPans_24 : dn tm_fewestPans 24 (.ldc_w 436) 3 27 := ⟨o_19 1 180 436 (oWd (K := 0) (r := 24) wi_m_fewestPans_0 (by decide +kernel)), rfl⟩
theorem dm_fewestPans_27 : dn tm_fewestPans 27 (.iastore) 1 28 := ⟨o_79 (oW (K := 0) (r := 27) wi_m_fewestPans_0 (by decide +kernel)), rfl⟩
theorem dm_fewestPans_28 : dn tm_fewestPans 28 (.iconst 0) 1 29 := ⟨o_3 (oW (K := 0) (r := 28) wi_m_fewestPans_0 (by decide +kernel)), rfl⟩
theorem dm_fewestPans_29 : dl tm_fewestPans 29 .istore_n .istore 3 30 := Or.inl ⟨3, o_62 (oW (K := 0) (r := 29) wi_m_fewestPans_0 (by decide +kernel)), rfl, rfl⟩
theorem dm_fewestPans_30 : dl tm_fewestPans 30 .iload_n .iload 3 31 := Or.inl ⟨3, o_29 (oW (K := 0) (r := 30) wi_m_fewestPans_0 (by decide +kernel)), rfl, rfl⟩
theorem dm_fewestPans_31 : dl tm_fewestPans 31 .aload_n .aload 0 32 := Or.inl ⟨0, o_42 (oW (K := 0) (r := 31) wi_m_fewestPans_0 (by decide +kernel)), rfl, rfl⟩
def wl_m_fewestPans_32 : List Nat := [180, 1, 201, 162, 0, 57, 42, 28, 29, 182, 1, 104, 153, 0, 42, 42, 180, 0, 89, 28, 42, 42, 180, 0, 89, 28, 46, 42, 42, 180, 0, 89, 28, 4, 29, 120, 2, 130]
theorem wi_m_fewestPans_32 : oC tm_fewestPans.2.1 32 wl_m_fewestPans_32 = true := by decide +kernel
theorem dm_fewestPans_32 : dn tm_fewestPans 32 (.getfield 457) 3 35 := ⟨o_180 1 201 457 (oWd (K := 32) (r := 0) wi_m_fewestPans_32 (by decide +kernel)), rfl⟩
theorem dm_fewestPans_35 : db tm_fewestPans 35 (.if_icmp .ge) 92 38 := ⟨57, o_162 0 57 57 (oWd (K := 32) (r := 3) wi_m_fewestPans_32 (by decide +kernel)), rfl, rfl⟩
theorem dm_fewestPans_38 : dl tm_fewestPans 38 .aload_n .aload 0 39 := Or.inl ⟨0, o_42 (oW (K := 32) (r := 6) wi_m_fewestPans_32 (by decide +kernel)), rfl, rfl⟩
theorem dm_fewestPans_39 : dl tm_fewestPans 39 .iload_n .iload 2 40 := Or.inl ⟨2, o_28 (oW (K := 32) (r := 7) wi_m_fewestPans_32 (by decide +kernel)), rfl, rfl⟩
theorem dm_fewestPans_40 : dl tm_fewestPans 40 .iload_n .iload 3 41 := Or.inl ⟨3, o_29 (oW (K := 32) (r := 8) wi_m_fewestPans_32 (by decide +kernel)), rfl, rfl⟩
theorem dm_fewestPans_41 : dn tm_fewestPans 41 (.invokevirtual 360) 3 44 := ⟨o_182 1 104 360 (oWd (K := 32) (r := 9) wi_m_fewestPans_32 (by decide +kernel)), rfl⟩
theorem dm_fewestPans_44 : db tm_fewestPans 44 (.ifCond .eq) 86 47 := ⟨42, o_153 0 42 42 (oWd (K := 32) (r := 12) wi_m_fewestPans_32 (by decide +kernel)), rfl, rfl⟩
theorem dm_fewestPans_47 : dl tm_fewestPans 47 .aload_n .aload 0 48 := Or.inl ⟨0, o_42 (oW (K := 32) (r := 15) wi_m_fewestPans_32 (by decide +kernel)), rfl, rfl⟩
theorem dm_fewestPans_48 : dn tm_fewestPans 48 (.getfield 89) 3 51 := ⟨o_180 0 89 89 (oWd (K := 32) (r := 16) wi_m_fewestPans_32 (by decide +kernel)), rfl⟩
theorem dm_fewestPans_51 : dl tm_fewestPans 51 .iload_n .iload 2 52 := Or.inl ⟨2, o_28 (oW (K := 32) (r := 19) wi_m_fewestPans_32 (by decide +kernel)), rfl, rfl⟩
theorem dm_fewestPans_52 : dl tm_fewestPans 52 .aload_n .aload 0 53 := Or.inl ⟨0, o_42 (oW (K := 32) (r := 20) wi_m_fewestPans_32 (by decide +kernel)), rfl, rfl⟩
theorem dm_fewestPans_53 : dl tm_fewestPans 53 .aload_n .aload 0 54 := Or.inl ⟨0, o_42 (oW (K := 32) (r := 21) wi_m_fewestPans_32 (by decide +kernel)), rfl, rfl⟩
theorem dm_fewestPans_54 : dn tm_fewestPans 54 (.getfield 89) 3 57 := ⟨o_180 0 89 89 (oWd (K := 32) (r := 22) wi_m_fewestPans_32 (by decide +kernel)), rfl⟩
theorem dm_fewestPans_57 : dl tm_fewestPans 57 .iload_n .iload 2 58 := Or.inl ⟨2, o_28 (oW (K := 32) (r := 25) wi_m_fewestPans_32 (by decide +kernel)), rfl, rfl⟩
theorem dm_fewestPans_58 : dn tm_fewestPans 58 (.iaload) 1 59 := ⟨o_46 (oW (K := 32) (r := 26) wi_m_fewestPans_32 (by decide +kernel)), rfl⟩
theorem dm_fewestPans_59 : dl tm_fewestPans 59 .aload_n .aload 0 60 := Or.inl ⟨0, o_42 (oW (K := 32) (r := 27) wi_m_fewestPans_32 (by decide +kernel)), rfl, rfl⟩
theorem dm_fewestPans_60 : dl tm_fewestPans 60 .aload_n .aload 0 61 := Or.inl ⟨0, o_42 (oW (K := 32) (r := 28) wi_m_fewestPans_32 (by decide +kernel)), rfl, rfl⟩
theorem dm_fewestPans_61 : dn tm_fewestPans 61 (.getfield 89) 3 64 := ⟨o_180 0 89 89 (oWd (K := 32) (r := 29) wi_m_fewestPans_32 (by decide +kernel)), rfl⟩
def wl_m_fewestPans_64 : List Nat := [28, 4, 29, 120, 2, 130, 126, 46, 42, 180, 0, 86, 29, 46, 27, 182, 1, 204, 182, 1, 144, 79, 132, 3, 1, 167, 255, 197, 132, 2, 1, 167, 255, 170, 42, 180, 0, 89]
theorem wi_m_fewestPans_64 : oC tm_fewestPans.2.1 64 wl_m_fewestPans_64 = true := by decide +kernel
theorem dm_fewestPans_64 : dl tm_fewestPans 64 .iload_n .iload 2 65 := Or.inl ⟨2, o_28 (oW (K := 64) (r := 0) wi_m_fewestPans_64 (by decide +kernel)), rfl, rfl⟩
theorem dm_fewestPans_65 : dn tm_fewestPans 65 (.iconst 1) 1 66 := ⟨o_4 (oW (K := 64) (r := 1) wi_m_fewestPans_64 (by decide +kernel)), rfl⟩
theorem dm_fewestPans_66 : dl tm_fewestPans 66 .iload_n .iload 3 67 := Or.inl ⟨3, o_29 (oW (K := 64) (r := 2) wi_m_fewestPans_64 (by decide +kernel)), rfl, rfl⟩
theorem dm_fewestPans_67 : dn tm_fewestPans 67 (.ishl) 1 68 := ⟨o_120 (oW (K := 64) (r := 3) wi_m_fewestPans_64 (by decide +kernel)), rfl⟩
theorem dm_fewestPans_68 : dn tm_fewestPans 68 (.iconst (-1)) 1 69 := ⟨o_2 (oW (K := 64) (r := 4) wi_m_fewestPans_64 (by decide +kernel)), rfl⟩
theorem dm_fewestPans_69 : dn tm_fewestPans 69 (.ixor) 1 70 := ⟨o_130 (oW (K := 64) (r := 5) wi_m_fewestPans_64 (by decide +kernel)), rfl⟩
theorem dm_fewestPans_70 : dn tm_fewestPans 70 (.iand) 1 71 := ⟨o_126 (oW (K := 64) (r := 6) wi_m_fewestPans_64 (by decide +kernel)), rfl⟩
theorem dm_fewestPans_71 : dn tm_fewestPans 71 (.iaload) 1 72 := ⟨o_46 (oW (K := 64) (r := 7) wi_m_fewestPans_64 (by decide +kernel)), rfl⟩
theorem dm_fewestPans_72 : dl tm_fewestPans 72 .aload_n .aload 0 73 := Or.inl ⟨0, o_42 (oW (K := 64) (r := 8) wi_m_fewestPans_64 (by decide +kernel)), rfl, rfl⟩
theorem dm_fewestPans_73 : dn tm_fewestPans 73 (.getfield 86) 3 76 := ⟨o_180 0 86 86 (oWd (K := 64) (r := 9) wi_m_fewestPans_64 (by decide +kernel)), rfl⟩
theorem dm_fewestPans_76 : dl tm_fewestPans 76 .iload_n .iload 3 77 := Or.inl ⟨3, o_29 (oW (K := 64) (r := 12) wi_m_fewestPans_64 (by decide +kernel)), rfl, rfl⟩
theorem dm_fewestPans_77 : dn tm_fewestPans 77 (.iaload) 1 78 := ⟨o_46 (oW (K := 64) (r := 13) wi_m_fewestPans_64 (by decide +kernel)), rfl⟩
theorem dm_fewestPans_78 : dl tm_fewestPans 78 .iload_n .iload 1 79 := Or.inl ⟨1, o_27 (oW (K := 64) (r := 14) wi_m_fewestPans_64 (by decide +kernel)), rfl, rfl⟩
theorem dm_fewestPans_79 : dn tm_fewestPans 79 (.invokevirtual 460) 3 82 := ⟨o_182 1 204 460 (oWd (K := 64) (r := 15) wi_m_fewestPans_64 (by decide +kernel)), rfl⟩
theorem dm_fewestPans_82 : dn tm_fewestPans 82 (.invokevirtual 400) 3 85 := ⟨o_182 1 144 400 (oWd (K := 64) (r := 18) wi_m_fewestPans_64 (by decide +kernel)), rfl⟩
theorem dm_fewestPans_85 : dn tm_fewestPans 85 (.iastore) 1 86 := ⟨o_79 (oW (K := 64) (r := 21) wi_m_fewestPans_64 (by decide +kernel)), rfl⟩
theorem dm_fewestPans_86 : dn tm_fewestPans 86 (.iinc 3 1) 3 89 := ⟨o_132 3 1 1 (oWd (K := 64) (r := 22) wi_m_fewestPans_64 (by decide +kernel)), rfl⟩
theorem dm_fewestPans_89 : db tm_fewestPans 89 .goto 30 92 := ⟨-59, o_167 255 197 (-59) (oWd (K := 64) (r := 25) wi_m_fewestPans_64 (by decide +kernel)), rfl, rfl⟩
theorem dm_fewestPans_92 : dn tm_fewestPans 92 (.iinc 2 1) 3 95 := ⟨o_132 2 1 1 (oWd (K := 64) (r := 28) wi_m_fewestPans_64 (by decide +kernel)), rfl⟩
theorem dm_fewestPans_95 : db tm_fewestPans 95 .goto 9 98 := ⟨-86, o_167 255 170 (-86) (oWd (K := 64) (r := 31) wi_m_fewestPans_64 (by decide +kernel)), rfl, rfl⟩
def wl_m_fewestPans_96 : List Nat := [255, 170, 42, 180, 0, 89, 4, 42, 180, 1, 201, 120, 4, 100, 46, 16, 100, 108, 172]
theorem wi_m_fewestPans_96 : oC tm_fewestPans.2.1 96 wl_m_fewestPans_96 = true := by decide +kernel
theorem dm_fewestPans_98 : dl tm_fewestPans 98 .aload_n .aload 0 99 := Or.inl ⟨0, o_42 (oW (K := 96) (r := 2) wi_m_fewestPans_96 (by decide +kernel)), rfl, rfl⟩
theorem dm_fewestPans_99 : dn tm_fewestPans 99 (.getfield 89) 3 102 := ⟨o_180 0 89 89 (oWd (K := 96) (r := 3) wi_m_fewestPans_96 (by decide +kernel)), rfl⟩
theorem dm_fewestPans_102 : dn tm_fewestPans 102 (.iconst 1) 1 103 := ⟨o_4 (oW (K := 96) (r := 6) wi_m_fewestPans_96 (by decide +kernel)), rfl⟩
theorem dm_fewestPans_103 : dl tm_fewestPans 103 .aload_n .aload 0 104 := Or.inl ⟨0, o_42 (oW (K := 96) (r := 7) wi_m_fewestPans_96 (by decide +kernel)), rfl, rfl⟩
theorem dm_fewestPans_104 : dn tm_fewestPans 104 (.getfield 457) 3 107 := ⟨o_180 1 201 457 (oWd (K := 96) (r := 8) wi_m_fewestPans_96 (by decide +kernel)), rfl⟩
theorem dm_fewestPans_107 : dn tm_fewestPans 107 (.ishl) 1 108 := ⟨o_120 (oW (K := 96) (r := 11) wi_m_fewestPans_96 (by decide +kernel)), rfl⟩
theorem dm_fewestPans_108 : dn tm_fewestPans 108 (.iconst 1) 1 109 := ⟨o_4 (oW (K := 96) (r := 12) wi_m_fewestPans_96 (by decide +kernel)), rfl⟩
theorem dm_fewestPans_109 : dn tm_fewestPans 109 (.isub) 1 110 := ⟨o_100 (oW (K := 96) (r := 13) wi_m_fewestPans_96 (by decide +kernel)), rfl⟩
theorem dm_fewestPans_110 : dn tm_fewestPans 110 (.iaload) 1 111 := ⟨o_46 (oW (K := 96) (r := 14) wi_m_fewestPans_96 (by decide +kernel)), rfl⟩
theorem dm_fewestPans_111 : dn tm_fewestPans 111 (.bipush 100) 2 113 := ⟨o_16 100 100 (oWd (K := 96) (r := 15) wi_m_fewestPans_96 (by decide +kernel)), rfl⟩
theorem dm_fewestPans_113 : dn tm_fewestPans 113 (.idiv) 1 114 := ⟨o_108 (oW (K := 96) (r := 17) wi_m_fewestPans_96 (by decide +kernel)), rfl⟩
theorem dm_fewestPans_114 : dn tm_fewestPans 114 (.ireturn) 1 115 := ⟨o_172 (oW (K := 96) (r := 18) wi_m_fewestPans_96 (by decide +kernel)), rfl⟩
def wl_m_firstPans_0 : List Nat := [3, 61, 3, 62, 29, 42, 180, 1, 201, 162, 0, 82, 3, 54, 4, 21, 4, 28, 162, 0, 28, 42, 180, 0, 92, 21, 4, 46, 42, 180, 0, 86, 29, 46, 162, 0, 12, 21]
theorem wi_m_firstPans_0 : oC tm_firstPans.2.1 0 wl_m_firstPans_0 = true := by decide +kernel
theorem dm_firstPans_0 : dn tm_firstPans 0 (.iconst 0) 1 1 := ⟨o_3 (oW (K := 0) (r := 0) wi_m_firstPans_0 (by decide +kernel)), rfl⟩
theorem dm_firstPans_1 : dl tm_firstPans 1 .istore_n .istore 2 2 := Or.inl ⟨2, o_61 (oW (K := 0) (r := 1) wi_m_firstPans_0 (by decide +kernel)), rfl, rfl⟩
theorem dm_firstPans_2 : dn tm_firstPans 2 (.iconst 0) 1 3 := ⟨o_3 (oW (K := 0) (r := 2) wi_m_firstPans_0 (by decide +kernel)), rfl⟩
theorem dm_firstPans_3 : dl tm_firstPans 3 .istore_n .istore 3 4 := Or.inl ⟨3, o_62 (oW (K := 0) (r := 3) wi_m_firstPans_0 (by decide +kernel)), rfl, rfl⟩
theorem dm_firstPans_4 : dl tm_firstPans 4 .iload_n .iload 3 5 := Or.inl ⟨3, o_29 (oW (K := 0) (r := 4) wi_m_firstPans_0 (by decide +kernel)), rfl, rfl⟩
theorem dm_firstPans_5 : dl tm_firstPans 5 .aload_n .aload 0 6 := Or.inl ⟨0, o_42 (oW (K := 0) (r := 5) wi_m_firstPans_0 (by decide +kernel)), rfl, rfl⟩
theorem dm_firstPans_6 : dn tm_firstPans 6 (.getfield 457) 3 9 := ⟨o_180 1 201 457 (oWd (K := 0) (r := 6) wi_m_firstPans_0 (by decide +kernel)), rfl⟩
theorem dm_firstPans_9 : db tm_firstPans 9 (.if_icmp .ge) 91 12 := ⟨82, o_162 0 82 82 (oWd (K := 0) (r := 9) wi_m_firstPans_0 (by decide +kernel)), rfl, rfl⟩
theorem dm_firstPans_12 : dn tm_firstPans 12 (.iconst 0) 1 13 := ⟨o_3 (oW (K := 0) (r := 12) wi_m_firstPans_0 (by decide +kernel)), rfl⟩
theorem dm_firstPans_13 : dl tm_firstPans 13 .istore_n .istore 4 15 := Or.inr ⟨o_54 4 (oW (K := 0) (r := 13) wi_m_firstPans_0 (by decide +kernel)), rfl⟩
theorem dm_firstPans_15 : dl tm_firstPans 15 .iload_n .iload 4 17 := Or.inr ⟨o_21 4 (oW (K := 0) (r := 15) wi_m_firstPans_0 (by decide +kernel)), rfl⟩
theorem dm_firstPans_17 : dl tm_firstPans 17 .iload_n .iload 2 18 := Or.inl ⟨2, o_28 (oW (K := 0) (r := 17) wi_m_firstPans_0 (by decide +kernel)), rfl, rfl⟩
theorem dm_firstPans_18 : db tm_firstPans 18 (.if_icmp .ge) 46 21 := ⟨28, o_162 0 28 28 (oWd (K := 0) (r := 18) wi_m_firstPans_0 (by decide +kernel)), rfl, rfl⟩
theorem dm_firstPans_21 : dl tm_firstPans 21 .aload_n .aload 0 22 := Or.inl ⟨0, o_42 (oW (K := 0) (r := 21) wi_m_firstPans_0 (by decide +kernel)), rfl, rfl⟩
theorem dm_firstPans_22 : dn tm_firstPans 22 (.getfield 92) 3 25 := ⟨o_180 0 92 92 (oWd (K := 0) (r := 22) wi_m_firstPans_0 (by decide +kernel)), rfl⟩
theorem dm_firstPans_25 : dl tm_firstPans 25 .iload_n .iload 4 27 := Or.inr ⟨o_21 4 (oW (K := 0) (r := 25) wi_m_firstPans_0 (by decide +kernel)), rfl⟩
theorem dm_firstPans_27 : dn tm_firstPans 27 (.iaload) 1 28 := ⟨o_46 (oW (K := 0) (r := 27) wi_m_firstPans_0 (by decide +kernel)), rfl⟩
theorem dm_firstPans_28 : dl tm_firstPans 28 .aload_n .aload 0 29 := Or.inl ⟨0, o_42 (oW (K := 0) (r := 28) wi_m_firstPans_0 (by decide +kernel)), rfl, rfl⟩
theorem dm_firstPans_29 : dn tm_firstPans 29 (.getfield 86) 3 32 := ⟨o_180 0 86 86 (oWd (K := 0) (r := 29) wi_m_firstPans_0 (by decide +kernel)), rfl⟩
def wl_m_firstPans_32 : List Nat := [29, 46, 162, 0, 12, 21, 4, 4, 96, 54, 4, 167, 255, 228, 21, 4, 28, 160, 0, 15, 42, 180, 0, 92, 21, 4, 27, 79, 28, 4, 96, 61, 42, 180, 0, 92, 21, 4]
theorem wi_m_firstPans_32 : oC tm_firstPans.2.1 32 wl_m_firstPans_32 = true := by decide +kernel
theorem dm_firstPans_32 : dl tm_firstPans 32 .iload_n .iload 3 33 := Or.inl ⟨3, o_29 (oW (K := 32) (r := 0) wi_m_firstPans_32 (by decide +kernel)), rfl, rfl⟩
theorem dm_firstPans_33 : dn tm_firstPans 33 (.iaload) 1 34 := ⟨o_46 (oW (K := 32) (r := 1) wi_m_firstPans_32 (by decide +kernel)), rfl⟩
theorem dm_firstPans_34 : db tm_firstPans 34 (.if_icmp .ge) 46 37 := ⟨12, o_162 0 12 12 (oWd (K := 32) (r := 2) wi_m_firstPans_32 (by decide +kernel)), rfl, rfl⟩
theorem dm_firstPans_37 : dl tm_firstPans 37 .iload_n .iload 4 39 := Or.inr ⟨o_21 4 (oW (K := 32) (r := 5) wi_m_firstPans_32 (by decide +kernel)), rfl⟩
theorem dm_firstPans_39 : dn tm_firstPans 39 (.iconst 1) 1 40 := ⟨o_4 (oW (K := 32) (r := 7) wi_m_firstPans_32 (by decide +kernel)), rfl⟩
theorem dm_firstPans_40 : dn tm_firstPans 40 (.iadd) 1 41 := ⟨o_96 (oW (K := 32) (r := 8) wi_m_firstPans_32 (by decide +kernel)), rfl⟩
theorem dm_firstPans_41 : dl tm_firstPans 41 .istore_n .istore 4 43 := Or.inr ⟨o_54 4 (oW (K := 32) (r := 9) wi_m_firstPans_32 (by decide +kernel)), rfl⟩
theorem dm_firstPans_43 : db tm_firstPans 43 .goto 15 46 := ⟨-28, o_167 255 228 (-28) (oWd (K := 32) (r := 11) wi_m_firstPans_32 (by decide +kernel)), rfl, rfl⟩
theorem dm_firstPans_46 : dl tm_firstPans 46 .iload_n .iload 4 48 := Or.inr ⟨o_21 4 (oW (K := 32) (r := 14) wi_m_firstPans_32 (by decide +kernel)), rfl⟩
theorem dm_firstPans_48 : dl tm_firstPans 48 .iload_n .iload 2 49 := Or.inl ⟨2, o_28 (oW (K := 32) (r := 16) wi_m_firstPans_32 (by decide +kernel)), rfl, rfl⟩
theorem dm_firstPans_49 : db tm_firstPans 49 (.if_icmp .ne) 64 52 := ⟨15, o_160 0 15 15 (oWd (K := 32) (r := 17) wi_m_firstPans_32 (by decide +kernel)), rfl, rfl⟩
theorem dm_firstPans_52 : dl tm_firstPans 52 .aload_n .aload 0 53 := Or.inl ⟨0, o_42 (oW (K := 32) (r := 20) wi_m_firstPans_32 (by decide +kernel)), rfl, rfl⟩
theorem dm_firstPans_53 : dn tm_firstPans 53 (.getfield 92) 3 56 := ⟨o_180 0 92 92 (oWd (K := 32) (r := 21) wi_m_firstPans_32 (by decide +kernel)), rfl⟩
theorem dm_firstPans_56 : dl tm_firstPans 56 .iload_n .iload 4 58 := Or.inr ⟨o_21 4 (oW (K := 32) (r := 24) wi_m_firstPans_32 (by decide +kernel)), rfl⟩
theorem dm_firstPans_58 : dl tm_firstPans 58 .iload_n .iload 1 59 := Or.inl ⟨1, o_27 (oW (K := 32) (r := 26) wi_m_firstPans_32 (by decide +kernel)), rfl, rfl⟩
theorem dm_firstPans_59 : dn tm_firstPans 59 (.iastore) 1 60 := ⟨o_79 (oW (K := 32) (r := 27) wi_m_firstPans_32 (by decide +kernel)), rfl⟩
theorem dm_firstPans_60 : dl tm_firstPans 60 .iload_n .iload 2 61 := Or.inl ⟨2, o_28 (oW (K := 32) (r := 28) wi_m_firstPans_32 (by decide +kernel)), rfl, rfl⟩
theorem dm_firstPans_61 : dn tm_firstPans 61 (.iconst 1) 1 62 := ⟨o_4 (oW (K := 32) (r := 29) wi_m_firstPans_32 (by decide +kernel)), rfl⟩
theorem dm_firstPans_62 : dn tm_firstPans 62 (.iadd) 1 63 := ⟨o_96 (oW (K := 32) (r := 30) wi_m_firstPans_32 (by decide +kernel)), rfl⟩
theorem dm_firstPans_63 : dl tm_firstPans 63 .istore_n .istore 2 64 := Or.inl ⟨2, o_61 (oW (K := 32) (r := 31) wi_m_firstPans_32 (by decide +kernel)), rfl, rfl⟩
def wl_m_firstPans_64 : List Nat := [42, 180, 0, 92, 21, 4, 42, 180, 0, 92, 21, 4, 46, 42, 180, 0, 86, 29, 46, 100, 79, 132, 3, 1, 167, 255, 172, 28, 172]
theorem wi_m_firstPans_64 : oC tm_firstPans.2.1 64 wl_m_firstPans_64 = true := by decide +kernel
theorem dm_firstPans_64 : dl tm_firstPans 64 .aload_n .aload 0 65 := Or.inl ⟨0, o_42 (oW (K := 64) (r := 0) wi_m_firstPans_64 (by decide +kernel)), rfl, rfl⟩
theorem dm_firstPans_65 : dn tm_firstPans 65 (.getfield 92) 3 68 := ⟨o_180 0 92 92 (oWd (K := 64) (r := 1) wi_m_firstPans_64 (by decide +kernel)), rfl⟩
theorem dm_firstPans_68 : dl tm_firstPans 68 .iload_n .iload 4 70 := Or.inr ⟨o_21 4 (oW (K := 64) (r := 4) wi_m_firstPans_64 (by decide +kernel)), rfl⟩
theorem dm_firstPans_70 : dl tm_firstPans 70 .aload_n .aload 0 71 := Or.inl ⟨0, o_42 (oW (K := 64) (r := 6) wi_m_firstPans_64 (by decide +kernel)), rfl, rfl⟩
theorem dm_firstPans_71 : dn tm_firstPans 71 (.getfield 92) 3 74 := ⟨o_180 0 92 92 (oWd (K := 64) (r := 7) wi_m_firstPans_64 (by decide +kernel)), rfl⟩
theorem dm_firstPans_74 : dl tm_firstPans 74 .iload_n .iload 4 76 := Or.inr ⟨o_21 4 (oW (K := 64) (r := 10) wi_m_firstPans_64 (by decide +kernel)), rfl⟩
theorem dm_firstPans_76 : dn tm_firstPans 76 (.iaload) 1 77 := ⟨o_46 (oW (K := 64) (r := 12) wi_m_firstPans_64 (by decide +kernel)), rfl⟩
theorem dm_firstPans_77 : dl tm_firstPans 77 .aload_n .aload 0 78 := Or.inl ⟨0, o_42 (oW (K := 64) (r := 13) wi_m_firstPans_64 (by decide +kernel)), rfl, rfl⟩
theorem dm_firstPans_78 : dn tm_firstPans 78 (.getfield 86) 3 81 := ⟨o_180 0 86 86 (oWd (K := 64) (r := 14) wi_m_firstPans_64 (by decide +kernel)), rfl⟩
theorem dm_firstPans_81 : dl tm_firstPans 81 .iload_n .iload 3 82 := Or.inl ⟨3, o_29 (oW (K := 64) (r := 17) wi_m_firstPans_64 (by decide +kernel)), rfl, rfl⟩
theorem dm_firstPans_82 : dn tm_firstPans 82 (.iaload) 1 83 := ⟨o_46 (oW (K := 64) (r := 18) wi_m_firstPans_64 (by decide +kernel)), rfl⟩
theorem dm_firstPans_83 : dn tm_firstPans 83 (.isub) 1 84 := ⟨o_100 (oW (K := 64) (r := 19) wi_m_firstPans_64 (by decide +kernel)), rfl⟩
theorem dm_firstPans_84 : dn tm_firstPans 84 (.iastore) 1 85 := ⟨o_79 (oW (K := 64) (r := 20) wi_m_firstPans_64 (by decide +kernel)), rfl⟩
theorem dm_firstPans_85 : dn tm_firstPans 85 (.iinc 3 1) 3 88 := ⟨o_132 3 1 1 (oWd (K := 64) (r := 21) wi_m_firstPans_64 (by decide +kernel)), rfl⟩
theorem dm_firstPans_88 : db tm_firstPans 88 .goto 4 91 := ⟨-84, o_167 255 172 (-84) (oWd (K := 64) (r := 24) wi_m_firstPans_64 (by decide +kernel)), rfl, rfl⟩
theorem dm_firstPans_91 : dl tm_firstPans 91 .iload_n .iload 2 92 := Or.inl ⟨2, o_28 (oW (K := 64) (r := 27) wi_m_firstPans_64 (by decide +kernel)), rfl, rfl⟩
theorem dm_firstPans_92 : dn tm_firstPans 92 (.ireturn) 1 93 := ⟨o_172 (oW (K := 64) (r := 28) wi_m_firstPans_64 (by decide +kernel)), rfl⟩
def wl_m_pans_0 : List Nat := [42, 3, 181, 0, 146, 42, 27, 4, 16, 60, 182, 0, 177, 153, 0, 13, 42, 28, 3, 4, 182, 0, 177, 154, 0, 5, 2, 172, 3, 62, 29, 42, 180, 1, 201, 162, 0, 21]
theorem wi_m_pans_0 : oC tm_pans.2.1 0 wl_m_pans_0 = true := by decide +kernel
theorem dm_pans_0 : dl tm_pans 0 .aload_n .aload 0 1 := Or.inl ⟨0, o_42 (oW (K := 0) (r := 0) wi_m_pans_0 (by decide +kernel)), rfl, rfl⟩
theorem dm_pans_1 : dn tm_pans 1 (.iconst 0) 1 2 := ⟨o_3 (oW (K := 0) (r := 1) wi_m_pans_0 (by decide +kernel)), rfl⟩
theorem dm_pans_2 : dn tm_pans 2 (.putfield 146) 3 5 := ⟨o_181 0 146 146 (oWd (K := 0) (r := 2) wi_m_pans_0 (by decide +kernel)), rfl⟩
theorem dm_pans_5 : dl tm_pans 5 .aload_n .aload 0 6 := Or.inl ⟨0, o_42 (oW (K := 0) (r := 5) wi_m_pans_0 (by decide +kernel)), rfl, rfl⟩
theorem dm_pans_6 : dl tm_pans 6 .iload_n .iload 1 7 := Or.inl ⟨1, o_27 (oW (K := 0) (r := 6) wi_m_pans_0 (by decide +kernel)), rfl, rfl⟩
theorem dm_pans_7 : dn tm_pans 7 (.iconst 1) 1 8 := ⟨o_4 (oW (K := 0) (r := 7) wi_m_pans_0 (by decide +kernel)), rfl⟩
theorem dm_pans_8 : dn tm_pans 8 (.bipush 60) 2 10 := ⟨o_16 60 60 (oWd (K := 0) (r := 8) wi_m_pans_0 (by decide +kernel)), rfl⟩
theorem dm_pans_10 : dn tm_pans 10 (.invokevirtual 177) 3 13 := ⟨o_182 0 177 177 (oWd (K := 0) (r := 10) wi_m_pans_0 (by decide +kernel)), rfl⟩
theorem dm_pans_13 : db tm_pans 13 (.ifCond .eq) 26 16 := ⟨13, o_153 0 13 13 (oWd (K := 0) (r := 13) wi_m_pans_0 (by decide +kernel)), rfl, rfl⟩
theorem dm_pans_16 : dl tm_pans 16 .aload_n .aload 0 17 := Or.inl ⟨0, o_42 (oW (K := 0) (r := 16) wi_m_pans_0 (by decide +kernel)), rfl, rfl⟩
theorem dm_pans_17 : dl tm_pans 17 .iload_n .iload 2 18 := Or.inl ⟨2, o_28 (oW (K := 0) (r := 17) wi_m_pans_0 (by decide +kernel)), rfl, rfl⟩
theorem dm_pans_18 : dn tm_pans 18 (.iconst 0) 1 19 := ⟨o_3 (oW (K := 0) (r := 18) wi_m_pans_0 (by decide +kernel)), rfl⟩
theorem dm_pans_19 : dn tm_pans 19 (.iconst 1) 1 20 := ⟨o_4 (oW (K := 0) (r := 19) wi_m_pans_0 (by decide +kernel)), rfl⟩
theorem dm_pans_20 : dn tm_pans 20 (.invokevirtual 177) 3 23 := ⟨o_182 0 177 177 (oWd (K := 0) (r := 20) wi_m_pans_0 (by decide +kernel)), rfl⟩
theorem dm_pans_23 : db tm_pans 23 (.ifCond .ne) 28 26 := ⟨5, o_154 0 5 5 (oWd (K := 0) (r := 23) wi_m_pans_0 (by decide +kernel)), rfl, rfl⟩
theorem dm_pans_26 : dn tm_pans 26 (.iconst (-1)) 1 27 := ⟨o_2 (oW (K := 0) (r := 26) wi_m_pans_0 (by decide +kernel)), rfl⟩
theorem dm_pans_27 : dn tm_pans 27 (.ireturn) 1 28 := ⟨o_172 (oW (K := 0) (r := 27) wi_m_pans_0 (by decide +kernel)), rfl⟩
theorem dm_pans_28 : dn tm_pans 28 (.iconst 0) 1 29 := ⟨o_3 (oW (K := 0) (r := 28) wi_m_pans_0 (by decide +kernel)), rfl⟩
theorem dm_pans_29 : dl tm_pans 29 .istore_n .istore 3 30 := Or.inl ⟨3, o_62 (oW (K := 0) (r := 29) wi_m_pans_0 (by decide +kernel)), rfl, rfl⟩
theorem dm_pans_30 : dl tm_pans 30 .iload_n .iload 3 31 := Or.inl ⟨3, o_29 (oW (K := 0) (r := 30) wi_m_pans_0 (by decide +kernel)), rfl, rfl⟩
theorem dm_pans_31 : dl tm_pans 31 .aload_n .aload 0 32 := Or.inl ⟨0, o_42 (oW (K := 0) (r := 31) wi_m_pans_0 (by decide +kernel)), rfl, rfl⟩
def wl_m_pans_32 : List Nat := [180, 1, 201, 162, 0, 21, 42, 180, 0, 86, 29, 46, 27, 164, 0, 5, 2, 172, 132, 3, 1, 167, 255, 233, 28, 154, 0, 11, 42, 27, 182, 1, 207, 167, 0, 8, 42, 27]
theorem wi_m_pans_32 : oC tm_pans.2.1 32 wl_m_pans_32 = true := by decide +kernel
theorem dm_pans_32 : dn tm_pans 32 (.getfield 457) 3 35 := ⟨o_180 1 201 457 (oWd (K := 32) (r := 0) wi_m_pans_32 (by decide +kernel)), rfl⟩
theorem dm_pans_35 : db tm_pans 35 (.if_icmp .ge) 56 38 := ⟨21, o_162 0 21 21 (oWd (K := 32) (r := 3) wi_m_pans_32 (by decide +kernel)), rfl, rfl⟩
theorem dm_pans_38 : dl tm_pans 38 .aload_n .aload 0 39 := Or.inl ⟨0, o_42 (oW (K := 32) (r := 6) wi_m_pans_32 (by decide +kernel)), rfl, rfl⟩
theorem dm_pans_39 : dn tm_pans 39 (.getfield 86) 3 42 := ⟨o_180 0 86 86 (oWd (K := 32) (r := 7) wi_m_pans_32 (by decide +kernel)), rfl⟩
theorem dm_pans_42 : dl tm_pans 42 .iload_n .iload 3 43 := Or.inl ⟨3, o_29 (oW (K := 32) (r := 10) wi_m_pans_32 (by decide +kernel)), rfl, rfl⟩
theorem dm_pans_43 : dn tm_pans 43 (.iaload) 1 44 := ⟨o_46 (oW (K := 32) (r := 11) wi_m_pans_32 (by decide +kernel)), rfl⟩
theorem dm_pans_44 : dl tm_pans 44 .iload_n .iload 1 45 := Or.inl ⟨1, o_27 (oW (K := 32) (r := 12) wi_m_pans_32 (by decide +kernel)), rfl, rfl⟩
theorem dm_pans_45 : db tm_pans 45 (.if_icmp .le) 50 48 := ⟨5, o_164 0 5 5 (oWd (K := 32) (r := 13) wi_m_pans_32 (by decide +kernel)), rfl, rfl⟩
theorem dm_pans_48 : dn tm_pans 48 (.iconst (-1)) 1 49 := ⟨o_2 (oW (K := 32) (r := 16) wi_m_pans_32 (by decide +kernel)), rfl⟩
theorem dm_pans_49 : dn tm_pans 49 (.ireturn) 1 50 := ⟨o_172 (oW (K := 32) (r := 17) wi_m_pans_32 (by decide +kernel)), rfl⟩
theorem dm_pans_50 : dn tm_pans 50 (.iinc 3 1) 3 53 := ⟨o_132 3 1 1 (oWd (K := 32) (r := 18) wi_m_pans_32 (by decide +kernel)), rfl⟩
theorem dm_pans_53 : db tm_pans 53 .goto 30 56 := ⟨-23, o_167 255 233 (-23) (oWd (K := 32) (r := 21) wi_m_pans_32 (by decide +kernel)), rfl, rfl⟩
theorem dm_pans_56 : dl tm_pans 56 .iload_n .iload 2 57 := Or.inl ⟨2, o_28 (oW (K := 32) (r := 24) wi_m_pans_32 (by decide +kernel)), rfl, rfl⟩
theorem dm_pans_57 : db tm_pans 57 (.ifCond .ne) 68 60 := ⟨11, o_154 0 11 11 (oWd (K := 32) (r := 25) wi_m_pans_32 (by decide +kernel)), rfl, rfl⟩
theorem dm_pans_60 : dl tm_pans 60 .aload_n .aload 0 61 := Or.inl ⟨0, o_42 (oW (K := 32) (r := 28) wi_m_pans_32 (by decide +kernel)), rfl, rfl⟩
theorem dm_pans_61 : dl tm_pans 61 .iload_n .iload 1 62 := Or.inl ⟨1, o_27 (oW (K := 32) (r := 29) wi_m_pans_32 (by decide +kernel)), rfl, rfl⟩
theorem dm_pans_62 : dn tm_pans 62 (.invokevirtual 463) 3 65 := ⟨o_182 1 207 463 (oWd (K := 32) (r := 30) wi_m_pans_32 (by decide +kernel)), rfl⟩
def wl_m_pans_64 : List Nat := [207, 167, 0, 8, 42, 27, 182, 1, 210, 172]
theorem wi_m_pans_64 : oC tm_pans.2.1 64 wl_m_pans_64 = true := by decide +kernel
theorem dm_pans_65 : db tm_pans 65 .goto 73 68 := ⟨8, o_167 0 8 8 (oWd (K := 64) (r := 1) wi_m_pans_64 (by decide +kernel)), rfl, rfl⟩
theorem dm_pans_68 : dl tm_pans 68 .aload_n .aload 0 69 := Or.inl ⟨0, o_42 (oW (K := 64) (r := 4) wi_m_pans_64 (by decide +kernel)), rfl, rfl⟩
theorem dm_pans_69 : dl tm_pans 69 .iload_n .iload 1 70 := Or.inl ⟨1, o_27 (oW (K := 64) (r := 5) wi_m_pans_64 (by decide +kernel)), rfl, rfl⟩
theorem dm_pans_70 : dn tm_pans 70 (.invokevirtual 466) 3 73 := ⟨o_182 1 210 466 (oWd (K := 64) (r := 6) wi_m_pans_64 (by decide +kernel)), rfl⟩
theorem dm_pans_73 : dn tm_pans 73 (.ireturn) 1 74 := ⟨o_172 (oW (K := 64) (r := 9) wi_m_pans_64 (by decide +kernel)), rfl⟩
def wl_m_mortgage_0 : List Nat := [42, 3, 181, 0, 146, 42, 27, 4, 17, 39, 15, 182, 0, 177, 153, 0, 37, 42, 28, 3, 16, 50, 182, 0, 177, 153, 0, 26, 42, 29, 4, 17, 3, 231, 182, 0, 177, 153]
theorem wi_m_mortgage_0 : oC tm_mortgage.2.1 0 wl_m_mortgage_0 = true := by decide +kernel
theorem dm_mortgage_0 : dl tm_mortgage 0 .aload_n .aload 0 1 := Or.inl ⟨0, o_42 (oW (K := 0) (r := 0) wi_m_mortgage_0 (by decide +kernel)), rfl, rfl⟩
theorem dm_mortgage_1 : dn tm_mortgage 1 (.iconst 0) 1 2 := ⟨o_3 (oW (K := 0) (r := 1) wi_m_mortgage_0 (by decide +kernel)), rfl⟩
theorem dm_mortgage_2 : dn tm_mortgage 2 (.putfield 146) 3 5 := ⟨o_181 0 146 146 (oWd (K := 0) (r := 2) wi_m_mortgage_0 (by decide +kernel)), rfl⟩
theorem dm_mortgage_5 : dl tm_mortgage 5 .aload_n .aload 0 6 := Or.inl ⟨0, o_42 (oW (K := 0) (r := 5) wi_m_mortgage_0 (by decide +kernel)), rfl, rfl⟩
theorem dm_mortgage_6 : dl tm_mortgage 6 .iload_n .iload 1 7 := Or.inl ⟨1, o_27 (oW (K := 0) (r := 6) wi_m_mortgage_0 (by decide +kernel)), rfl, rfl⟩
theorem dm_mortgage_7 : dn tm_mortgage 7 (.iconst 1) 1 8 := ⟨o_4 (oW (K := 0) (r := 7) wi_m_mortgage_0 (by decide +kernel)), rfl⟩
theorem dm_mortgage_8 : dn tm_mortgage 8 (.sipush 9999) 3 11 := ⟨o_17 39 15 9999 (oWd (K := 0) (r := 8) wi_m_mortgage_0 (by decide +kernel)), rfl⟩
theorem dm_mortgage_11 : dn tm_mortgage 11 (.invokevirtual 177) 3 14 := ⟨o_182 0 177 177 (oWd (K := 0) (r := 11) wi_m_mortgage_0 (by decide +kernel)), rfl⟩
theorem dm_mortgage_14 : db tm_mortgage 14 (.ifCond .eq) 51 17 := ⟨37, o_153 0 37 37 (oWd (K := 0) (r := 14) wi_m_mortgage_0 (by decide +kernel)), rfl, rfl⟩
theorem dm_mortgage_17 : dl tm_mortgage 17 .aload_n .aload 0 18 := Or.inl ⟨0, o_42 (oW (K := 0) (r := 17) wi_m_mortgage_0 (by decide +kernel)), rfl, rfl⟩
theorem dm_mortgage_18 : dl tm_mortgage 18 .iload_n .iload 2 19 := Or.inl ⟨2, o_28 (oW (K := 0) (r := 18) wi_m_mortgage_0 (by decide +kernel)), rfl, rfl⟩
theorem dm_mortgage_19 : dn tm_mortgage 19 (.iconst 0) 1 20 := ⟨o_3 (oW (K := 0) (r := 19) wi_m_mortgage_0 (by decide +kernel)), rfl⟩
theorem dm_mortgage_20 : dn tm_mortgage 20 (.bipush 50) 2 22 := ⟨o_16 50 50 (oWd (K := 0) (r := 20) wi_m_mortgage_0 (by decide +kernel)), rfl⟩
theorem dm_mortgage_22 : dn tm_mortgage 22 (.invokevirtual 177) 3 25 := ⟨o_182 0 177 177 (oWd (K := 0) (r := 22) wi_m_mortgage_0 (by decide +kernel)), rfl⟩
theorem dm_mortgage_25 : db tm_mortgage 25 (.ifCond .eq) 51 28 := ⟨26, o_153 0 26 26 (oWd (K := 0) (r := 25) wi_m_mortgage_0 (by decide +kernel)), rfl, rfl⟩
theorem dm_mortgage_28 : dl tm_mortgage 28 .aload_n .aload 0 29 := Or.inl ⟨0, o_42 (oW (K := 0) (r := 28) wi_m_mortgage_0 (by decide +kernel)), rfl, rfl⟩
theorem dm_mortgage_29 : dl tm_mortgage 29 .iload_n .iload 3 30 := Or.inl ⟨3, o_29 (oW (K := 0) (r := 29) wi_m_mortgage_0 (by decide +kernel)), rfl, rfl⟩
theorem dm_mortgage_30 : dn tm_mortgage 30 (.iconst 1) 1 31 := ⟨o_4 (oW (K := 0) (r := 30) wi_m_mortgage_0 (by decide +kernel)), rfl⟩
theorem dm_mortgage_31 : dn tm_mortgage 31 (.sipush 999) 3 34 := ⟨o_17 3 231 999 (oWd (K := 0) (r := 31) wi_m_mortgage_0 (by decide +kernel)), rfl⟩
def wl_m_mortgage_32 : List Nat := [3, 231, 182, 0, 177, 153, 0, 14, 42, 21, 4, 3, 4, 182, 0, 177, 154, 0, 5, 2, 172, 27, 54, 5, 3, 54, 6, 4, 54, 7, 21, 7, 17, 1, 144, 163, 0, 79]
theorem wi_m_mortgage_32 : oC tm_mortgage.2.1 32 wl_m_mortgage_32 = true := by decide +kernel
theorem dm_mortgage_34 : dn tm_mortgage 34 (.invokevirtual 177) 3 37 := ⟨o_182 0 177 177 (oWd (K := 32) (r := 2) wi_m_mortgage_32 (by decide +kernel)), rfl⟩
theorem dm_mortgage_37 : db tm_mortgage 37 (.ifCond .eq) 51 40 := ⟨14, o_153 0 14 14 (oWd (K := 32) (r := 5) wi_m_mortgage_32 (by decide +kernel)), rfl, rfl⟩
theorem dm_mortgage_40 : dl tm_mortgage 40 .aload_n .aload 0 41 := Or.inl ⟨0, o_42 (oW (K := 32) (r := 8) wi_m_mortgage_32 (by decide +kernel)), rfl, rfl⟩
theorem dm_mortgage_41 : dl tm_mortgage 41 .iload_n .iload 4 43 := Or.inr ⟨o_21 4 (oW (K := 32) (r := 9) wi_m_mortgage_32 (by decide +kernel)), rfl⟩
theorem dm_mortgage_43 : dn tm_mortgage 43 (.iconst 0) 1 44 := ⟨o_3 (oW (K := 32) (r := 11) wi_m_mortgage_32 (by decide +kernel)), rfl⟩
theorem dm_mortgage_44 : dn tm_mortgage 44 (.iconst 1) 1 45 := ⟨o_4 (oW (K := 32) (r := 12) wi_m_mortgage_32 (by decide +kernel)), rfl⟩
theorem dm_mortgage_45 : dn tm_mortgage 45 (.invokevirtual 177) 3 48 := ⟨o_182 0 177 177 (oWd (K := 32) (r := 13) wi_m_mortgage_32 (by decide +kernel)), rfl⟩
theorem dm_mortgage_48 : db tm_mortgage 48 (.ifCond .ne) 53 51 := ⟨5, o_154 0 5 5 (oWd (K := 32) (r := 16) wi_m_mortgage_32 (by decide +kernel)), rfl, rfl⟩
theorem dm_mortgage_51 : dn tm_mortgage 51 (.iconst (-1)) 1 52 := ⟨o_2 (oW (K := 32) (r := 19) wi_m_mortgage_32 (by decide +kernel)), rfl⟩
theorem dm_mortgage_52 : dn tm_mortgage 52 (.ireturn) 1 53 := ⟨o_172 (oW (K := 32) (r := 20) wi_m_mortgage_32 (by decide +kernel)), rfl⟩
theorem dm_mortgage_53 : dl tm_mortgage 53 .iload_n .iload 1 54 := Or.inl ⟨1, o_27 (oW (K := 32) (r := 21) wi_m_mortgage_32 (by decide +kernel)), rfl, rfl⟩
theorem dm_mortgage_54 : dl tm_mortgage 54 .istore_n .istore 5 56 := Or.inr ⟨o_54 5 (oW (K := 32) (r := 22) wi_m_mortgage_32 (by decide +kernel)), rfl⟩
theorem dm_mortgage_56 : dn tm_mortgage 56 (.iconst 0) 1 57 := ⟨o_3 (oW (K := 32) (r := 24) wi_m_mortgage_32 (by decide +kernel)), rfl⟩
theorem dm_mortgage_57 : dl tm_mortgage 57 .istore_n .istore 6 59 := Or.inr ⟨o_54 6 (oW (K := 32) (r := 25) wi_m_mortgage_32 (by decide +kernel)), rfl⟩
theorem dm_mortgage_59 : dn tm_mortgage 59 (.iconst 1) 1 60 := ⟨o_4 (oW (K := 32) (r := 27) wi_m_mortgage_32 (by decide +kernel)), rfl⟩
theorem dm_mortgage_60 : dl tm_mortgage 60 .istore_n .istore 7 62 := Or.inr ⟨o_54 7 (oW (K := 32) (r := 28) wi_m_mortgage_32 (by decide +kernel)), rfl⟩
theorem dm_mortgage_62 : dl tm_mortgage 62 .iload_n .iload 7 64 := Or.inr ⟨o_21 7 (oW (K := 32) (r := 30) wi_m_mortgage_32 (by decide +kernel)), rfl⟩
def wl_m_mortgage_64 : List Nat := [17, 1, 144, 163, 0, 79, 21, 5, 21, 5, 28, 104, 16, 99, 96, 16, 100, 108, 96, 54, 8, 42, 21, 8, 29, 182, 1, 144, 54, 9, 21, 6, 21, 9, 96, 54, 6, 21]
theorem wi_m_mortgage_64 : oC tm_mortgage.2.1 64 wl_m_mortgage_64 = true := by decide +kernel
theorem dm_mortgage_64 : dn tm_mortgage 64 (.sipush 400) 3 67 := ⟨o_17 1 144 400 (oWd (K := 64) (r := 0) wi_m_mortgage_64 (by decide +kernel)), rfl⟩
theorem dm_mortgage_67 : db tm_mortgage 67 (.if_icmp .gt) 146 70 := ⟨79, o_163 0 79 79 (oWd (K := 64) (r := 3) wi_m_mortgage_64 (by decide +kernel)), rfl, rfl⟩
theorem dm_mortgage_70 : dl tm_mortgage 70 .iload_n .iload 5 72 := Or.inr ⟨o_21 5 (oW (K := 64) (r := 6) wi_m_mortgage_64 (by decide +kernel)), rfl⟩
theorem dm_mortgage_72 : dl tm_mortgage 72 .iload_n .iload 5 74 := Or.inr ⟨o_21 5 (oW (K := 64) (r := 8) wi_m_mortgage_64 (by decide +kernel)), rfl⟩
theorem dm_mortgage_74 : dl tm_mortgage 74 .iload_n .iload 2 75 := Or.inl ⟨2, o_28 (oW (K := 64) (r := 10) wi_m_mortgage_64 (by decide +kernel)), rfl, rfl⟩
theorem dm_mortgage_75 : dn tm_mortgage 75 (.imul) 1 76 := ⟨o_104 (oW (K := 64) (r := 11) wi_m_mortgage_64 (by decide +kernel)), rfl⟩
theorem dm_mortgage_76 : dn tm_mortgage 76 (.bipush 99) 2 78 := ⟨o_16 99 99 (oWd (K := 64) (r := 12) wi_m_mortgage_64 (by decide +kernel)), rfl⟩
theorem dm_mortgage_78 : dn tm_mortgage 78 (.iadd) 1 79 := ⟨o_96 (oW (K := 64) (r := 14) wi_m_mortgage_64 (by decide +kernel)), rfl⟩
theorem dm_mortgage_79 : dn tm_mortgage 79 (.bipush 100) 2 81 := ⟨o_16 100 100 (oWd (K := 64) (r := 15) wi_m_mortgage_64 (by decide +kernel)), rfl⟩
theorem dm_mortgage_81 : dn tm_mortgage 81 (.idiv) 1 82 := ⟨o_108 (oW (K := 64) (r := 17) wi_m_mortgage_64 (by decide +kernel)), rfl⟩
theorem dm_mortgage_82 : dn tm_mortgage 82 (.iadd) 1 83 := ⟨o_96 (oW (K := 64) (r := 18) wi_m_mortgage_64 (by decide +kernel)), rfl⟩
theorem dm_mortgage_83 : dl tm_mortgage 83 .istore_n .istore 8 85 := Or.inr ⟨o_54 8 (oW (K := 64) (r := 19) wi_m_mortgage_64 (by decide +kernel)), rfl⟩
theorem dm_mortgage_85 : dl tm_mortgage 85 .aload_n .aload 0 86 := Or.inl ⟨0, o_42 (oW (K := 64) (r := 21) wi_m_mortgage_64 (by decide +kernel)), rfl, rfl⟩
theorem dm_mortgage_86 : dl tm_mortgage 86 .iload_n .iload 8 88 := Or.inr ⟨o_21 8 (oW (K := 64) (r := 22) wi_m_mortgage_64 (by decide +kernel)), rfl⟩
theorem dm_mortgage_88 : dl tm_mortgage 88 .iload_n .iload 3 89 := Or.inl ⟨3, o_29 (oW (K := 64) (r := 24) wi_m_mortgage_64 (by decide +kernel)), rfl, rfl⟩
theorem dm_mortgage_89 : dn tm_mortgage 89 (.invokevirtual 400) 3 92 := ⟨o_182 1 144 400 (oWd (K := 64) (r := 25) wi_m_mortgage_64 (by decide +kernel)), rfl⟩
theorem dm_mortgage_92 : dl tm_mortgage 92 .istore_n .istore 9 94 := Or.inr ⟨o_54 9 (oW (K := 64) (r := 28) wi_m_mortgage_64 (by decide +kernel)), rfl⟩
theorem dm_mortgage_94 : dl tm_mortgage 94 .iload_n .iload 6 96 := Or.inr ⟨o_21 6 (oW (K := 64) (r := 30) wi_m_mortgage_64 (by decide +kernel)), rfl⟩
def wl_m_mortgage_96 : List Nat := [21, 9, 96, 54, 6, 21, 8, 21, 9, 160, 0, 16, 21, 4, 154, 0, 8, 21, 7, 167, 0, 5, 21, 6, 172, 21, 8, 21, 9, 100, 21, 5, 161, 0, 5, 2, 172, 21]
theorem wi_m_mortgage_96 : oC tm_mortgage.2.1 96 wl_m_mortgage_96 = true := by decide +kernel
theorem dm_mortgage_96 : dl tm_mortgage 96 .iload_n .iload 9 98 := Or.inr ⟨o_21 9 (oW (K := 96) (r := 0) wi_m_mortgage_96 (by decide +kernel)), rfl⟩
theorem dm_mortgage_98 : dn tm_mortgage 98 (.iadd) 1 99 := ⟨o_96 (oW (K := 96) (r := 2) wi_m_mortgage_96 (by decide +kernel)), rfl⟩
theorem dm_mortgage_99 : dl tm_mortgage 99 .istore_n .istore 6 101 := Or.inr ⟨o_54 6 (oW (K := 96) (r := 3) wi_m_mortgage_96 (by decide +kernel)), rfl⟩
theorem dm_mortgage_101 : dl tm_mortgage 101 .iload_n .iload 8 103 := Or.inr ⟨o_21 8 (oW (K := 96) (r := 5) wi_m_mortgage_96 (by decide +kernel)), rfl⟩
theorem dm_mortgage_103 : dl tm_mortgage 103 .iload_n .iload 9 105 := Or.inr ⟨o_21 9 (oW (K := 96) (r := 7) wi_m_mortgage_96 (by decide +kernel)), rfl⟩
theorem dm_mortgage_105 : db tm_mortgage 105 (.if_icmp .ne) 121 108 := ⟨16, o_160 0 16 16 (oWd (K := 96) (r := 9) wi_m_mortgage_96 (by decide +kernel)), rfl, rfl⟩
theorem dm_mortgage_108 : dl tm_mortgage 108 .iload_n .iload 4 110 := Or.inr ⟨o_21 4 (oW (K := 96) (r := 12) wi_m_mortgage_96 (by decide +kernel)), rfl⟩
theorem dm_mortgage_110 : db tm_mortgage 110 (.ifCond .ne) 118 113 := ⟨8, o_154 0 8 8 (oWd (K := 96) (r := 14) wi_m_mortgage_96 (by decide +kernel)), rfl, rfl⟩
theorem dm_mortgage_113 : dl tm_mortgage 113 .iload_n .iload 7 115 := Or.inr ⟨o_21 7 (oW (K := 96) (r := 17) wi_m_mortgage_96 (by decide +kernel)), rfl⟩
theorem dm_mortgage_115 : db tm_mortgage 115 .goto 120 118 := ⟨5, o_167 0 5 5 (oWd (K := 96) (r := 19) wi_m_mortgage_96 (by decide +kernel)), rfl, rfl⟩
theorem dm_mortgage_118 : dl tm_mortgage 118 .iload_n .iload 6 120 := Or.inr ⟨o_21 6 (oW (K := 96) (r := 22) wi_m_mortgage_96 (by decide +kernel)), rfl⟩
theorem dm_mortgage_120 : dn tm_mortgage 120 (.ireturn) 1 121 := ⟨o_172 (oW (K := 96) (r := 24) wi_m_mortgage_96 (by decide +kernel)), rfl⟩
theorem dm_mortgage_121 : dl tm_mortgage 121 .iload_n .iload 8 123 := Or.inr ⟨o_21 8 (oW (K := 96) (r := 25) wi_m_mortgage_96 (by decide +kernel)), rfl⟩
theorem dm_mortgage_123 : dl tm_mortgage 123 .iload_n .iload 9 125 := Or.inr ⟨o_21 9 (oW (K := 96) (r := 27) wi_m_mortgage_96 (by decide +kernel)), rfl⟩
theorem dm_mortgage_125 : dn tm_mortgage 125 (.isub) 1 126 := ⟨o_100 (oW (K := 96) (r := 29) wi_m_mortgage_96 (by decide +kernel)), rfl⟩
theorem dm_mortgage_126 : dl tm_mortgage 126 .iload_n .iload 5 128 := Or.inr ⟨o_21 5 (oW (K := 96) (r := 30) wi_m_mortgage_96 (by decide +kernel)), rfl⟩
def wl_m_mortgage_128 : List Nat := [161, 0, 5, 2, 172, 21, 8, 21, 9, 100, 54, 5, 132, 7, 1, 167, 255, 175, 2, 172]
theorem wi_m_mortgage_128 : oC tm_mortgage.2.1 128 wl_m_mortgage_128 = true := by decide +kernel
theorem dm_mortgage_128 : db tm_mortgage 128 (.if_icmp .lt) 133 131 := ⟨5, o_161 0 5 5 (oWd (K := 128) (r := 0) wi_m_mortgage_128 (by decide +kernel)), rfl, rfl⟩
theorem dm_mortgage_131 : dn tm_mortgage 131 (.iconst (-1)) 1 132 := ⟨o_2 (oW (K := 128) (r := 3) wi_m_mortgage_128 (by decide +kernel)), rfl⟩
theorem dm_mortgage_132 : dn tm_mortgage 132 (.ireturn) 1 133 := ⟨o_172 (oW (K := 128) (r := 4) wi_m_mortgage_128 (by decide +kernel)), rfl⟩
theorem dm_mortgage_133 : dl tm_mortgage 133 .iload_n .iload 8 135 := Or.inr ⟨o_21 8 (oW (K := 128) (r := 5) wi_m_mortgage_128 (by decide +kernel)), rfl⟩
theorem dm_mortgage_135 : dl tm_mortgage 135 .iload_n .iload 9 137 := Or.inr ⟨o_21 9 (oW (K := 128) (r := 7) wi_m_mortgage_128 (by decide +kernel)), rfl⟩
theorem dm_mortgage_137 : dn tm_mortgage 137 (.isub) 1 138 := ⟨o_100 (oW (K := 128) (r := 9) wi_m_mortgage_128 (by decide +kernel)), rfl⟩
theorem dm_mortgage_138 : dl tm_mortgage 138 .istore_n .istore 5 140 := Or.inr ⟨o_54 5 (oW (K := 128) (r := 10) wi_m_mortgage_128 (by decide +kernel)), rfl⟩
theorem dm_mortgage_140 : dn tm_mortgage 140 (.iinc 7 1) 3 143 := ⟨o_132 7 1 1 (oWd (K := 128) (r := 12) wi_m_mortgage_128 (by decide +kernel)), rfl⟩
theorem dm_mortgage_143 : db tm_mortgage 143 .goto 62 146 := ⟨-81, o_167 255 175 (-81) (oWd (K := 128) (r := 15) wi_m_mortgage_128 (by decide +kernel)), rfl, rfl⟩
theorem dm_mortgage_146 : dn tm_mortgage 146 (.iconst (-1)) 1 147 := ⟨o_2 (oW (K := 128) (r := 18) wi_m_mortgage_128 (by decide +kernel)), rfl⟩
theorem dm_mortgage_147 : dn tm_mortgage 147 (.ireturn) 1 148 := ⟨o_172 (oW (K := 128) (r := 19) wi_m_mortgage_128 (by decide +kernel)), rfl⟩
def wl_m_mark_0 : List Nat := [42, 3, 181, 0, 146, 27, 2, 160, 0, 10, 42, 3, 181, 1, 213, 3, 172, 42, 27, 4, 16, 60, 182, 0, 177, 153, 0, 11, 42, 180, 1, 213, 8, 160, 0, 5, 2, 172]
theorem wi_m_mark_0 : oC tm_mark.2.1 0 wl_m_mark_0 = true := by decide +kernel
theorem dm_mark_0 : dl tm_mark 0 .aload_n .aload 0 1 := Or.inl ⟨0, o_42 (oW (K := 0) (r := 0) wi_m_mark_0 (by decide +kernel)), rfl, rfl⟩
theorem dm_mark_1 : dn tm_mark 1 (.iconst 0) 1 2 := ⟨o_3 (oW (K := 0) (r := 1) wi_m_mark_0 (by decide +kernel)), rfl⟩
theorem dm_mark_2 : dn tm_mark 2 (.putfield 146) 3 5 := ⟨o_181 0 146 146 (oWd (K := 0) (r := 2) wi_m_mark_0 (by decide +kernel)), rfl⟩
theorem dm_mark_5 : dl tm_mark 5 .iload_n .iload 1 6 := Or.inl ⟨1, o_27 (oW (K := 0) (r := 5) wi_m_mark_0 (by decide +kernel)), rfl, rfl⟩
theorem dm_mark_6 : dn tm_mark 6 (.iconst (-1)) 1 7 := ⟨o_2 (oW (K := 0) (r := 6) wi_m_mark_0 (by decide +kernel)), rfl⟩
theorem dm_mark_7 : db tm_mark 7 (.if_icmp .ne) 17 10 := ⟨10, o_160 0 10 10 (oWd (K := 0) (r := 7) wi_m_mark_0 (by decide +kernel)), rfl, rfl⟩
theorem dm_mark_10 : dl tm_mark 10 .aload_n .aload 0 11 := Or.inl ⟨0, o_42 (oW (K := 0) (r := 10) wi_m_mark_0 (by decide +kernel)), rfl, rfl⟩
theorem dm_mark_11 : dn tm_mark 11 (.iconst 0) 1 12 := ⟨o_3 (oW (K := 0) (r := 11) wi_m_mark_0 (by decide +kernel)), rfl⟩
theorem dm_mark_12 : dn tm_mark 12 (.putfield 469) 3 15 := ⟨o_181 1 213 469 (oWd (K := 0) (r := 12) wi_m_mark_0 (by decide +kernel)), rfl⟩
theorem dm_mark_15 : dn tm_mark 15 (.iconst 0) 1 16 := ⟨o_3 (oW (K := 0) (r := 15) wi_m_mark_0 (by decide +kernel)), rfl⟩
theorem dm_mark_16 : dn tm_mark 16 (.ireturn) 1 17 := ⟨o_172 (oW (K := 0) (r := 16) wi_m_mark_0 (by decide +kernel)), rfl⟩
theorem dm_mark_17 : dl tm_mark 17 .aload_n .aload 0 18 := Or.inl ⟨0, o_42 (oW (K := 0) (r := 17) wi_m_mark_0 (by decide +kernel)), rfl, rfl⟩
theorem dm_mark_18 : dl tm_mark 18 .iload_n .iload 1 19 := Or.inl ⟨1, o_27 (oW (K := 0) (r := 18) wi_m_mark_0 (by decide +kernel)), rfl, rfl⟩
theorem dm_mark_19 : dn tm_mark 19 (.iconst 1) 1 20 := ⟨o_4 (oW (K := 0) (r := 19) wi_m_mark_0 (by decide +kernel)), rfl⟩
theorem dm_mark_20 : dn tm_mark 20 (.bipush 60) 2 22 := ⟨o_16 60 60 (oWd (K := 0) (r := 20) wi_m_mark_0 (by decide +kernel)), rfl⟩
theorem dm_mark_22 : dn tm_mark 22 (.invokevirtual 177) 3 25 := ⟨o_182 0 177 177 (oWd (K := 0) (r := 22) wi_m_mark_0 (by decide +kernel)), rfl⟩
theorem dm_mark_25 : db tm_mark 25 (.ifCond .eq) 36 28 := ⟨11, o_153 0 11 11 (oWd (K := 0) (r := 25) wi_m_mark_0 (by decide +kernel)), rfl, rfl⟩
theorem dm_mark_28 : dl tm_mark 28 .aload_n .aload 0 29 := Or.inl ⟨0, o_42 (oW (K := 0) (r := 28) wi_m_mark_0 (by decide +kernel)), rfl, rfl⟩
theorem dm_mark_29 : dn tm_mark 29 (.getfield 469) 3 32 := ⟨o_180 1 213 469 (oWd (K := 0) (r := 29) wi_m_mark_0 (by decide +kernel)), rfl⟩
def wl_m_mark_32 : List Nat := [8, 160, 0, 5, 2, 172, 42, 180, 0, 95, 42, 180, 1, 213, 27, 79, 42, 42, 180, 1, 213, 4, 96, 181, 1, 213, 42, 180, 1, 213, 172]
theorem wi_m_mark_32 : oC tm_mark.2.1 32 wl_m_mark_32 = true := by decide +kernel
theorem dm_mark_32 : dn tm_mark 32 (.iconst 5) 1 33 := ⟨o_8 (oW (K := 32) (r := 0) wi_m_mark_32 (by decide +kernel)), rfl⟩
theorem dm_mark_33 : db tm_mark 33 (.if_icmp .ne) 38 36 := ⟨5, o_160 0 5 5 (oWd (K := 32) (r := 1) wi_m_mark_32 (by decide +kernel)), rfl, rfl⟩
theorem dm_mark_36 : dn tm_mark 36 (.iconst (-1)) 1 37 := ⟨o_2 (oW (K := 32) (r := 4) wi_m_mark_32 (by decide +kernel)), rfl⟩
theorem dm_mark_37 : dn tm_mark 37 (.ireturn) 1 38 := ⟨o_172 (oW (K := 32) (r := 5) wi_m_mark_32 (by decide +kernel)), rfl⟩
theorem dm_mark_38 : dl tm_mark 38 .aload_n .aload 0 39 := Or.inl ⟨0, o_42 (oW (K := 32) (r := 6) wi_m_mark_32 (by decide +kernel)), rfl, rfl⟩
theorem dm_mark_39 : dn tm_mark 39 (.getfield 95) 3 42 := ⟨o_180 0 95 95 (oWd (K := 32) (r := 7) wi_m_mark_32 (by decide +kernel)), rfl⟩
theorem dm_mark_42 : dl tm_mark 42 .aload_n .aload 0 43 := Or.inl ⟨0, o_42 (oW (K := 32) (r := 10) wi_m_mark_32 (by decide +kernel)), rfl, rfl⟩
theorem dm_mark_43 : dn tm_mark 43 (.getfield 469) 3 46 := ⟨o_180 1 213 469 (oWd (K := 32) (r := 11) wi_m_mark_32 (by decide +kernel)), rfl⟩
theorem dm_mark_46 : dl tm_mark 46 .iload_n .iload 1 47 := Or.inl ⟨1, o_27 (oW (K := 32) (r := 14) wi_m_mark_32 (by decide +kernel)), rfl, rfl⟩
theorem dm_mark_47 : dn tm_mark 47 (.iastore) 1 48 := ⟨o_79 (oW (K := 32) (r := 15) wi_m_mark_32 (by decide +kernel)), rfl⟩
theorem dm_mark_48 : dl tm_mark 48 .aload_n .aload 0 49 := Or.inl ⟨0, o_42 (oW (K := 32) (r := 16) wi_m_mark_32 (by decide +kernel)), rfl, rfl⟩
theorem dm_mark_49 : dl tm_mark 49 .aload_n .aload 0 50 := Or.inl ⟨0, o_42 (oW (K := 32) (r := 17) wi_m_mark_32 (by decide +kernel)), rfl, rfl⟩
theorem dm_mark_50 : dn tm_mark 50 (.getfield 469) 3 53 := ⟨o_180 1 213 469 (oWd (K := 32) (r := 18) wi_m_mark_32 (by decide +kernel)), rfl⟩
theorem dm_mark_53 : dn tm_mark 53 (.iconst 1) 1 54 := ⟨o_4 (oW (K := 32) (r := 21) wi_m_mark_32 (by decide +kernel)), rfl⟩
theorem dm_mark_54 : dn tm_mark 54 (.iadd) 1 55 := ⟨o_96 (oW (K := 32) (r := 22) wi_m_mark_32 (by decide +kernel)), rfl⟩
theorem dm_mark_55 : dn tm_mark 55 (.putfield 469) 3 58 := ⟨o_181 1 213 469 (oWd (K := 32) (r := 23) wi_m_mark_32 (by decide +kernel)), rfl⟩
theorem dm_mark_58 : dl tm_mark 58 .aload_n .aload 0 59 := Or.inl ⟨0, o_42 (oW (K := 32) (r := 26) wi_m_mark_32 (by decide +kernel)), rfl, rfl⟩
theorem dm_mark_59 : dn tm_mark 59 (.getfield 469) 3 62 := ⟨o_180 1 213 469 (oWd (K := 32) (r := 27) wi_m_mark_32 (by decide +kernel)), rfl⟩
theorem dm_mark_62 : dn tm_mark 62 (.ireturn) 1 63 := ⟨o_172 (oW (K := 32) (r := 30) wi_m_mark_32 (by decide +kernel)), rfl⟩
def wl_m_isMeasured_0 : List Nat := [3, 61, 28, 42, 180, 1, 213, 162, 0, 56, 42, 180, 0, 95, 28, 46, 27, 160, 0, 5, 4, 172, 3, 62, 29, 28, 162, 0, 31, 42, 42, 180, 0, 95, 28, 46, 42, 180]
theorem wi_m_isMeasured_0 : oC tm_isMeasured.2.1 0 wl_m_isMeasured_0 = true := by decide +kernel
theorem dm_isMeasured_0 : dn tm_isMeasured 0 (.iconst 0) 1 1 := ⟨o_3 (oW (K := 0) (r := 0) wi_m_isMeasured_0 (by decide +kernel)), rfl⟩
theorem dm_isMeasured_1 : dl tm_isMeasured 1 .istore_n .istore 2 2 := Or.inl ⟨2, o_61 (oW (K := 0) (r := 1) wi_m_isMeasured_0 (by decide +kernel)), rfl, rfl⟩
theorem dm_isMeasured_2 : dl tm_isMeasured 2 .iload_n .iload 2 3 := Or.inl ⟨2, o_28 (oW (K := 0) (r := 2) wi_m_isMeasured_0 (by decide +kernel)), rfl, rfl⟩
theorem dm_isMeasured_3 : dl tm_isMeasured 3 .aload_n .aload 0 4 := Or.inl ⟨0, o_42 (oW (K := 0) (r := 3) wi_m_isMeasured_0 (by decide +kernel)), rfl, rfl⟩
theorem dm_isMeasured_4 : dn tm_isMeasured 4 (.getfield 469) 3 7 := ⟨o_180 1 213 469 (oWd (K := 0) (r := 4) wi_m_isMeasured_0 (by decide +kernel)), rfl⟩
theorem dm_isMeasured_7 : db tm_isMeasured 7 (.if_icmp .ge) 63 10 := ⟨56, o_162 0 56 56 (oWd (K := 0) (r := 7) wi_m_isMeasured_0 (by decide +kernel)), rfl, rfl⟩
theorem dm_isMeasured_10 : dl tm_isMeasured 10 .aload_n .aload 0 11 := Or.inl ⟨0, o_42 (oW (K := 0) (r := 10) wi_m_isMeasured_0 (by decide +kernel)), rfl, rfl⟩
theorem dm_isMeasured_11 : dn tm_isMeasured 11 (.getfield 95) 3 14 := ⟨o_180 0 95 95 (oWd (K := 0) (r := 11) wi_m_isMeasured_0 (by decide +kernel)), rfl⟩
theorem dm_isMeasured_14 : dl tm_isMeasured 14 .iload_n .iload 2 15 := Or.inl ⟨2, o_28 (oW (K := 0) (r := 14) wi_m_isMeasured_0 (by decide +kernel)), rfl, rfl⟩
theorem dm_isMeasured_15 : dn tm_isMeasured 15 (.iaload) 1 16 := ⟨o_46 (oW (K := 0) (r := 15) wi_m_isMeasured_0 (by decide +kernel)), rfl⟩
theorem dm_isMeasured_16 : dl tm_isMeasured 16 .iload_n .iload 1 17 := Or.inl ⟨1, o_27 (oW (K := 0) (r := 16) wi_m_isMeasured_0 (by decide +kernel)), rfl, rfl⟩
theorem dm_isMeasured_17 : db tm_isMeasured 17 (.if_icmp .ne) 22 20 := ⟨5, o_160 0 5 5 (oWd (K := 0) (r := 17) wi_m_isMeasured_0 (by decide +kernel)), rfl, rfl⟩
theorem dm_isMeasured_20 : dn tm_isMeasured 20 (.iconst 1) 1 21 := ⟨o_4 (oW (K := 0) (r := 20) wi_m_isMeasured_0 (by decide +kernel)), rfl⟩
theorem dm_isMeasured_21 : dn tm_isMeasured 21 (.ireturn) 1 22 := ⟨o_172 (oW (K := 0) (r := 21) wi_m_isMeasured_0 (by decide +kernel)), rfl⟩
theorem dm_isMeasured_22 : dn tm_isMeasured 22 (.iconst 0) 1 23 := ⟨o_3 (oW (K := 0) (r := 22) wi_m_isMeasured_0 (by decide +kernel)), rfl⟩
theorem dm_isMeasured_23 : dl tm_isMeasured 23 .istore_n .istore 3 24 := Or.inl ⟨3, o_62 (oW (K := 0) (r := 23) wi_m_isMeasured_0 (by decide +kernel)), rfl, rfl⟩
theorem dm_isMeasured_24 : dl tm_isMeasured 24 .iload_n .iload 3 25 := Or.inl ⟨3, o_29 (oW (K := 0) (r := 24) wi_m_isMeasured_0 (by decide +kernel)), rfl, rfl⟩
theorem dm_isMeasured_25 : dl tm_isMeasured 25 .iload_n .iload 2 26 := Or.inl ⟨2, o_28 (oW (K := 0) (r := 25) wi_m_isMeasured_0 (by decide +kernel)), rfl, rfl⟩
theorem dm_isMeasured_26 : db tm_isMeasured 26 (.if_icmp .ge) 57 29 := ⟨31, o_162 0 31 31 (oWd (K := 0) (r := 26) wi_m_isMeasured_0 (by decide +kernel)), rfl, rfl⟩
theorem dm_isMeasured_29 : dl tm_isMeasured 29 .aload_n .aload 0 30 := Or.inl ⟨0, o_42 (oW (K := 0) (r := 29) wi_m_isMeasured_0 (by decide +kernel)), rfl, rfl⟩
theorem dm_isMeasured_30 : dl tm_isMeasured 30 .aload_n .aload 0 31 := Or.inl ⟨0, o_42 (oW (K := 0) (r := 30) wi_m_isMeasured_0 (by decide +kernel)), rfl, rfl⟩
theorem dm_isMeasured_31 : dn tm_isMeasured 31 (.getfield 95) 3 34 := ⟨o_180 0 95 95 (oWd (K := 0) (r := 31) wi_m_isMeasured_0 (by decide +kernel)), rfl⟩
def wl_m_isMeasured_32 : List Nat := [0, 95, 28, 46, 42, 180, 0, 95, 29, 46, 182, 1, 216, 27, 160, 0, 5, 4, 172, 132, 3, 1, 167, 255, 226, 132, 2, 1, 167, 255, 198, 3, 172]
theorem wi_m_isMeasured_32 : oC tm_isMeasured.2.1 32 wl_m_isMeasured_32 = true := by decide +kernel
theorem dm_isMeasured_34 : dl tm_isMeasured 34 .iload_n .iload 2 35 := Or.inl ⟨2, o_28 (oW (K := 32) (r := 2) wi_m_isMeasured_32 (by decide +kernel)), rfl, rfl⟩
theorem dm_isMeasured_35 : dn tm_isMeasured 35 (.iaload) 1 36 := ⟨o_46 (oW (K := 32) (r := 3) wi_m_isMeasured_32 (by decide +kernel)), rfl⟩
theorem dm_isMeasured_36 : dl tm_isMeasured 36 .aload_n .aload 0 37 := Or.inl ⟨0, o_42 (oW (K := 32) (r := 4) wi_m_isMeasured_32 (by decide +kernel)), rfl, rfl⟩
theorem dm_isMeasured_37 : dn tm_isMeasured 37 (.getfield 95) 3 40 := ⟨o_180 0 95 95 (oWd (K := 32) (r := 5) wi_m_isMeasured_32 (by decide +kernel)), rfl⟩
theorem dm_isMeasured_40 : dl tm_isMeasured 40 .iload_n .iload 3 41 := Or.inl ⟨3, o_29 (oW (K := 32) (r := 8) wi_m_isMeasured_32 (by decide +kernel)), rfl, rfl⟩
theorem dm_isMeasured_41 : dn tm_isMeasured 41 (.iaload) 1 42 := ⟨o_46 (oW (K := 32) (r := 9) wi_m_isMeasured_32 (by decide +kernel)), rfl⟩
theorem dm_isMeasured_42 : dn tm_isMeasured 42 (.invokevirtual 472) 3 45 := ⟨o_182 1 216 472 (oWd (K := 32) (r := 10) wi_m_isMeasured_32 (by decide +kernel)), rfl⟩
theorem dm_isMeasured_45 : dl tm_isMeasured 45 .iload_n .iload 1 46 := Or.inl ⟨1, o_27 (oW (K := 32) (r := 13) wi_m_isMeasured_32 (by decide +kernel)), rfl, rfl⟩
theorem dm_isMeasured_46 : db tm_isMeasured 46 (.if_icmp .ne) 51 49 := ⟨5, o_160 0 5 5 (oWd (K := 32) (r := 14) wi_m_isMeasured_32 (by decide +kernel)), rfl, rfl⟩
theorem dm_isMeasured_49 : dn tm_isMeasured 49 (.iconst 1) 1 50 := ⟨o_4 (oW (K := 32) (r := 17) wi_m_isMeasured_32 (by decide +kernel)), rfl⟩
theorem dm_isMeasured_50 : dn tm_isMeasured 50 (.ireturn) 1 51 := ⟨o_172 (oW (K := 32) (r := 18) wi_m_isMeasured_32 (by decide +kernel)), rfl⟩
theorem dm_isMeasured_51 : dn tm_isMeasured 51 (.iinc 3 1) 3 54 := ⟨o_132 3 1 1 (oWd (K := 32) (r := 19) wi_m_isMeasured_32 (by decide +kernel)), rfl⟩
theorem dm_isMeasured_54 : db tm_isMeasured 54 .goto 24 57 := ⟨-30, o_167 255 226 (-30) (oWd (K := 32) (r := 22) wi_m_isMeasured_32 (by decide +kernel)), rfl, rfl⟩
theorem dm_isMeasured_57 : dn tm_isMeasured 57 (.iinc 2 1) 3 60 := ⟨o_132 2 1 1 (oWd (K := 32) (r := 25) wi_m_isMeasured_32 (by decide +kernel)), rfl⟩
theorem dm_isMeasured_60 : db tm_isMeasured 60 .goto 2 63 := ⟨-58, o_167 255 198 (-58) (oWd (K := 32) (r := 28) wi_m_isMeasured_32 (by decide +kernel)), rfl, rfl⟩
theorem dm_isMeasured_63 : dn tm_isMeasured 63 (.iconst 0) 1 64 := ⟨o_3 (oW (K := 32) (r := 31) wi_m_isMeasured_32 (by decide +kernel)), rfl⟩
def wl_m_isMeasured_64 : List Nat := [172]
theorem wi_m_isMeasured_64 : oC tm_isMeasured.2.1 64 wl_m_isMeasured_64 = true := by decide +kernel
theorem dm_isMeasured_64 : dn tm_isMeasured 64 (.ireturn) 1 65 := ⟨o_172 (oW (K := 64) (r := 0) wi_m_isMeasured_64 (by decide +kernel)), rfl⟩
def wl_m_measures_0 : List Nat := [42, 3, 181, 0, 146, 42, 27, 3, 4, 182, 0, 177, 154, 0, 5, 2, 172, 3, 61, 4, 62, 29, 16, 60, 163, 0, 31, 42, 29, 182, 1, 219, 153, 0, 10, 28, 4, 96]
theorem wi_m_measures_0 : oC tm_measures.2.1 0 wl_m_measures_0 = true := by decide +kernel
theorem dm_measures_0 : dl tm_measures 0 .aload_n .aload 0 1 := Or.inl ⟨0, o_42 (oW (K := 0) (r := 0) wi_m_measures_0 (by decide +kernel)), rfl, rfl⟩
theorem dm_measures_1 : dn tm_measures 1 (.iconst 0) 1 2 := ⟨o_3 (oW (K := 0) (r := 1) wi_m_measures_0 (by decide +kernel)), rfl⟩
theorem dm_measures_2 : dn tm_measures 2 (.putfield 146) 3 5 := ⟨o_181 0 146 146 (oWd (K := 0) (r := 2) wi_m_measures_0 (by decide +kernel)), rfl⟩
theorem dm_measures_5 : dl tm_measures 5 .aload_n .aload 0 6 := Or.inl ⟨0, o_42 (oW (K := 0) (r := 5) wi_m_measures_0 (by decide +kernel)), rfl, rfl⟩
theorem dm_measures_6 : dl tm_measures 6 .iload_n .iload 1 7 := Or.inl ⟨1, o_27 (oW (K := 0) (r := 6) wi_m_measures_0 (by decide +kernel)), rfl, rfl⟩
theorem dm_measures_7 : dn tm_measures 7 (.iconst 0) 1 8 := ⟨o_3 (oW (K := 0) (r := 7) wi_m_measures_0 (by decide +kernel)), rfl⟩
theorem dm_measures_8 : dn tm_measures 8 (.iconst 1) 1 9 := ⟨o_4 (oW (K := 0) (r := 8) wi_m_measures_0 (by decide +kernel)), rfl⟩
theorem dm_measures_9 : dn tm_measures 9 (.invokevirtual 177) 3 12 := ⟨o_182 0 177 177 (oWd (K := 0) (r := 9) wi_m_measures_0 (by decide +kernel)), rfl⟩
theorem dm_measures_12 : db tm_measures 12 (.ifCond .ne) 17 15 := ⟨5, o_154 0 5 5 (oWd (K := 0) (r := 12) wi_m_measures_0 (by decide +kernel)), rfl, rfl⟩
theorem dm_measures_15 : dn tm_measures 15 (.iconst (-1)) 1 16 := ⟨o_2 (oW (K := 0) (r := 15) wi_m_measures_0 (by decide +kernel)), rfl⟩
theorem dm_measures_16 : dn tm_measures 16 (.ireturn) 1 17 := ⟨o_172 (oW (K := 0) (r := 16) wi_m_measures_0 (by decide +kernel)), rfl⟩
theorem dm_measures_17 : dn tm_measures 17 (.iconst 0) 1 18 := ⟨o_3 (oW (K := 0) (r := 17) wi_m_measures_0 (by decide +kernel)), rfl⟩
theorem dm_measures_18 : dl tm_measures 18 .istore_n .istore 2 19 := Or.inl ⟨2, o_61 (oW (K := 0) (r := 18) wi_m_measures_0 (by decide +kernel)), rfl, rfl⟩
theorem dm_measures_19 : dn tm_measures 19 (.iconst 1) 1 20 := ⟨o_4 (oW (K := 0) (r := 19) wi_m_measures_0 (by decide +kernel)), rfl⟩
theorem dm_measures_20 : dl tm_measures 20 .istore_n .istore 3 21 := Or.inl ⟨3, o_62 (oW (K := 0) (r := 20) wi_m_measures_0 (by decide +kernel)), rfl, rfl⟩
theorem dm_measures_21 : dl tm_measures 21 .iload_n .iload 3 22 := Or.inl ⟨3, o_29 (oW (K := 0) (r := 21) wi_m_measures_0 (by decide +kernel)), rfl, rfl⟩
theorem dm_measures_22 : dn tm_measures 22 (.bipush 60) 2 24 := ⟨o_16 60 60 (oWd (K := 0) (r := 22) wi_m_measures_0 (by decide +kernel)), rfl⟩
theorem dm_measures_24 : db tm_measures 24 (.if_icmp .gt) 55 27 := ⟨31, o_163 0 31 31 (oWd (K := 0) (r := 24) wi_m_measures_0 (by decide +kernel)), rfl, rfl⟩
theorem dm_measures_27 : dl tm_measures 27 .aload_n .aload 0 28 := Or.inl ⟨0, o_42 (oW (K := 0) (r := 27) wi_m_measures_0 (by decide +kernel)), rfl, rfl⟩
theorem dm_measures_28 : dl tm_measures 28 .iload_n .iload 3 29 := Or.inl ⟨3, o_29 (oW (K := 0) (r := 28) wi_m_measures_0 (by decide +kernel)), rfl, rfl⟩
theorem dm_measures_29 : dn tm_measures 29 (.invokevirtual 475) 3 32 := ⟨o_182 1 219 475 (oWd (K := 0) (r := 29) wi_m_measures_0 (by decide +kernel)), rfl⟩
def wl_m_measures_32 : List Nat := [153, 0, 10, 28, 4, 96, 61, 167, 0, 10, 27, 4, 160, 0, 5, 29, 172, 132, 3, 1, 167, 255, 225, 27, 154, 0, 7, 28, 167, 0, 4, 2, 172]
theorem wi_m_measures_32 : oC tm_measures.2.1 32 wl_m_measures_32 = true := by decide +kernel
theorem dm_measures_32 : db tm_measures 32 (.ifCond .eq) 42 35 := ⟨10, o_153 0 10 10 (oWd (K := 32) (r := 0) wi_m_measures_32 (by decide +kernel)), rfl, rfl⟩
theorem dm_measures_35 : dl tm_measures 35 .iload_n .iload 2 36 := Or.inl ⟨2, o_28 (oW (K := 32) (r := 3) wi_m_measures_32 (by decide +kernel)), rfl, rfl⟩
theorem dm_measures_36 : dn tm_measures 36 (.iconst 1) 1 37 := ⟨o_4 (oW (K := 32) (r := 4) wi_m_measures_32 (by decide +kernel)), rfl⟩
theorem dm_measures_37 : dn tm_measures 37 (.iadd) 1 38 := ⟨o_96 (oW (K := 32) (r := 5) wi_m_measures_32 (by decide +kernel)), rfl⟩
theorem dm_measures_38 : dl tm_measures 38 .istore_n .istore 2 39 := Or.inl ⟨2, o_61 (oW (K := 32) (r := 6) wi_m_measures_32 (by decide +kernel)), rfl, rfl⟩
theorem dm_measures_39 : db tm_measures 39 .goto 49 42 := ⟨10, o_167 0 10 10 (oWd (K := 32) (r := 7) wi_m_measures_32 (by decide +kernel)), rfl, rfl⟩
theorem dm_measures_42 : dl tm_measures 42 .iload_n .iload 1 43 := Or.inl ⟨1, o_27 (oW (K := 32) (r := 10) wi_m_measures_32 (by decide +kernel)), rfl, rfl⟩
theorem dm_measures_43 : dn tm_measures 43 (.iconst 1) 1 44 := ⟨o_4 (oW (K := 32) (r := 11) wi_m_measures_32 (by decide +kernel)), rfl⟩
theorem dm_measures_44 : db tm_measures 44 (.if_icmp .ne) 49 47 := ⟨5, o_160 0 5 5 (oWd (K := 32) (r := 12) wi_m_measures_32 (by decide +kernel)), rfl, rfl⟩
theorem dm_measures_47 : dl tm_measures 47 .iload_n .iload 3 48 := Or.inl ⟨3, o_29 (oW (K := 32) (r := 15) wi_m_measures_32 (by decide +kernel)), rfl, rfl⟩
theorem dm_measures_48 : dn tm_measures 48 (.ireturn) 1 49 := ⟨o_172 (oW (K := 32) (r := 16) wi_m_measures_32 (by decide +kernel)), rfl⟩
theorem dm_measures_49 : dn tm_measures 49 (.iinc 3 1) 3 52 := ⟨o_132 3 1 1 (oWd (K := 32) (r := 17) wi_m_measures_32 (by decide +kernel)), rfl⟩
theorem dm_measures_52 : db tm_measures 52 .goto 21 55 := ⟨-31, o_167 255 225 (-31) (oWd (K := 32) (r := 20) wi_m_measures_32 (by decide +kernel)), rfl, rfl⟩
theorem dm_measures_55 : dl tm_measures 55 .iload_n .iload 1 56 := Or.inl ⟨1, o_27 (oW (K := 32) (r := 23) wi_m_measures_32 (by decide +kernel)), rfl, rfl⟩
theorem dm_measures_56 : db tm_measures 56 (.ifCond .ne) 63 59 := ⟨7, o_154 0 7 7 (oWd (K := 32) (r := 24) wi_m_measures_32 (by decide +kernel)), rfl, rfl⟩
theorem dm_measures_59 : dl tm_measures 59 .iload_n .iload 2 60 := Or.inl ⟨2, o_28 (oW (K := 32) (r := 27) wi_m_measures_32 (by decide +kernel)), rfl, rfl⟩
theorem dm_measures_60 : db tm_measures 60 .goto 64 63 := ⟨4, o_167 0 4 4 (oWd (K := 32) (r := 28) wi_m_measures_32 (by decide +kernel)), rfl, rfl⟩
theorem dm_measures_63 : dn tm_measures 63 (.iconst (-1)) 1 64 := ⟨o_2 (oW (K := 32) (r := 31) wi_m_measures_32 (by decide +kernel)), rfl⟩
def wl_m_measures_64 : List Nat := [172]
theorem wi_m_measures_64 : oC tm_measures.2.1 64 wl_m_measures_64 = true := by decide +kernel
theorem dm_measures_64 : dn tm_measures 64 (.ireturn) 1 65 := ⟨o_172 (oW (K := 64) (r := 0) wi_m_measures_64 (by decide +kernel)), rfl⟩
def wl_m_bite_0 : List Nat := [42, 3, 181, 0, 146, 27, 2, 160, 0, 10, 42, 3, 181, 1, 222, 3, 172, 42, 27, 3, 17, 0, 255, 182, 0, 177, 153, 0, 23, 42, 28, 3, 16, 9, 182, 0, 177, 153]
theorem wi_m_bite_0 : oC tm_bite.2.1 0 wl_m_bite_0 = true := by decide +kernel
theorem dm_bite_0 : dl tm_bite 0 .aload_n .aload 0 1 := Or.inl ⟨0, o_42 (oW (K := 0) (r := 0) wi_m_bite_0 (by decide +kernel)), rfl, rfl⟩
theorem dm_bite_1 : dn tm_bite 1 (.iconst 0) 1 2 := ⟨o_3 (oW (K := 0) (r := 1) wi_m_bite_0 (by decide +kernel)), rfl⟩
theorem dm_bite_2 : dn tm_bite 2 (.putfield 146) 3 5 := ⟨o_181 0 146 146 (oWd (K := 0) (r := 2) wi_m_bite_0 (by decide +kernel)), rfl⟩
theorem dm_bite_5 : dl tm_bite 5 .iload_n .iload 1 6 := Or.inl ⟨1, o_27 (oW (K := 0) (r := 5) wi_m_bite_0 (by decide +kernel)), rfl, rfl⟩
theorem dm_bite_6 : dn tm_bite 6 (.iconst (-1)) 1 7 := ⟨o_2 (oW (K := 0) (r := 6) wi_m_bite_0 (by decide +kernel)), rfl⟩
theorem dm_bite_7 : db tm_bite 7 (.if_icmp .ne) 17 10 := ⟨10, o_160 0 10 10 (oWd (K := 0) (r := 7) wi_m_bite_0 (by decide +kernel)), rfl, rfl⟩
theorem dm_bite_10 : dl tm_bite 10 .aload_n .aload 0 11 := Or.inl ⟨0, o_42 (oW (K := 0) (r := 10) wi_m_bite_0 (by decide +kernel)), rfl, rfl⟩
theorem dm_bite_11 : dn tm_bite 11 (.iconst 0) 1 12 := ⟨o_3 (oW (K := 0) (r := 11) wi_m_bite_0 (by decide +kernel)), rfl⟩
theorem dm_bite_12 : dn tm_bite 12 (.putfield 478) 3 15 := ⟨o_181 1 222 478 (oWd (K := 0) (r := 12) wi_m_bite_0 (by decide +kernel)), rfl⟩
theorem dm_bite_15 : dn tm_bite 15 (.iconst 0) 1 16 := ⟨o_3 (oW (K := 0) (r := 15) wi_m_bite_0 (by decide +kernel)), rfl⟩
theorem dm_bite_16 : dn tm_bite 16 (.ireturn) 1 17 := ⟨o_172 (oW (K := 0) (r := 16) wi_m_bite_0 (by decide +kernel)), rfl⟩
theorem dm_bite_17 : dl tm_bite 17 .aload_n .aload 0 18 := Or.inl ⟨0, o_42 (oW (K := 0) (r := 17) wi_m_bite_0 (by decide +kernel)), rfl, rfl⟩
theorem dm_bite_18 : dl tm_bite 18 .iload_n .iload 1 19 := Or.inl ⟨1, o_27 (oW (K := 0) (r := 18) wi_m_bite_0 (by decide +kernel)), rfl, rfl⟩
theorem dm_bite_19 : dn tm_bite 19 (.iconst 0) 1 20 := ⟨o_3 (oW (K := 0) (r := 19) wi_m_bite_0 (by decide +kernel)), rfl⟩
theorem dm_bite_20 : dn tm_bite 20 (.sipush 255) 3 23 := ⟨o_17 0 255 255 (oWd (K := 0) (r := 20) wi_m_bite_0 (by decide +kernel)), rfl⟩
theorem dm_bite_23 : dn tm_bite 23 (.invokevirtual 177) 3 26 := ⟨o_182 0 177 177 (oWd (K := 0) (r := 23) wi_m_bite_0 (by decide +kernel)), rfl⟩
theorem dm_bite_26 : db tm_bite 26 (.ifCond .eq) 49 29 := ⟨23, o_153 0 23 23 (oWd (K := 0) (r := 26) wi_m_bite_0 (by decide +kernel)), rfl, rfl⟩
theorem dm_bite_29 : dl tm_bite 29 .aload_n .aload 0 30 := Or.inl ⟨0, o_42 (oW (K := 0) (r := 29) wi_m_bite_0 (by decide +kernel)), rfl, rfl⟩
theorem dm_bite_30 : dl tm_bite 30 .iload_n .iload 2 31 := Or.inl ⟨2, o_28 (oW (K := 0) (r := 30) wi_m_bite_0 (by decide +kernel)), rfl, rfl⟩
theorem dm_bite_31 : dn tm_bite 31 (.iconst 0) 1 32 := ⟨o_3 (oW (K := 0) (r := 31) wi_m_bite_0 (by decide +kernel)), rfl⟩
def wl_m_bite_32 : List Nat := [16, 9, 182, 0, 177, 153, 0, 12, 42, 180, 1, 222, 16, 8, 160, 0, 5, 2, 172, 42, 180, 0, 98, 42, 180, 1, 222, 27, 79, 42, 180, 0, 101, 42, 180, 1, 222, 28]
theorem wi_m_bite_32 : oC tm_bite.2.1 32 wl_m_bite_32 = true := by decide +kernel
theorem dm_bite_32 : dn tm_bite 32 (.bipush 9) 2 34 := ⟨o_16 9 9 (oWd (K := 32) (r := 0) wi_m_bite_32 (by decide +kernel)), rfl⟩
theorem dm_bite_34 : dn tm_bite 34 (.invokevirtual 177) 3 37 := ⟨o_182 0 177 177 (oWd (K := 32) (r := 2) wi_m_bite_32 (by decide +kernel)), rfl⟩
theorem dm_bite_37 : db tm_bite 37 (.ifCond .eq) 49 40 := ⟨12, o_153 0 12 12 (oWd (K := 32) (r := 5) wi_m_bite_32 (by decide +kernel)), rfl, rfl⟩
theorem dm_bite_40 : dl tm_bite 40 .aload_n .aload 0 41 := Or.inl ⟨0, o_42 (oW (K := 32) (r := 8) wi_m_bite_32 (by decide +kernel)), rfl, rfl⟩
theorem dm_bite_41 : dn tm_bite 41 (.getfield 478) 3 44 := ⟨o_180 1 222 478 (oWd (K := 32) (r := 9) wi_m_bite_32 (by decide +kernel)), rfl⟩
theorem dm_bite_44 : dn tm_bite 44 (.bipush 8) 2 46 := ⟨o_16 8 8 (oWd (K := 32) (r := 12) wi_m_bite_32 (by decide +kernel)), rfl⟩
theorem dm_bite_46 : db tm_bite 46 (.if_icmp .ne) 51 49 := ⟨5, o_160 0 5 5 (oWd (K := 32) (r := 14) wi_m_bite_32 (by decide +kernel)), rfl, rfl⟩
theorem dm_bite_49 : dn tm_bite 49 (.iconst (-1)) 1 50 := ⟨o_2 (oW (K := 32) (r := 17) wi_m_bite_32 (by decide +kernel)), rfl⟩
theorem dm_bite_50 : dn tm_bite 50 (.ireturn) 1 51 := ⟨o_172 (oW (K := 32) (r := 18) wi_m_bite_32 (by decide +kernel)), rfl⟩
theorem dm_bite_51 : dl tm_bite 51 .aload_n .aload 0 52 := Or.inl ⟨0, o_42 (oW (K := 32) (r := 19) wi_m_bite_32 (by decide +kernel)), rfl, rfl⟩
theorem dm_bite_52 : dn tm_bite 52 (.getfield 98) 3 55 := ⟨o_180 0 98 98 (oWd (K := 32) (r := 20) wi_m_bite_32 (by decide +kernel)), rfl⟩
theorem dm_bite_55 : dl tm_bite 55 .aload_n .aload 0 56 := Or.inl ⟨0, o_42 (oW (K := 32) (r := 23) wi_m_bite_32 (by decide +kernel)), rfl, rfl⟩
theorem dm_bite_56 : dn tm_bite 56 (.getfield 478) 3 59 := ⟨o_180 1 222 478 (oWd (K := 32) (r := 24) wi_m_bite_32 (by decide +kernel)), rfl⟩
theorem dm_bite_59 : dl tm_bite 59 .iload_n .iload 1 60 := Or.inl ⟨1, o_27 (oW (K := 32) (r := 27) wi_m_bite_32 (by decide +kernel)), rfl, rfl⟩
theorem dm_bite_60 : dn tm_bite 60 (.iastore) 1 61 := ⟨o_79 (oW (K := 32) (r := 28) wi_m_bite_32 (by decide +kernel)), rfl⟩
theorem dm_bite_61 : dl tm_bite 61 .aload_n .aload 0 62 := Or.inl ⟨0, o_42 (oW (K := 32) (r := 29) wi_m_bite_32 (by decide +kernel)), rfl, rfl⟩
theorem dm_bite_62 : dn tm_bite 62 (.getfield 101) 3 65 := ⟨o_180 0 101 101 (oWd (K := 32) (r := 30) wi_m_bite_32 (by decide +kernel)), rfl⟩
def wl_m_bite_64 : List Nat := [101, 42, 180, 1, 222, 28, 79, 42, 42, 180, 1, 222, 4, 96, 181, 1, 222, 42, 180, 1, 222, 172]
theorem wi_m_bite_64 : oC tm_bite.2.1 64 wl_m_bite_64 = true := by decide +kernel
theorem dm_bite_65 : dl tm_bite 65 .aload_n .aload 0 66 := Or.inl ⟨0, o_42 (oW (K := 64) (r := 1) wi_m_bite_64 (by decide +kernel)), rfl, rfl⟩
theorem dm_bite_66 : dn tm_bite 66 (.getfield 478) 3 69 := ⟨o_180 1 222 478 (oWd (K := 64) (r := 2) wi_m_bite_64 (by decide +kernel)), rfl⟩
theorem dm_bite_69 : dl tm_bite 69 .iload_n .iload 2 70 := Or.inl ⟨2, o_28 (oW (K := 64) (r := 5) wi_m_bite_64 (by decide +kernel)), rfl, rfl⟩
theorem dm_bite_70 : dn tm_bite 70 (.iastore) 1 71 := ⟨o_79 (oW (K := 64) (r := 6) wi_m_bite_64 (by decide +kernel)), rfl⟩
theorem dm_bite_71 : dl tm_bite 71 .aload_n .aload 0 72 := Or.inl ⟨0, o_42 (oW (K := 64) (r := 7) wi_m_bite_64 (by decide +kernel)), rfl, rfl⟩
theorem dm_bite_72 : dl tm_bite 72 .aload_n .aload 0 73 := Or.inl ⟨0, o_42 (oW (K := 64) (r := 8) wi_m_bite_64 (by decide +kernel)), rfl, rfl⟩
theorem dm_bite_73 : dn tm_bite 73 (.getfield 478) 3 76 := ⟨o_180 1 222 478 (oWd (K := 64) (r := 9) wi_m_bite_64 (by decide +kernel)), rfl⟩
theorem dm_bite_76 : dn tm_bite 76 (.iconst 1) 1 77 := ⟨o_4 (oW (K := 64) (r := 12) wi_m_bite_64 (by decide +kernel)), rfl⟩
theorem dm_bite_77 : dn tm_bite 77 (.iadd) 1 78 := ⟨o_96 (oW (K := 64) (r := 13) wi_m_bite_64 (by decide +kernel)), rfl⟩
theorem dm_bite_78 : dn tm_bite 78 (.putfield 478) 3 81 := ⟨o_181 1 222 478 (oWd (K := 64) (r := 14) wi_m_bite_64 (by decide +kernel)), rfl⟩
theorem dm_bite_81 : dl tm_bite 81 .aload_n .aload 0 82 := Or.inl ⟨0, o_42 (oW (K := 64) (r := 17) wi_m_bite_64 (by decide +kernel)), rfl, rfl⟩
theorem dm_bite_82 : dn tm_bite 82 (.getfield 478) 3 85 := ⟨o_180 1 222 478 (oWd (K := 64) (r := 18) wi_m_bite_64 (by decide +kernel)), rfl⟩
theorem dm_bite_85 : dn tm_bite 85 (.ireturn) 1 86 := ⟨o_172 (oW (K := 64) (r := 21) wi_m_bite_64 (by decide +kernel)), rfl⟩
def wl_m_whose_0 : List Nat := [42, 3, 181, 0, 146, 42, 27, 3, 17, 0, 255, 182, 0, 177, 153, 0, 14, 42, 28, 3, 16, 9, 182, 0, 177, 154, 0, 5, 2, 172, 3, 62, 3, 54, 4, 21, 4, 42]
theorem wi_m_whose_0 : oC tm_whose.2.1 0 wl_m_whose_0 = true := by decide +kernel
theorem dm_whose_0 : dl tm_whose 0 .aload_n .aload 0 1 := Or.inl ⟨0, o_42 (oW (K := 0) (r := 0) wi_m_whose_0 (by decide +kernel)), rfl, rfl⟩
theorem dm_whose_1 : dn tm_whose 1 (.iconst 0) 1 2 := ⟨o_3 (oW (K := 0) (r := 1) wi_m_whose_0 (by decide +kernel)), rfl⟩
theorem dm_whose_2 : dn tm_whose 2 (.putfield 146) 3 5 := ⟨o_181 0 146 146 (oWd (K := 0) (r := 2) wi_m_whose_0 (by decide +kernel)), rfl⟩
theorem dm_whose_5 : dl tm_whose 5 .aload_n .aload 0 6 := Or.inl ⟨0, o_42 (oW (K := 0) (r := 5) wi_m_whose_0 (by decide +kernel)), rfl, rfl⟩
theorem dm_whose_6 : dl tm_whose 6 .iload_n .iload 1 7 := Or.inl ⟨1, o_27 (oW (K := 0) (r := 6) wi_m_whose_0 (by decide +kernel)), rfl, rfl⟩
theorem dm_whose_7 : dn tm_whose 7 (.iconst 0) 1 8 := ⟨o_3 (oW (K := 0) (r := 7) wi_m_whose_0 (by decide +kernel)), rfl⟩
theorem dm_whose_8 : dn tm_whose 8 (.sipush 255) 3 11 := ⟨o_17 0 255 255 (oWd (K := 0) (r := 8) wi_m_whose_0 (by decide +kernel)), rfl⟩
theorem dm_whose_11 : dn tm_whose 11 (.invokevirtual 177) 3 14 := ⟨o_182 0 177 177 (oWd (K := 0) (r := 11) wi_m_whose_0 (by decide +kernel)), rfl⟩
theorem dm_whose_14 : db tm_whose 14 (.ifCond .eq) 28 17 := ⟨14, o_153 0 14 14 (oWd (K := 0) (r := 14) wi_m_whose_0 (by decide +kernel)), rfl, rfl⟩
theorem dm_whose_17 : dl tm_whose 17 .aload_n .aload 0 18 := Or.inl ⟨0, o_42 (oW (K := 0) (r := 17) wi_m_whose_0 (by decide +kernel)), rfl, rfl⟩
theorem dm_whose_18 : dl tm_whose 18 .iload_n .iload 2 19 := Or.inl ⟨2, o_28 (oW (K := 0) (r := 18) wi_m_whose_0 (by decide +kernel)), rfl, rfl⟩
theorem dm_whose_19 : dn tm_whose 19 (.iconst 0) 1 20 := ⟨o_3 (oW (K := 0) (r := 19) wi_m_whose_0 (by decide +kernel)), rfl⟩
theorem dm_whose_20 : dn tm_whose 20 (.bipush 9) 2 22 := ⟨o_16 9 9 (oWd (K := 0) (r := 20) wi_m_whose_0 (by decide +kernel)), rfl⟩
theorem dm_whose_22 : dn tm_whose 22 (.invokevirtual 177) 3 25 := ⟨o_182 0 177 177 (oWd (K := 0) (r := 22) wi_m_whose_0 (by decide +kernel)), rfl⟩
theorem dm_whose_25 : db tm_whose 25 (.ifCond .ne) 30 28 := ⟨5, o_154 0 5 5 (oWd (K := 0) (r := 25) wi_m_whose_0 (by decide +kernel)), rfl, rfl⟩
theorem dm_whose_28 : dn tm_whose 28 (.iconst (-1)) 1 29 := ⟨o_2 (oW (K := 0) (r := 28) wi_m_whose_0 (by decide +kernel)), rfl⟩
theorem dm_whose_29 : dn tm_whose 29 (.ireturn) 1 30 := ⟨o_172 (oW (K := 0) (r := 29) wi_m_whose_0 (by decide +kernel)), rfl⟩
theorem dm_whose_30 : dn tm_whose 30 (.iconst 0) 1 31 := ⟨o_3 (oW (K := 0) (r := 30) wi_m_whose_0 (by decide +kernel)), rfl⟩
theorem dm_whose_31 : dl tm_whose 31 .istore_n .istore 3 32 := Or.inl ⟨3, o_62 (oW (K := 0) (r := 31) wi_m_whose_0 (by decide +kernel)), rfl, rfl⟩
def wl_m_whose_32 : List Nat := [3, 54, 4, 21, 4, 42, 180, 1, 222, 162, 0, 41, 27, 42, 180, 0, 98, 21, 4, 46, 2, 130, 126, 154, 0, 21, 42, 180, 0, 101, 21, 4, 46, 28, 161, 0, 10, 29]
theorem wi_m_whose_32 : oC tm_whose.2.1 32 wl_m_whose_32 = true := by decide +kernel
theorem dm_whose_32 : dn tm_whose 32 (.iconst 0) 1 33 := ⟨o_3 (oW (K := 32) (r := 0) wi_m_whose_32 (by decide +kernel)), rfl⟩
theorem dm_whose_33 : dl tm_whose 33 .istore_n .istore 4 35 := Or.inr ⟨o_54 4 (oW (K := 32) (r := 1) wi_m_whose_32 (by decide +kernel)), rfl⟩
theorem dm_whose_35 : dl tm_whose 35 .iload_n .iload 4 37 := Or.inr ⟨o_21 4 (oW (K := 32) (r := 3) wi_m_whose_32 (by decide +kernel)), rfl⟩
theorem dm_whose_37 : dl tm_whose 37 .aload_n .aload 0 38 := Or.inl ⟨0, o_42 (oW (K := 32) (r := 5) wi_m_whose_32 (by decide +kernel)), rfl, rfl⟩
theorem dm_whose_38 : dn tm_whose 38 (.getfield 478) 3 41 := ⟨o_180 1 222 478 (oWd (K := 32) (r := 6) wi_m_whose_32 (by decide +kernel)), rfl⟩
theorem dm_whose_41 : db tm_whose 41 (.if_icmp .ge) 82 44 := ⟨41, o_162 0 41 41 (oWd (K := 32) (r := 9) wi_m_whose_32 (by decide +kernel)), rfl, rfl⟩
theorem dm_whose_44 : dl tm_whose 44 .iload_n .iload 1 45 := Or.inl ⟨1, o_27 (oW (K := 32) (r := 12) wi_m_whose_32 (by decide +kernel)), rfl, rfl⟩
theorem dm_whose_45 : dl tm_whose 45 .aload_n .aload 0 46 := Or.inl ⟨0, o_42 (oW (K := 32) (r := 13) wi_m_whose_32 (by decide +kernel)), rfl, rfl⟩
theorem dm_whose_46 : dn tm_whose 46 (.getfield 98) 3 49 := ⟨o_180 0 98 98 (oWd (K := 32) (r := 14) wi_m_whose_32 (by decide +kernel)), rfl⟩
theorem dm_whose_49 : dl tm_whose 49 .iload_n .iload 4 51 := Or.inr ⟨o_21 4 (oW (K := 32) (r := 17) wi_m_whose_32 (by decide +kernel)), rfl⟩
theorem dm_whose_51 : dn tm_whose 51 (.iaload) 1 52 := ⟨o_46 (oW (K := 32) (r := 19) wi_m_whose_32 (by decide +kernel)), rfl⟩
theorem dm_whose_52 : dn tm_whose 52 (.iconst (-1)) 1 53 := ⟨o_2 (oW (K := 32) (r := 20) wi_m_whose_32 (by decide +kernel)), rfl⟩
theorem dm_whose_53 : dn tm_whose 53 (.ixor) 1 54 := ⟨o_130 (oW (K := 32) (r := 21) wi_m_whose_32 (by decide +kernel)), rfl⟩
theorem dm_whose_54 : dn tm_whose 54 (.iand) 1 55 := ⟨o_126 (oW (K := 32) (r := 22) wi_m_whose_32 (by decide +kernel)), rfl⟩
theorem dm_whose_55 : db tm_whose 55 (.ifCond .ne) 76 58 := ⟨21, o_154 0 21 21 (oWd (K := 32) (r := 23) wi_m_whose_32 (by decide +kernel)), rfl, rfl⟩
theorem dm_whose_58 : dl tm_whose 58 .aload_n .aload 0 59 := Or.inl ⟨0, o_42 (oW (K := 32) (r := 26) wi_m_whose_32 (by decide +kernel)), rfl, rfl⟩
theorem dm_whose_59 : dn tm_whose 59 (.getfield 101) 3 62 := ⟨o_180 0 101 101 (oWd (K := 32) (r := 27) wi_m_whose_32 (by decide +kernel)), rfl⟩
theorem dm_whose_62 : dl tm_whose 62 .iload_n .iload 4 64 := Or.inr ⟨o_21 4 (oW (K := 32) (r := 30) wi_m_whose_32 (by decide +kernel)), rfl⟩
def wl_m_whose_64 : List Nat := [46, 28, 161, 0, 10, 29, 4, 21, 4, 120, 128, 62, 132, 4, 1, 167, 255, 212, 29, 172]
theorem wi_m_whose_64 : oC tm_whose.2.1 64 wl_m_whose_64 = true := by decide +kernel
theorem dm_whose_64 : dn tm_whose 64 (.iaload) 1 65 := ⟨o_46 (oW (K := 64) (r := 0) wi_m_whose_64 (by decide +kernel)), rfl⟩
theorem dm_whose_65 : dl tm_whose 65 .iload_n .iload 2 66 := Or.inl ⟨2, o_28 (oW (K := 64) (r := 1) wi_m_whose_64 (by decide +kernel)), rfl, rfl⟩
theorem dm_whose_66 : db tm_whose 66 (.if_icmp .lt) 76 69 := ⟨10, o_161 0 10 10 (oWd (K := 64) (r := 2) wi_m_whose_64 (by decide +kernel)), rfl, rfl⟩
theorem dm_whose_69 : dl tm_whose 69 .iload_n .iload 3 70 := Or.inl ⟨3, o_29 (oW (K := 64) (r := 5) wi_m_whose_64 (by decide +kernel)), rfl, rfl⟩
theorem dm_whose_70 : dn tm_whose 70 (.iconst 1) 1 71 := ⟨o_4 (oW (K := 64) (r := 6) wi_m_whose_64 (by decide +kernel)), rfl⟩
theorem dm_whose_71 : dl tm_whose 71 .iload_n .iload 4 73 := Or.inr ⟨o_21 4 (oW (K := 64) (r := 7) wi_m_whose_64 (by decide +kernel)), rfl⟩
theorem dm_whose_73 : dn tm_whose 73 (.ishl) 1 74 := ⟨o_120 (oW (K := 64) (r := 9) wi_m_whose_64 (by decide +kernel)), rfl⟩
theorem dm_whose_74 : dn tm_whose 74 (.ior) 1 75 := ⟨o_128 (oW (K := 64) (r := 10) wi_m_whose_64 (by decide +kernel)), rfl⟩
theorem dm_whose_75 : dl tm_whose 75 .istore_n .istore 3 76 := Or.inl ⟨3, o_62 (oW (K := 64) (r := 11) wi_m_whose_64 (by decide +kernel)), rfl, rfl⟩
theorem dm_whose_76 : dn tm_whose 76 (.iinc 4 1) 3 79 := ⟨o_132 4 1 1 (oWd (K := 64) (r := 12) wi_m_whose_64 (by decide +kernel)), rfl⟩
theorem dm_whose_79 : db tm_whose 79 .goto 35 82 := ⟨-44, o_167 255 212 (-44) (oWd (K := 64) (r := 15) wi_m_whose_64 (by decide +kernel)), rfl, rfl⟩
theorem dm_whose_82 : dl tm_whose 82 .iload_n .iload 3 83 := Or.inl ⟨3, o_29 (oW (K := 64) (r := 18) wi_m_whose_64 (by decide +kernel)), rfl, rfl⟩
theorem dm_whose_83 : dn tm_whose 83 (.ireturn) 1 84 := ⟨o_172 (oW (K := 64) (r := 19) wi_m_whose_64 (by decide +kernel)), rfl⟩
def wl_m_crumb_0 : List Nat := [42, 3, 181, 0, 146, 27, 2, 160, 0, 10, 42, 3, 181, 1, 225, 3, 172, 42, 27, 3, 6, 182, 0, 177, 153, 0, 12, 42, 180, 1, 225, 16, 16, 160, 0, 5, 2, 172]
theorem wi_m_crumb_0 : oC tm_crumb.2.1 0 wl_m_crumb_0 = true := by decide +kernel
theorem dm_crumb_0 : dl tm_crumb 0 .aload_n .aload 0 1 := Or.inl ⟨0, o_42 (oW (K := 0) (r := 0) wi_m_crumb_0 (by decide +kernel)), rfl, rfl⟩
theorem dm_crumb_1 : dn tm_crumb 1 (.iconst 0) 1 2 := ⟨o_3 (oW (K := 0) (r := 1) wi_m_crumb_0 (by decide +kernel)), rfl⟩
theorem dm_crumb_2 : dn tm_crumb 2 (.putfield 146) 3 5 := ⟨o_181 0 146 146 (oWd (K := 0) (r := 2) wi_m_crumb_0 (by decide +kernel)), rfl⟩
theorem dm_crumb_5 : dl tm_crumb 5 .iload_n .iload 1 6 := Or.inl ⟨1, o_27 (oW (K := 0) (r := 5) wi_m_crumb_0 (by decide +kernel)), rfl, rfl⟩
theorem dm_crumb_6 : dn tm_crumb 6 (.iconst (-1)) 1 7 := ⟨o_2 (oW (K := 0) (r := 6) wi_m_crumb_0 (by decide +kernel)), rfl⟩
theorem dm_crumb_7 : db tm_crumb 7 (.if_icmp .ne) 17 10 := ⟨10, o_160 0 10 10 (oWd (K := 0) (r := 7) wi_m_crumb_0 (by decide +kernel)), rfl, rfl⟩
theorem dm_crumb_10 : dl tm_crumb 10 .aload_n .aload 0 11 := Or.inl ⟨0, o_42 (oW (K := 0) (r := 10) wi_m_crumb_0 (by decide +kernel)), rfl, rfl⟩
theorem dm_crumb_11 : dn tm_crumb 11 (.iconst 0) 1 12 := ⟨o_3 (oW (K := 0) (r := 11) wi_m_crumb_0 (by decide +kernel)), rfl⟩
theorem dm_crumb_12 : dn tm_crumb 12 (.putfield 481) 3 15 := ⟨o_181 1 225 481 (oWd (K := 0) (r := 12) wi_m_crumb_0 (by decide +kernel)), rfl⟩
theorem dm_crumb_15 : dn tm_crumb 15 (.iconst 0) 1 16 := ⟨o_3 (oW (K := 0) (r := 15) wi_m_crumb_0 (by decide +kernel)), rfl⟩
theorem dm_crumb_16 : dn tm_crumb 16 (.ireturn) 1 17 := ⟨o_172 (oW (K := 0) (r := 16) wi_m_crumb_0 (by decide +kernel)), rfl⟩
theorem dm_crumb_17 : dl tm_crumb 17 .aload_n .aload 0 18 := Or.inl ⟨0, o_42 (oW (K := 0) (r := 17) wi_m_crumb_0 (by decide +kernel)), rfl, rfl⟩
theorem dm_crumb_18 : dl tm_crumb 18 .iload_n .iload 1 19 := Or.inl ⟨1, o_27 (oW (K := 0) (r := 18) wi_m_crumb_0 (by decide +kernel)), rfl, rfl⟩
theorem dm_crumb_19 : dn tm_crumb 19 (.iconst 0) 1 20 := ⟨o_3 (oW (K := 0) (r := 19) wi_m_crumb_0 (by decide +kernel)), rfl⟩
theorem dm_crumb_20 : dn tm_crumb 20 (.iconst 3) 1 21 := ⟨o_6 (oW (K := 0) (r := 20) wi_m_crumb_0 (by decide +kernel)), rfl⟩
theorem dm_crumb_21 : dn tm_crumb 21 (.invokevirtual 177) 3 24 := ⟨o_182 0 177 177 (oWd (K := 0) (r := 21) wi_m_crumb_0 (by decide +kernel)), rfl⟩
theorem dm_crumb_24 : db tm_crumb 24 (.ifCond .eq) 36 27 := ⟨12, o_153 0 12 12 (oWd (K := 0) (r := 24) wi_m_crumb_0 (by decide +kernel)), rfl, rfl⟩
theorem dm_crumb_27 : dl tm_crumb 27 .aload_n .aload 0 28 := Or.inl ⟨0, o_42 (oW (K := 0) (r := 27) wi_m_crumb_0 (by decide +kernel)), rfl, rfl⟩
theorem dm_crumb_28 : dn tm_crumb 28 (.getfield 481) 3 31 := ⟨o_180 1 225 481 (oWd (K := 0) (r := 28) wi_m_crumb_0 (by decide +kernel)), rfl⟩
theorem dm_crumb_31 : dn tm_crumb 31 (.bipush 16) 2 33 := ⟨o_16 16 16 (oWd (K := 0) (r := 31) wi_m_crumb_0 (by decide +kernel)), rfl⟩
def wl_m_crumb_32 : List Nat := [16, 160, 0, 5, 2, 172, 42, 180, 0, 104, 42, 180, 1, 225, 27, 79, 42, 42, 180, 1, 225, 4, 96, 181, 1, 225, 42, 180, 1, 225, 172]
theorem wi_m_crumb_32 : oC tm_crumb.2.1 32 wl_m_crumb_32 = true := by decide +kernel
theorem dm_crumb_33 : db tm_crumb 33 (.if_icmp .ne) 38 36 := ⟨5, o_160 0 5 5 (oWd (K := 32) (r := 1) wi_m_crumb_32 (by decide +kernel)), rfl, rfl⟩
theorem dm_crumb_36 : dn tm_crumb 36 (.iconst (-1)) 1 37 := ⟨o_2 (oW (K := 32) (r := 4) wi_m_crumb_32 (by decide +kernel)), rfl⟩
theorem dm_crumb_37 : dn tm_crumb 37 (.ireturn) 1 38 := ⟨o_172 (oW (K := 32) (r := 5) wi_m_crumb_32 (by decide +kernel)), rfl⟩
theorem dm_crumb_38 : dl tm_crumb 38 .aload_n .aload 0 39 := Or.inl ⟨0, o_42 (oW (K := 32) (r := 6) wi_m_crumb_32 (by decide +kernel)), rfl, rfl⟩
theorem dm_crumb_39 : dn tm_crumb 39 (.getfield 104) 3 42 := ⟨o_180 0 104 104 (oWd (K := 32) (r := 7) wi_m_crumb_32 (by decide +kernel)), rfl⟩
theorem dm_crumb_42 : dl tm_crumb 42 .aload_n .aload 0 43 := Or.inl ⟨0, o_42 (oW (K := 32) (r := 10) wi_m_crumb_32 (by decide +kernel)), rfl, rfl⟩
theorem dm_crumb_43 : dn tm_crumb 43 (.getfield 481) 3 46 := ⟨o_180 1 225 481 (oWd (K := 32) (r := 11) wi_m_crumb_32 (by decide +kernel)), rfl⟩
theorem dm_crumb_46 : dl tm_crumb 46 .iload_n .iload 1 47 := Or.inl ⟨1, o_27 (oW (K := 32) (r := 14) wi_m_crumb_32 (by decide +kernel)), rfl, rfl⟩
theorem dm_crumb_47 : dn tm_crumb 47 (.iastore) 1 48 := ⟨o_79 (oW (K := 32) (r := 15) wi_m_crumb_32 (by decide +kernel)), rfl⟩
theorem dm_crumb_48 : dl tm_crumb 48 .aload_n .aload 0 49 := Or.inl ⟨0, o_42 (oW (K := 32) (r := 16) wi_m_crumb_32 (by decide +kernel)), rfl, rfl⟩
theorem dm_crumb_49 : dl tm_crumb 49 .aload_n .aload 0 50 := Or.inl ⟨0, o_42 (oW (K := 32) (r := 17) wi_m_crumb_32 (by decide +kernel)), rfl, rfl⟩
theorem dm_crumb_50 : dn tm_crumb 50 (.getfield 481) 3 53 := ⟨o_180 1 225 481 (oWd (K := 32) (r := 18) wi_m_crumb_32 (by decide +kernel)), rfl⟩
theorem dm_crumb_53 : dn tm_crumb 53 (.iconst 1) 1 54 := ⟨o_4 (oW (K := 32) (r := 21) wi_m_crumb_32 (by decide +kernel)), rfl⟩
theorem dm_crumb_54 : dn tm_crumb 54 (.iadd) 1 55 := ⟨o_96 (oW (K := 32) (r := 22) wi_m_crumb_32 (by decide +kernel)), rfl⟩
theorem dm_crumb_55 : dn tm_crumb 55 (.putfield 481) 3 58 := ⟨o_181 1 225 481 (oWd (K := 32) (r := 23) wi_m_crumb_32 (by decide +kernel)), rfl⟩
theorem dm_crumb_58 : dl tm_crumb 58 .aload_n .aload 0 59 := Or.inl ⟨0, o_42 (oW (K := 32) (r := 26) wi_m_crumb_32 (by decide +kernel)), rfl, rfl⟩
theorem dm_crumb_59 : dn tm_crumb 59 (.getfield 481) 3 62 := ⟨o_180 1 225 481 (oWd (K := 32) (r := 27) wi_m_crumb_32 (by decide +kernel)), rfl⟩
theorem dm_crumb_62 : dn tm_crumb 62 (.ireturn) 1 63 := ⟨o_172 (oW (K := 32) (r := 30) wi_m_crumb_32 (by decide +kernel)), rfl⟩
def wl_m_crumbs_0 : List Nat := [42, 3, 181, 0, 146, 42, 27, 3, 4, 182, 0, 177, 154, 0, 5, 2, 172, 3, 61, 28, 17, 6, 145, 162, 0, 16, 42, 180, 0, 107, 28, 3, 79, 132, 2, 1, 167, 255]
theorem wi_m_crumbs_0 : oC tm_crumbs.2.1 0 wl_m_crumbs_0 = true := by decide +kernel
theorem dm_crumbs_0 : dl tm_crumbs 0 .aload_n .aload 0 1 := Or.inl ⟨0, o_42 (oW (K := 0) (r := 0) wi_m_crumbs_0 (by decide +kernel)), rfl, rfl⟩
theorem dm_crumbs_1 : dn tm_crumbs 1 (.iconst 0) 1 2 := ⟨o_3 (oW (K := 0) (r := 1) wi_m_crumbs_0 (by decide +kernel)), rfl⟩
theorem dm_crumbs_2 : dn tm_crumbs 2 (.putfield 146) 3 5 := ⟨o_181 0 146 146 (oWd (K := 0) (r := 2) wi_m_crumbs_0 (by decide +kernel)), rfl⟩
theorem dm_crumbs_5 : dl tm_crumbs 5 .aload_n .aload 0 6 := Or.inl ⟨0, o_42 (oW (K := 0) (r := 5) wi_m_crumbs_0 (by decide +kernel)), rfl, rfl⟩
theorem dm_crumbs_6 : dl tm_crumbs 6 .iload_n .iload 1 7 := Or.inl ⟨1, o_27 (oW (K := 0) (r := 6) wi_m_crumbs_0 (by decide +kernel)), rfl, rfl⟩
theorem dm_crumbs_7 : dn tm_crumbs 7 (.iconst 0) 1 8 := ⟨o_3 (oW (K := 0) (r := 7) wi_m_crumbs_0 (by decide +kernel)), rfl⟩
theorem dm_crumbs_8 : dn tm_crumbs 8 (.iconst 1) 1 9 := ⟨o_4 (oW (K := 0) (r := 8) wi_m_crumbs_0 (by decide +kernel)), rfl⟩
theorem dm_crumbs_9 : dn tm_crumbs 9 (.invokevirtual 177) 3 12 := ⟨o_182 0 177 177 (oWd (K := 0) (r := 9) wi_m_crumbs_0 (by decide +kernel)), rfl⟩
theorem dm_crumbs_12 : db tm_crumbs 12 (.ifCond .ne) 17 15 := ⟨5, o_154 0 5 5 (oWd (K := 0) (r := 12) wi_m_crumbs_0 (by decide +kernel)), rfl, rfl⟩
theorem dm_crumbs_15 : dn tm_crumbs 15 (.iconst (-1)) 1 16 := ⟨o_2 (oW (K := 0) (r := 15) wi_m_crumbs_0 (by decide +kernel)), rfl⟩
theorem dm_crumbs_16 : dn tm_crumbs 16 (.ireturn) 1 17 := ⟨o_172 (oW (K := 0) (r := 16) wi_m_crumbs_0 (by decide +kernel)), rfl⟩
theorem dm_crumbs_17 : dn tm_crumbs 17 (.iconst 0) 1 18 := ⟨o_3 (oW (K := 0) (r := 17) wi_m_crumbs_0 (by decide +kernel)), rfl⟩
theorem dm_crumbs_18 : dl tm_crumbs 18 .istore_n .istore 2 19 := Or.inl ⟨2, o_61 (oW (K := 0) (r := 18) wi_m_crumbs_0 (by decide +kernel)), rfl, rfl⟩
theorem dm_crumbs_19 : dl tm_crumbs 19 .iload_n .iload 2 20 := Or.inl ⟨2, o_28 (oW (K := 0) (r := 19) wi_m_crumbs_0 (by decide +kernel)), rfl, rfl⟩
theorem dm_crumbs_20 : dn tm_crumbs 20 (.sipush 1681) 3 23 := ⟨o_17 6 145 1681 (oWd (K := 0) (r := 20) wi_m_crumbs_0 (by decide +kernel)), rfl⟩
theorem dm_crumbs_23 : db tm_crumbs 23 (.if_icmp .ge) 39 26 := ⟨16, o_162 0 16 16 (oWd (K := 0) (r := 23) wi_m_crumbs_0 (by decide +kernel)), rfl, rfl⟩
theorem dm_crumbs_26 : dl tm_crumbs 26 .aload_n .aload 0 27 := Or.inl ⟨0, o_42 (oW (K := 0) (r := 26) wi_m_crumbs_0 (by decide +kernel)), rfl, rfl⟩
theorem dm_crumbs_27 : dn tm_crumbs 27 (.getfield 107) 3 30 := ⟨o_180 0 107 107 (oWd (K := 0) (r := 27) wi_m_crumbs_0 (by decide +kernel)), rfl⟩
theorem dm_crumbs_30 : dl tm_crumbs 30 .iload_n .iload 2 31 := Or.inl ⟨2, o_28 (oW (K := 0) (r := 30) wi_m_crumbs_0 (by decide +kernel)), rfl, rfl⟩
theorem dm_crumbs_31 : dn tm_crumbs 31 (.iconst 0) 1 32 := ⟨o_3 (oW (K := 0) (r := 31) wi_m_crumbs_0 (by decide +kernel)), rfl⟩
def wl_m_crumbs_32 : List Nat := [79, 132, 2, 1, 167, 255, 239, 3, 61, 3, 62, 42, 180, 0, 107, 17, 3, 72, 4, 79, 3, 54, 4, 21, 4, 42, 180, 1, 225, 162, 0, 100, 42, 180, 0, 104, 21, 4]
theorem wi_m_crumbs_32 : oC tm_crumbs.2.1 32 wl_m_crumbs_32 = true := by decide +kernel
theorem dm_crumbs_32 : dn tm_crumbs 32 (.iastore) 1 33 := ⟨o_79 (oW (K := 32) (r := 0) wi_m_crumbs_32 (by decide +kernel)), rfl⟩
theorem dm_crumbs_33 : dn tm_crumbs 33 (.iinc 2 1) 3 36 := ⟨o_132 2 1 1 (oWd (K := 32) (r := 1) wi_m_crumbs_32 (by decide +kernel)), rfl⟩
theorem dm_crumbs_36 : db tm_crumbs 36 .goto 19 39 := ⟨-17, o_167 255 239 (-17) (oWd (K := 32) (r := 4) wi_m_crumbs_32 (by decide +kernel)), rfl, rfl⟩
theorem dm_crumbs_39 : dn tm_crumbs 39 (.iconst 0) 1 40 := ⟨o_3 (oW (K := 32) (r := 7) wi_m_crumbs_32 (by decide +kernel)), rfl⟩
theorem dm_crumbs_40 : dl tm_crumbs 40 .istore_n .istore 2 41 := Or.inl ⟨2, o_61 (oW (K := 32) (r := 8) wi_m_crumbs_32 (by decide +kernel)), rfl, rfl⟩
theorem dm_crumbs_41 : dn tm_crumbs 41 (.iconst 0) 1 42 := ⟨o_3 (oW (K := 32) (r := 9) wi_m_crumbs_32 (by decide +kernel)), rfl⟩
theorem dm_crumbs_42 : dl tm_crumbs 42 .istore_n .istore 3 43 := Or.inl ⟨3, o_62 (oW (K := 32) (r := 10) wi_m_crumbs_32 (by decide +kernel)), rfl, rfl⟩
theorem dm_crumbs_43 : dl tm_crumbs 43 .aload_n .aload 0 44 := Or.inl ⟨0, o_42 (oW (K := 32) (r := 11) wi_m_crumbs_32 (by decide +kernel)), rfl, rfl⟩
theorem dm_crumbs_44 : dn tm_crumbs 44 (.getfield 107) 3 47 := ⟨o_180 0 107 107 (oWd (K := 32) (r := 12) wi_m_crumbs_32 (by decide +kernel)), rfl⟩
theorem dm_crumbs_47 : dn tm_crumbs 47 (.sipush 840) 3 50 := ⟨o_17 3 72 840 (oWd (K := 32) (r := 15) wi_m_crumbs_32 (by decide +kernel)), rfl⟩
theorem dm_crumbs_50 : dn tm_crumbs 50 (.iconst 1) 1 51 := ⟨o_4 (oW (K := 32) (r := 18) wi_m_crumbs_32 (by decide +kernel)), rfl⟩
theorem dm_crumbs_51 : dn tm_crumbs 51 (.iastore) 1 52 := ⟨o_79 (oW (K := 32) (r := 19) wi_m_crumbs_32 (by decide +kernel)), rfl⟩
theorem dm_crumbs_52 : dn tm_crumbs 52 (.iconst 0) 1 53 := ⟨o_3 (oW (K := 32) (r := 20) wi_m_crumbs_32 (by decide +kernel)), rfl⟩
theorem dm_crumbs_53 : dl tm_crumbs 53 .istore_n .istore 4 55 := Or.inr ⟨o_54 4 (oW (K := 32) (r := 21) wi_m_crumbs_32 (by decide +kernel)), rfl⟩
theorem dm_crumbs_55 : dl tm_crumbs 55 .iload_n .iload 4 57 := Or.inr ⟨o_21 4 (oW (K := 32) (r := 23) wi_m_crumbs_32 (by decide +kernel)), rfl⟩
theorem dm_crumbs_57 : dl tm_crumbs 57 .aload_n .aload 0 58 := Or.inl ⟨0, o_42 (oW (K := 32) (r := 25) wi_m_crumbs_32 (by decide +kernel)), rfl, rfl⟩
theorem dm_crumbs_58 : dn tm_crumbs 58 (.getfield 481) 3 61 := ⟨o_180 1 225 481 (oWd (K := 32) (r := 26) wi_m_crumbs_32 (by decide +kernel)), rfl⟩
theorem dm_crumbs_61 : db tm_crumbs 61 (.if_icmp .ge) 161 64 := ⟨100, o_162 0 100 100 (oWd (K := 32) (r := 29) wi_m_crumbs_32 (by decide +kernel)), rfl, rfl⟩
def wl_m_crumbs_64 : List Nat := [42, 180, 0, 104, 21, 4, 46, 153, 0, 14, 42, 180, 0, 104, 21, 4, 46, 5, 160, 0, 24, 28, 42, 180, 0, 104, 21, 4, 46, 154, 0, 7, 4, 167, 0, 4, 2, 96]
theorem wi_m_crumbs_64 : oC tm_crumbs.2.1 64 wl_m_crumbs_64 = true := by decide +kernel
theorem dm_crumbs_64 : dl tm_crumbs 64 .aload_n .aload 0 65 := Or.inl ⟨0, o_42 (oW (K := 64) (r := 0) wi_m_crumbs_64 (by decide +kernel)), rfl, rfl⟩
theorem dm_crumbs_65 : dn tm_crumbs 65 (.getfield 104) 3 68 := ⟨o_180 0 104 104 (oWd (K := 64) (r := 1) wi_m_crumbs_64 (by decide +kernel)), rfl⟩
theorem dm_crumbs_68 : dl tm_crumbs 68 .iload_n .iload 4 70 := Or.inr ⟨o_21 4 (oW (K := 64) (r := 4) wi_m_crumbs_64 (by decide +kernel)), rfl⟩
theorem dm_crumbs_70 : dn tm_crumbs 70 (.iaload) 1 71 := ⟨o_46 (oW (K := 64) (r := 6) wi_m_crumbs_64 (by decide +kernel)), rfl⟩
theorem dm_crumbs_71 : db tm_crumbs 71 (.ifCond .eq) 85 74 := ⟨14, o_153 0 14 14 (oWd (K := 64) (r := 7) wi_m_crumbs_64 (by decide +kernel)), rfl, rfl⟩
theorem dm_crumbs_74 : dl tm_crumbs 74 .aload_n .aload 0 75 := Or.inl ⟨0, o_42 (oW (K := 64) (r := 10) wi_m_crumbs_64 (by decide +kernel)), rfl, rfl⟩
theorem dm_crumbs_75 : dn tm_crumbs 75 (.getfield 104) 3 78 := ⟨o_180 0 104 104 (oWd (K := 64) (r := 11) wi_m_crumbs_64 (by decide +kernel)), rfl⟩
theorem dm_crumbs_78 : dl tm_crumbs 78 .iload_n .iload 4 80 := Or.inr ⟨o_21 4 (oW (K := 64) (r := 14) wi_m_crumbs_64 (by decide +kernel)), rfl⟩
theorem dm_crumbs_80 : dn tm_crumbs 80 (.iaload) 1 81 := ⟨o_46 (oW (K := 64) (r := 16) wi_m_crumbs_64 (by decide +kernel)), rfl⟩
theorem dm_crumbs_81 : dn tm_crumbs 81 (.iconst 2) 1 82 := ⟨o_5 (oW (K := 64) (r := 17) wi_m_crumbs_64 (by decide +kernel)), rfl⟩
theorem dm_crumbs_82 : db tm_crumbs 82 (.if_icmp .ne) 106 85 := ⟨24, o_160 0 24 24 (oWd (K := 64) (r := 18) wi_m_crumbs_64 (by decide +kernel)), rfl, rfl⟩
theorem dm_crumbs_85 : dl tm_crumbs 85 .iload_n .iload 2 86 := Or.inl ⟨2, o_28 (oW (K := 64) (r := 21) wi_m_crumbs_64 (by decide +kernel)), rfl, rfl⟩
theorem dm_crumbs_86 : dl tm_crumbs 86 .aload_n .aload 0 87 := Or.inl ⟨0, o_42 (oW (K := 64) (r := 22) wi_m_crumbs_64 (by decide +kernel)), rfl, rfl⟩
theorem dm_crumbs_87 : dn tm_crumbs 87 (.getfield 104) 3 90 := ⟨o_180 0 104 104 (oWd (K := 64) (r := 23) wi_m_crumbs_64 (by decide +kernel)), rfl⟩
theorem dm_crumbs_90 : dl tm_crumbs 90 .iload_n .iload 4 92 := Or.inr ⟨o_21 4 (oW (K := 64) (r := 26) wi_m_crumbs_64 (by decide +kernel)), rfl⟩
theorem dm_crumbs_92 : dn tm_crumbs 92 (.iaload) 1 93 := ⟨o_46 (oW (K := 64) (r := 28) wi_m_crumbs_64 (by decide +kernel)), rfl⟩
theorem dm_crumbs_93 : db tm_crumbs 93 (.ifCond .ne) 100 96 := ⟨7, o_154 0 7 7 (oWd (K := 64) (r := 29) wi_m_crumbs_64 (by decide +kernel)), rfl, rfl⟩
def wl_m_crumbs_96 : List Nat := [4, 167, 0, 4, 2, 96, 61, 167, 0, 22, 29, 42, 180, 0, 104, 21, 4, 46, 4, 160, 0, 7, 4, 167, 0, 4, 2, 96, 62, 16, 41, 28, 16, 20, 96, 104, 29, 96]
theorem wi_m_crumbs_96 : oC tm_crumbs.2.1 96 wl_m_crumbs_96 = true := by decide +kernel
theorem dm_crumbs_96 : dn tm_crumbs 96 (.iconst 1) 1 97 := ⟨o_4 (oW (K := 96) (r := 0) wi_m_crumbs_96 (by decide +kernel)), rfl⟩
theorem dm_crumbs_97 : db tm_crumbs 97 .goto 101 100 := ⟨4, o_167 0 4 4 (oWd (K := 96) (r := 1) wi_m_crumbs_96 (by decide +kernel)), rfl, rfl⟩
theorem dm_crumbs_100 : dn tm_crumbs 100 (.iconst (-1)) 1 101 := ⟨o_2 (oW (K := 96) (r := 4) wi_m_crumbs_96 (by decide +kernel)), rfl⟩
theorem dm_crumbs_101 : dn tm_crumbs 101 (.iadd) 1 102 := ⟨o_96 (oW (K := 96) (r := 5) wi_m_crumbs_96 (by decide +kernel)), rfl⟩
theorem dm_crumbs_102 : dl tm_crumbs 102 .istore_n .istore 2 103 := Or.inl ⟨2, o_61 (oW (K := 96) (r := 6) wi_m_crumbs_96 (by decide +kernel)), rfl, rfl⟩
theorem dm_crumbs_103 : db tm_crumbs 103 .goto 125 106 := ⟨22, o_167 0 22 22 (oWd (K := 96) (r := 7) wi_m_crumbs_96 (by decide +kernel)), rfl, rfl⟩
theorem dm_crumbs_106 : dl tm_crumbs 106 .iload_n .iload 3 107 := Or.inl ⟨3, o_29 (oW (K := 96) (r := 10) wi_m_crumbs_96 (by decide +kernel)), rfl, rfl⟩
theorem dm_crumbs_107 : dl tm_crumbs 107 .aload_n .aload 0 108 := Or.inl ⟨0, o_42 (oW (K := 96) (r := 11) wi_m_crumbs_96 (by decide +kernel)), rfl, rfl⟩
theorem dm_crumbs_108 : dn tm_crumbs 108 (.getfield 104) 3 111 := ⟨o_180 0 104 104 (oWd (K := 96) (r := 12) wi_m_crumbs_96 (by decide +kernel)), rfl⟩
theorem dm_crumbs_111 : dl tm_crumbs 111 .iload_n .iload 4 113 := Or.inr ⟨o_21 4 (oW (K := 96) (r := 15) wi_m_crumbs_96 (by decide +kernel)), rfl⟩
theorem dm_crumbs_113 : dn tm_crumbs 113 (.iaload) 1 114 := ⟨o_46 (oW (K := 96) (r := 17) wi_m_crumbs_96 (by decide +kernel)), rfl⟩
theorem dm_crumbs_114 : dn tm_crumbs 114 (.iconst 1) 1 115 := ⟨o_4 (oW (K := 96) (r := 18) wi_m_crumbs_96 (by decide +kernel)), rfl⟩
theorem dm_crumbs_115 : db tm_crumbs 115 (.if_icmp .ne) 122 118 := ⟨7, o_160 0 7 7 (oWd (K := 96) (r := 19) wi_m_crumbs_96 (by decide +kernel)), rfl, rfl⟩
theorem dm_crumbs_118 : dn tm_crumbs 118 (.iconst 1) 1 119 := ⟨o_4 (oW (K := 96) (r := 22) wi_m_crumbs_96 (by decide +kernel)), rfl⟩
theorem dm_crumbs_119 : db tm_crumbs 119 .goto 123 122 := ⟨4, o_167 0 4 4 (oWd (K := 96) (r := 23) wi_m_crumbs_96 (by decide +kernel)), rfl, rfl⟩
theorem dm_crumbs_122 : dn tm_crumbs 122 (.iconst (-1)) 1 123 := ⟨o_2 (oW (K := 96) (r := 26) wi_m_crumbs_96 (by decide +kernel)), rfl⟩
theorem dm_crumbs_123 : dn tm_crumbs 123 (.iadd) 1 124 := ⟨o_96 (oW (K := 96) (r := 27) wi_m_crumbs_96 (by decide +kernel)), rfl⟩
theorem dm_crumbs_124 : dl tm_crumbs 124 .istore_n .istore 3 125 := Or.inl ⟨3, o_62 (oW (K := 96) (r := 28) wi_m_crumbs_96 (by decide +kernel)), rfl, rfl⟩
theorem dm_crumbs_125 : dn tm_crumbs 125 (.bipush 41) 2 127 := ⟨o_16 41 41 (oWd (K := 96) (r := 29) wi_m_crumbs_96 (by decide +kernel)), rfl⟩
theorem dm_crumbs_127 : dl tm_crumbs 127 .iload_n .iload 2 128 := Or.inl ⟨2, o_28 (oW (K := 96) (r := 31) wi_m_crumbs_96 (by decide +kernel)), rfl, rfl⟩
def wl_m_crumbs_128 : List Nat := [16, 20, 96, 104, 29, 96, 16, 20, 96, 54, 5, 42, 180, 0, 107, 21, 5, 42, 180, 0, 107, 21, 5, 46, 4, 96, 79, 132, 4, 1, 167, 255, 153, 27, 154, 0, 17, 42]
theorem wi_m_crumbs_128 : oC tm_crumbs.2.1 128 wl_m_crumbs_128 = true := by decide +kernel
theorem dm_crumbs_128 : dn tm_crumbs 128 (.bipush 20) 2 130 := ⟨o_16 20 20 (oWd (K := 128) (r := 0) wi_m_crumbs_128 (by decide +kernel)), rfl⟩
theorem dm_crumbs_130 : dn tm_crumbs 130 (.iadd) 1 131 := ⟨o_96 (oW (K := 128) (r := 2) wi_m_crumbs_128 (by decide +kernel)), rfl⟩
theorem dm_crumbs_131 : dn tm_crumbs 131 (.imul) 1 132 := ⟨o_104 (oW (K := 128) (r := 3) wi_m_crumbs_128 (by decide +kernel)), rfl⟩
theorem dm_crumbs_132 : dl tm_crumbs 132 .iload_n .iload 3 133 := Or.inl ⟨3, o_29 (oW (K := 128) (r := 4) wi_m_crumbs_128 (by decide +kernel)), rfl, rfl⟩
theorem dm_crumbs_133 : dn tm_crumbs 133 (.iadd) 1 134 := ⟨o_96 (oW (K := 128) (r := 5) wi_m_crumbs_128 (by decide +kernel)), rfl⟩
theorem dm_crumbs_134 : dn tm_crumbs 134 (.bipush 20) 2 136 := ⟨o_16 20 20 (oWd (K := 128) (r := 6) wi_m_crumbs_128 (by decide +kernel)), rfl⟩
theorem dm_crumbs_136 : dn tm_crumbs 136 (.iadd) 1 137 := ⟨o_96 (oW (K := 128) (r := 8) wi_m_crumbs_128 (by decide +kernel)), rfl⟩
theorem dm_crumbs_137 : dl tm_crumbs 137 .istore_n .istore 5 139 := Or.inr ⟨o_54 5 (oW (K := 128) (r := 9) wi_m_crumbs_128 (by decide +kernel)), rfl⟩
theorem dm_crumbs_139 : dl tm_crumbs 139 .aload_n .aload 0 140 := Or.inl ⟨0, o_42 (oW (K := 128) (r := 11) wi_m_crumbs_128 (by decide +kernel)), rfl, rfl⟩
theorem dm_crumbs_140 : dn tm_crumbs 140 (.getfield 107) 3 143 := ⟨o_180 0 107 107 (oWd (K := 128) (r := 12) wi_m_crumbs_128 (by decide +kernel)), rfl⟩
theorem dm_crumbs_143 : dl tm_crumbs 143 .iload_n .iload 5 145 := Or.inr ⟨o_21 5 (oW (K := 128) (r := 15) wi_m_crumbs_128 (by decide +kernel)), rfl⟩
theorem dm_crumbs_145 : dl tm_crumbs 145 .aload_n .aload 0 146 := Or.inl ⟨0, o_42 (oW (K := 128) (r := 17) wi_m_crumbs_128 (by decide +kernel)), rfl, rfl⟩
theorem dm_crumbs_146 : dn tm_crumbs 146 (.getfield 107) 3 149 := ⟨o_180 0 107 107 (oWd (K := 128) (r := 18) wi_m_crumbs_128 (by decide +kernel)), rfl⟩
theorem dm_crumbs_149 : dl tm_crumbs 149 .iload_n .iload 5 151 := Or.inr ⟨o_21 5 (oW (K := 128) (r := 21) wi_m_crumbs_128 (by decide +kernel)), rfl⟩
theorem dm_crumbs_151 : dn tm_crumbs 151 (.iaload) 1 152 := ⟨o_46 (oW (K := 128) (r := 23) wi_m_crumbs_128 (by decide +kernel)), rfl⟩
theorem dm_crumbs_152 : dn tm_crumbs 152 (.iconst 1) 1 153 := ⟨o_4 (oW (K := 128) (r := 24) wi_m_crumbs_128 (by decide +kernel)), rfl⟩
theorem dm_crumbs_153 : dn tm_crumbs 153 (.iadd) 1 154 := ⟨o_96 (oW (K := 128) (r := 25) wi_m_crumbs_128 (by decide +kernel)), rfl⟩
theorem dm_crumbs_154 : dn tm_crumbs 154 (.iastore) 1 155 := ⟨o_79 (oW (K := 128) (r := 26) wi_m_crumbs_128 (by decide +kernel)), rfl⟩
theorem dm_crumbs_155 : dn tm_crumbs 155 (.iinc 4 1) 3 158 := ⟨o_132 4 1 1 (oWd (K := 128) (r := 27) wi_m_crumbs_128 (by decide +kernel)), rfl⟩
theorem dm_crumbs_158 : db tm_crumbs 158 .goto 55 161 := ⟨-103, o_167 255 153 (-103) (oWd (K := 128) (r := 30) wi_m_crumbs_128 (by decide +kernel)), rfl, rfl⟩
def wl_m_crumbs_160 : List Nat := [153, 27, 154, 0, 17, 42, 28, 3, 182, 1, 216, 42, 29, 3, 182, 1, 216, 96, 172, 3, 54, 4, 3, 54, 5, 21, 5, 17, 6, 145, 162, 0, 26, 42, 180, 0, 107, 21]
theorem wi_m_crumbs_160 : oC tm_crumbs.2.1 160 wl_m_crumbs_160 = true := by decide +kernel
theorem dm_crumbs_161 : dl tm_crumbs 161 .iload_n .iload 1 162 := Or.inl ⟨1, o_27 (oW (K := 160) (r := 1) wi_m_crumbs_160 (by decide +kernel)), rfl, rfl⟩
theorem dm_crumbs_162 : db tm_crumbs 162 (.ifCond .ne) 179 165 := ⟨17, o_154 0 17 17 (oWd (K := 160) (r := 2) wi_m_crumbs_160 (by decide +kernel)), rfl, rfl⟩
theorem dm_crumbs_165 : dl tm_crumbs 165 .aload_n .aload 0 166 := Or.inl ⟨0, o_42 (oW (K := 160) (r := 5) wi_m_crumbs_160 (by decide +kernel)), rfl, rfl⟩
theorem dm_crumbs_166 : dl tm_crumbs 166 .iload_n .iload 2 167 := Or.inl ⟨2, o_28 (oW (K := 160) (r := 6) wi_m_crumbs_160 (by decide +kernel)), rfl, rfl⟩
theorem dm_crumbs_167 : dn tm_crumbs 167 (.iconst 0) 1 168 := ⟨o_3 (oW (K := 160) (r := 7) wi_m_crumbs_160 (by decide +kernel)), rfl⟩
theorem dm_crumbs_168 : dn tm_crumbs 168 (.invokevirtual 472) 3 171 := ⟨o_182 1 216 472 (oWd (K := 160) (r := 8) wi_m_crumbs_160 (by decide +kernel)), rfl⟩
theorem dm_crumbs_171 : dl tm_crumbs 171 .aload_n .aload 0 172 := Or.inl ⟨0, o_42 (oW (K := 160) (r := 11) wi_m_crumbs_160 (by decide +kernel)), rfl, rfl⟩
theorem dm_crumbs_172 : dl tm_crumbs 172 .iload_n .iload 3 173 := Or.inl ⟨3, o_29 (oW (K := 160) (r := 12) wi_m_crumbs_160 (by decide +kernel)), rfl, rfl⟩
theorem dm_crumbs_173 : dn tm_crumbs 173 (.iconst 0) 1 174 := ⟨o_3 (oW (K := 160) (r := 13) wi_m_crumbs_160 (by decide +kernel)), rfl⟩
theorem dm_crumbs_174 : dn tm_crumbs 174 (.invokevirtual 472) 3 177 := ⟨o_182 1 216 472 (oWd (K := 160) (r := 14) wi_m_crumbs_160 (by decide +kernel)), rfl⟩
theorem dm_crumbs_177 : dn tm_crumbs 177 (.iadd) 1 178 := ⟨o_96 (oW (K := 160) (r := 17) wi_m_crumbs_160 (by decide +kernel)), rfl⟩
theorem dm_crumbs_178 : dn tm_crumbs 178 (.ireturn) 1 179 := ⟨o_172 (oW (K := 160) (r := 18) wi_m_crumbs_160 (by decide +kernel)), rfl⟩
theorem dm_crumbs_179 : dn tm_crumbs 179 (.iconst 0) 1 180 := ⟨o_3 (oW (K := 160) (r := 19) wi_m_crumbs_160 (by decide +kernel)), rfl⟩
theorem dm_crumbs_180 : dl tm_crumbs 180 .istore_n .istore 4 182 := Or.inr ⟨o_54 4 (oW (K := 160) (r := 20) wi_m_crumbs_160 (by decide +kernel)), rfl⟩
theorem dm_crumbs_182 : dn tm_crumbs 182 (.iconst 0) 1 183 := ⟨o_3 (oW (K := 160) (r := 22) wi_m_crumbs_160 (by decide +kernel)), rfl⟩
theorem dm_crumbs_183 : dl tm_crumbs 183 .istore_n .istore 5 185 := Or.inr ⟨o_54 5 (oW (K := 160) (r := 23) wi_m_crumbs_160 (by decide +kernel)), rfl⟩
theorem dm_crumbs_185 : dl tm_crumbs 185 .iload_n .iload 5 187 := Or.inr ⟨o_21 5 (oW (K := 160) (r := 25) wi_m_crumbs_160 (by decide +kernel)), rfl⟩
theorem dm_crumbs_187 : dn tm_crumbs 187 (.sipush 1681) 3 190 := ⟨o_17 6 145 1681 (oWd (K := 160) (r := 27) wi_m_crumbs_160 (by decide +kernel)), rfl⟩
theorem dm_crumbs_190 : db tm_crumbs 190 (.if_icmp .ge) 216 193 := ⟨26, o_162 0 26 26 (oWd (K := 160) (r := 30) wi_m_crumbs_160 (by decide +kernel)), rfl, rfl⟩
def wl_m_crumbs_192 : List Nat := [26, 42, 180, 0, 107, 21, 5, 46, 4, 164, 0, 9, 21, 4, 4, 96, 54, 4, 132, 5, 1, 167, 255, 228, 21, 4, 172]
theorem wi_m_crumbs_192 : oC tm_crumbs.2.1 192 wl_m_crumbs_192 = true := by decide +kernel
theorem dm_crumbs_193 : dl tm_crumbs 193 .aload_n .aload 0 194 := Or.inl ⟨0, o_42 (oW (K := 192) (r := 1) wi_m_crumbs_192 (by decide +kernel)), rfl, rfl⟩
theorem dm_crumbs_194 : dn tm_crumbs 194 (.getfield 107) 3 197 := ⟨o_180 0 107 107 (oWd (K := 192) (r := 2) wi_m_crumbs_192 (by decide +kernel)), rfl⟩
theorem dm_crumbs_197 : dl tm_crumbs 197 .iload_n .iload 5 199 := Or.inr ⟨o_21 5 (oW (K := 192) (r := 5) wi_m_crumbs_192 (by decide +kernel)), rfl⟩
theorem dm_crumbs_199 : dn tm_crumbs 199 (.iaload) 1 200 := ⟨o_46 (oW (K := 192) (r := 7) wi_m_crumbs_192 (by decide +kernel)), rfl⟩
theorem dm_crumbs_200 : dn tm_crumbs 200 (.iconst 1) 1 201 := ⟨o_4 (oW (K := 192) (r := 8) wi_m_crumbs_192 (by decide +kernel)), rfl⟩
theorem dm_crumbs_201 : db tm_crumbs 201 (.if_icmp .le) 210 204 := ⟨9, o_164 0 9 9 (oWd (K := 192) (r := 9) wi_m_crumbs_192 (by decide +kernel)), rfl, rfl⟩
theorem dm_crumbs_204 : dl tm_crumbs 204 .iload_n .iload 4 206 := Or.inr ⟨o_21 4 (oW (K := 192) (r := 12) wi_m_crumbs_192 (by decide +kernel)), rfl⟩
theorem dm_crumbs_206 : dn tm_crumbs 206 (.iconst 1) 1 207 := ⟨o_4 (oW (K := 192) (r := 14) wi_m_crumbs_192 (by decide +kernel)), rfl⟩
theorem dm_crumbs_207 : dn tm_crumbs 207 (.iadd) 1 208 := ⟨o_96 (oW (K := 192) (r := 15) wi_m_crumbs_192 (by decide +kernel)), rfl⟩
theorem dm_crumbs_208 : dl tm_crumbs 208 .istore_n .istore 4 210 := Or.inr ⟨o_54 4 (oW (K := 192) (r := 16) wi_m_crumbs_192 (by decide +kernel)), rfl⟩
theorem dm_crumbs_210 : dn tm_crumbs 210 (.iinc 5 1) 3 213 := ⟨o_132 5 1 1 (oWd (K := 192) (r := 18) wi_m_crumbs_192 (by decide +kernel)), rfl⟩
theorem dm_crumbs_213 : db tm_crumbs 213 .goto 185 216 := ⟨-28, o_167 255 228 (-28) (oWd (K := 192) (r := 21) wi_m_crumbs_192 (by decide +kernel)), rfl, rfl⟩
theorem dm_crumbs_216 : dl tm_crumbs 216 .iload_n .iload 4 218 := Or.inr ⟨o_21 4 (oW (K := 192) (r := 24) wi_m_crumbs_192 (by decide +kernel)), rfl⟩
theorem dm_crumbs_218 : dn tm_crumbs 218 (.ireturn) 1 219 := ⟨o_172 (oW (K := 192) (r := 26) wi_m_crumbs_192 (by decide +kernel)), rfl⟩
def wl_m_loaf_0 : List Nat := [42, 3, 181, 0, 146, 27, 2, 160, 0, 10, 42, 3, 181, 1, 228, 3, 172, 42, 27, 4, 16, 30, 182, 0, 177, 153, 0, 23, 42, 28, 4, 16, 30, 182, 0, 177, 153, 0]
theorem wi_m_loaf_0 : oC tm_loaf.2.1 0 wl_m_loaf_0 = true := by decide +kernel
theorem dm_loaf_0 : dl tm_loaf 0 .aload_n .aload 0 1 := Or.inl ⟨0, o_42 (oW (K := 0) (r := 0) wi_m_loaf_0 (by decide +kernel)), rfl, rfl⟩
theorem dm_loaf_1 : dn tm_loaf 1 (.iconst 0) 1 2 := ⟨o_3 (oW (K := 0) (r := 1) wi_m_loaf_0 (by decide +kernel)), rfl⟩
theorem dm_loaf_2 : dn tm_loaf 2 (.putfield 146) 3 5 := ⟨o_181 0 146 146 (oWd (K := 0) (r := 2) wi_m_loaf_0 (by decide +kernel)), rfl⟩
theorem dm_loaf_5 : dl tm_loaf 5 .iload_n .iload 1 6 := Or.inl ⟨1, o_27 (oW (K := 0) (r := 5) wi_m_loaf_0 (by decide +kernel)), rfl, rfl⟩
theorem dm_loaf_6 : dn tm_loaf 6 (.iconst (-1)) 1 7 := ⟨o_2 (oW (K := 0) (r := 6) wi_m_loaf_0 (by decide +kernel)), rfl⟩
theorem dm_loaf_7 : db tm_loaf 7 (.if_icmp .ne) 17 10 := ⟨10, o_160 0 10 10 (oWd (K := 0) (r := 7) wi_m_loaf_0 (by decide +kernel)), rfl, rfl⟩
theorem dm_loaf_10 : dl tm_loaf 10 .aload_n .aload 0 11 := Or.inl ⟨0, o_42 (oW (K := 0) (r := 10) wi_m_loaf_0 (by decide +kernel)), rfl, rfl⟩
theorem dm_loaf_11 : dn tm_loaf 11 (.iconst 0) 1 12 := ⟨o_3 (oW (K := 0) (r := 11) wi_m_loaf_0 (by decide +kernel)), rfl⟩
theorem dm_loaf_12 : dn tm_loaf 12 (.putfield 484) 3 15 := ⟨o_181 1 228 484 (oWd (K := 0) (r := 12) wi_m_loaf_0 (by decide +kernel)), rfl⟩
theorem dm_loaf_15 : dn tm_loaf 15 (.iconst 0) 1 16 := ⟨o_3 (oW (K := 0) (r := 15) wi_m_loaf_0 (by decide +kernel)), rfl⟩
theorem dm_loaf_16 : dn tm_loaf 16 (.ireturn) 1 17 := ⟨o_172 (oW (K := 0) (r := 16) wi_m_loaf_0 (by decide +kernel)), rfl⟩
theorem dm_loaf_17 : dl tm_loaf 17 .aload_n .aload 0 18 := Or.inl ⟨0, o_42 (oW (K := 0) (r := 17) wi_m_loaf_0 (by decide +kernel)), rfl, rfl⟩
theorem dm_loaf_18 : dl tm_loaf 18 .iload_n .iload 1 19 := Or.inl ⟨1, o_27 (oW (K := 0) (r := 18) wi_m_loaf_0 (by decide +kernel)), rfl, rfl⟩
theorem dm_loaf_19 : dn tm_loaf 19 (.iconst 1) 1 20 := ⟨o_4 (oW (K := 0) (r := 19) wi_m_loaf_0 (by decide +kernel)), rfl⟩
theorem dm_loaf_20 : dn tm_loaf 20 (.bipush 30) 2 22 := ⟨o_16 30 30 (oWd (K := 0) (r := 20) wi_m_loaf_0 (by decide +kernel)), rfl⟩
theorem dm_loaf_22 : dn tm_loaf 22 (.invokevirtual 177) 3 25 := ⟨o_182 0 177 177 (oWd (K := 0) (r := 22) wi_m_loaf_0 (by decide +kernel)), rfl⟩
theorem dm_loaf_25 : db tm_loaf 25 (.ifCond .eq) 48 28 := ⟨23, o_153 0 23 23 (oWd (K := 0) (r := 25) wi_m_loaf_0 (by decide +kernel)), rfl, rfl⟩
theorem dm_loaf_28 : dl tm_loaf 28 .aload_n .aload 0 29 := Or.inl ⟨0, o_42 (oW (K := 0) (r := 28) wi_m_loaf_0 (by decide +kernel)), rfl, rfl⟩
theorem dm_loaf_29 : dl tm_loaf 29 .iload_n .iload 2 30 := Or.inl ⟨2, o_28 (oW (K := 0) (r := 29) wi_m_loaf_0 (by decide +kernel)), rfl, rfl⟩
theorem dm_loaf_30 : dn tm_loaf 30 (.iconst 1) 1 31 := ⟨o_4 (oW (K := 0) (r := 30) wi_m_loaf_0 (by decide +kernel)), rfl⟩
theorem dm_loaf_31 : dn tm_loaf 31 (.bipush 30) 2 33 := ⟨o_16 30 30 (oWd (K := 0) (r := 31) wi_m_loaf_0 (by decide +kernel)), rfl⟩
def wl_m_loaf_32 : List Nat := [30, 182, 0, 177, 153, 0, 12, 42, 180, 1, 228, 16, 6, 160, 0, 5, 2, 172, 42, 180, 0, 110, 42, 180, 1, 228, 27, 79, 42, 180, 0, 113, 42, 180, 1, 228, 28, 79]
theorem wi_m_loaf_32 : oC tm_loaf.2.1 32 wl_m_loaf_32 = true := by decide +kernel
theorem dm_loaf_33 : dn tm_loaf 33 (.invokevirtual 177) 3 36 := ⟨o_182 0 177 177 (oWd (K := 32) (r := 1) wi_m_loaf_32 (by decide +kernel)), rfl⟩
theorem dm_loaf_36 : db tm_loaf 36 (.ifCond .eq) 48 39 := ⟨12, o_153 0 12 12 (oWd (K := 32) (r := 4) wi_m_loaf_32 (by decide +kernel)), rfl, rfl⟩
theorem dm_loaf_39 : dl tm_loaf 39 .aload_n .aload 0 40 := Or.inl ⟨0, o_42 (oW (K := 32) (r := 7) wi_m_loaf_32 (by decide +kernel)), rfl, rfl⟩
theorem dm_loaf_40 : dn tm_loaf 40 (.getfield 484) 3 43 := ⟨o_180 1 228 484 (oWd (K := 32) (r := 8) wi_m_loaf_32 (by decide +kernel)), rfl⟩
theorem dm_loaf_43 : dn tm_loaf 43 (.bipush 6) 2 45 := ⟨o_16 6 6 (oWd (K := 32) (r := 11) wi_m_loaf_32 (by decide +kernel)), rfl⟩
theorem dm_loaf_45 : db tm_loaf 45 (.if_icmp .ne) 50 48 := ⟨5, o_160 0 5 5 (oWd (K := 32) (r := 13) wi_m_loaf_32 (by decide +kernel)), rfl, rfl⟩
theorem dm_loaf_48 : dn tm_loaf 48 (.iconst (-1)) 1 49 := ⟨o_2 (oW (K := 32) (r := 16) wi_m_loaf_32 (by decide +kernel)), rfl⟩
theorem dm_loaf_49 : dn tm_loaf 49 (.ireturn) 1 50 := ⟨o_172 (oW (K := 32) (r := 17) wi_m_loaf_32 (by decide +kernel)), rfl⟩
theorem dm_loaf_50 : dl tm_loaf 50 .aload_n .aload 0 51 := Or.inl ⟨0, o_42 (oW (K := 32) (r := 18) wi_m_loaf_32 (by decide +kernel)), rfl, rfl⟩
theorem dm_loaf_51 : dn tm_loaf 51 (.getfield 110) 3 54 := ⟨o_180 0 110 110 (oWd (K := 32) (r := 19) wi_m_loaf_32 (by decide +kernel)), rfl⟩
theorem dm_loaf_54 : dl tm_loaf 54 .aload_n .aload 0 55 := Or.inl ⟨0, o_42 (oW (K := 32) (r := 22) wi_m_loaf_32 (by decide +kernel)), rfl, rfl⟩
theorem dm_loaf_55 : dn tm_loaf 55 (.getfield 484) 3 58 := ⟨o_180 1 228 484 (oWd (K := 32) (r := 23) wi_m_loaf_32 (by decide +kernel)), rfl⟩
theorem dm_loaf_58 : dl tm_loaf 58 .iload_n .iload 1 59 := Or.inl ⟨1, o_27 (oW (K := 32) (r := 26) wi_m_loaf_32 (by decide +kernel)), rfl, rfl⟩
theorem dm_loaf_59 : dn tm_loaf 59 (.iastore) 1 60 := ⟨o_79 (oW (K := 32) (r := 27) wi_m_loaf_32 (by decide +kernel)), rfl⟩
theorem dm_loaf_60 : dl tm_loaf 60 .aload_n .aload 0 61 := Or.inl ⟨0, o_42 (oW (K := 32) (r := 28) wi_m_loaf_32 (by decide +kernel)), rfl, rfl⟩
theorem dm_loaf_61 : dn tm_loaf 61 (.getfield 113) 3 64 := ⟨o_180 0 113 113 (oWd (K := 32) (r := 29) wi_m_loaf_32 (by decide +kernel)), rfl⟩
def wl_m_loaf_64 : List Nat := [42, 180, 1, 228, 28, 79, 42, 42, 180, 1, 228, 4, 96, 181, 1, 228, 42, 180, 1, 228, 172]
theorem wi_m_loaf_64 : oC tm_loaf.2.1 64 wl_m_loaf_64 = true := by decide +kernel
theorem dm_loaf_64 : dl tm_loaf 64 .aload_n .aload 0 65 := Or.inl ⟨0, o_42 (oW (K := 64) (r := 0) wi_m_loaf_64 (by decide +kernel)), rfl, rfl⟩
theorem dm_loaf_65 : dn tm_loaf 65 (.getfield 484) 3 68 := ⟨o_180 1 228 484 (oWd (K := 64) (r := 1) wi_m_loaf_64 (by decide +kernel)), rfl⟩
theorem dm_loaf_68 : dl tm_loaf 68 .iload_n .iload 2 69 := Or.inl ⟨2, o_28 (oW (K := 64) (r := 4) wi_m_loaf_64 (by decide +kernel)), rfl, rfl⟩
theorem dm_loaf_69 : dn tm_loaf 69 (.iastore) 1 70 := ⟨o_79 (oW (K := 64) (r := 5) wi_m_loaf_64 (by decide +kernel)), rfl⟩
theorem dm_loaf_70 : dl tm_loaf 70 .aload_n .aload 0 71 := Or.inl ⟨0, o_42 (oW (K := 64) (r := 6) wi_m_loaf_64 (by decide +kernel)), rfl, rfl⟩
theorem dm_loaf_71 : dl tm_loaf 71 .aload_n .aload 0 72 := Or.inl ⟨0, o_42 (oW (K := 64) (r := 7) wi_m_loaf_64 (by decide +kernel)), rfl, rfl⟩
theorem dm_loaf_72 : dn tm_loaf 72 (.getfield 484) 3 75 := ⟨o_180 1 228 484 (oWd (K := 64) (r := 8) wi_m_loaf_64 (by decide +kernel)), rfl⟩
theorem dm_loaf_75 : dn tm_loaf 75 (.iconst 1) 1 76 := ⟨o_4 (oW (K := 64) (r := 11) wi_m_loaf_64 (by decide +kernel)), rfl⟩
theorem dm_loaf_76 : dn tm_loaf 76 (.iadd) 1 77 := ⟨o_96 (oW (K := 64) (r := 12) wi_m_loaf_64 (by decide +kernel)), rfl⟩
theorem dm_loaf_77 : dn tm_loaf 77 (.putfield 484) 3 80 := ⟨o_181 1 228 484 (oWd (K := 64) (r := 13) wi_m_loaf_64 (by decide +kernel)), rfl⟩
theorem dm_loaf_80 : dl tm_loaf 80 .aload_n .aload 0 81 := Or.inl ⟨0, o_42 (oW (K := 64) (r := 16) wi_m_loaf_64 (by decide +kernel)), rfl, rfl⟩
theorem dm_loaf_81 : dn tm_loaf 81 (.getfield 484) 3 84 := ⟨o_180 1 228 484 (oWd (K := 64) (r := 17) wi_m_loaf_64 (by decide +kernel)), rfl⟩
theorem dm_loaf_84 : dn tm_loaf 84 (.ireturn) 1 85 := ⟨o_172 (oW (K := 64) (r := 20) wi_m_loaf_64 (by decide +kernel)), rfl⟩
def wl_m_goesToNextOrder_0 : List Nat := [42, 180, 1, 228, 5, 100, 60, 27, 155, 0, 27, 42, 180, 0, 116, 27, 46, 42, 180, 0, 116, 27, 4, 96, 46, 164, 0, 10, 27, 4, 100, 60, 167, 255, 231, 27, 156, 0]
theorem wi_m_goesToNextOrder_0 : oC tm_goesToNextOrder.2.1 0 wl_m_goesToNextOrder_0 = true := by decide +kernel
theorem dm_goesToNextOrder_0 : dl tm_goesToNextOrder 0 .aload_n .aload 0 1 := Or.inl ⟨0, o_42 (oW (K := 0) (r := 0) wi_m_goesToNextOrder_0 (by decide +kernel)), rfl, rfl⟩
theorem dm_goesToNextOrder_1 : dn tm_goesToNextOrder 1 (.getfield 484) 3 4 := ⟨o_180 1 228 484 (oWd (K := 0) (r := 1) wi_m_goesToNextOrder_0 (by decide +kernel)), rfl⟩
theorem dm_goesToNextOrder_4 : dn tm_goesToNextOrder 4 (.iconst 2) 1 5 := ⟨o_5 (oW (K := 0) (r := 4) wi_m_goesToNextOrder_0 (by decide +kernel)), rfl⟩
theorem dm_goesToNextOrder_5 : dn tm_goesToNextOrder 5 (.isub) 1 6 := ⟨o_100 (oW (K := 0) (r := 5) wi_m_goesToNextOrder_0 (by decide +kernel)), rfl⟩
theorem dm_goesToNextOrder_6 : dl tm_goesToNextOrder 6 .istore_n .istore 1 7 := Or.inl ⟨1, o_60 (oW (K := 0) (r := 6) wi_m_goesToNextOrder_0 (by decide +kernel)), rfl, rfl⟩
theorem dm_goesToNextOrder_7 : dl tm_goesToNextOrder 7 .iload_n .iload 1 8 := Or.inl ⟨1, o_27 (oW (K := 0) (r := 7) wi_m_goesToNextOrder_0 (by decide +kernel)), rfl, rfl⟩
theorem dm_goesToNextOrder_8 : db tm_goesToNextOrder 8 (.ifCond .lt) 35 11 := ⟨27, o_155 0 27 27 (oWd (K := 0) (r := 8) wi_m_goesToNextOrder_0 (by decide +kernel)), rfl, rfl⟩
theorem dm_goesToNextOrder_11 : dl tm_goesToNextOrder 11 .aload_n .aload 0 12 := Or.inl ⟨0, o_42 (oW (K := 0) (r := 11) wi_m_goesToNextOrder_0 (by decide +kernel)), rfl, rfl⟩
theorem dm_goesToNextOrder_12 : dn tm_goesToNextOrder 12 (.getfield 116) 3 15 := ⟨o_180 0 116 116 (oWd (K := 0) (r := 12) wi_m_goesToNextOrder_0 (by decide +kernel)), rfl⟩
theorem dm_goesToNextOrder_15 : dl tm_goesToNextOrder 15 .iload_n .iload 1 16 := Or.inl ⟨1, o_27 (oW (K := 0) (r := 15) wi_m_goesToNextOrder_0 (by decide +kernel)), rfl, rfl⟩
theorem dm_goesToNextOrder_16 : dn tm_goesToNextOrder 16 (.iaload) 1 17 := ⟨o_46 (oW (K := 0) (r := 16) wi_m_goesToNextOrder_0 (by decide +kernel)), rfl⟩
theorem dm_goesToNextOrder_17 : dl tm_goesToNextOrder 17 .aload_n .aload 0 18 := Or.inl ⟨0, o_42 (oW (K := 0) (r := 17) wi_m_goesToNextOrder_0 (by decide +kernel)), rfl, rfl⟩
theorem dm_goesToNextOrder_18 : dn tm_goesToNextOrder 18 (.getfield 116) 3 21 := ⟨o_180 0 116 116 (oWd (K := 0) (r := 18) wi_m_goesToNextOrder_0 (by decide +kernel)), rfl⟩
theorem dm_goesToNextOrder_21 : dl tm_goesToNextOrder 21 .iload_n .iload 1 22 := Or.inl ⟨1, o_27 (oW (K := 0) (r := 21) wi_m_goesToNextOrder_0 (by decide +kernel)), rfl, rfl⟩
theorem dm_goesToNextOrder_22 : dn tm_goesToNextOrder 22 (.iconst 1) 1 23 := ⟨o_4 (oW (K := 0) (r := 22) wi_m_goesToNextOrder_0 (by decide +kernel)), rfl⟩
theorem dm_goesToNextOrder_23 : dn tm_goesToNextOrder 23 (.iadd) 1 24 := ⟨o_96 (oW (K := 0) (r := 23) wi_m_goesToNextOrder_0 (by decide +kernel)), rfl⟩
theorem dm_goesToNextOrder_24 : dn tm_goesToNextOrder 24 (.iaload) 1 25 := ⟨o_46 (oW (K := 0) (r := 24) wi_m_goesToNextOrder_0 (by decide +kernel)), rfl⟩
theorem dm_goesToNextOrder_25 : db tm_goesToNextOrder 25 (.if_icmp .le) 35 28 := ⟨10, o_164 0 10 10 (oWd (K := 0) (r := 25) wi_m_goesToNextOrder_0 (by decide +kernel)), rfl, rfl⟩
theorem dm_goesToNextOrder_28 : dl tm_goesToNextOrder 28 .iload_n .iload 1 29 := Or.inl ⟨1, o_27 (oW (K := 0) (r := 28) wi_m_goesToNextOrder_0 (by decide +kernel)), rfl, rfl⟩
theorem dm_goesToNextOrder_29 : dn tm_goesToNextOrder 29 (.iconst 1) 1 30 := ⟨o_4 (oW (K := 0) (r := 29) wi_m_goesToNextOrder_0 (by decide +kernel)), rfl⟩
theorem dm_goesToNextOrder_30 : dn tm_goesToNextOrder 30 (.isub) 1 31 := ⟨o_100 (oW (K := 0) (r := 30) wi_m_goesToNextOrder_0 (by decide +kernel)), rfl⟩
theorem dm_goesToNextOrder_31 : dl tm_goesToNextOrder 31 .istore_n .istore 1 32 := Or.inl ⟨1, o_60 (oW (K := 0) (r := 31) wi_m_goesToNextOrder_0 (by decide +kernel)), rfl, rfl⟩
def wl_m_goesToNextOrder_32 : List Nat := [167, 255, 231, 27, 156, 0, 5, 3, 172, 42, 180, 1, 228, 4, 100, 61, 42, 180, 0, 116, 28, 46, 42, 180, 0, 116, 27, 46, 162, 0, 10, 28, 4, 100, 61, 167, 255, 237]
theorem wi_m_goesToNextOrder_32 : oC tm_goesToNextOrder.2.1 32 wl_m_goesToNextOrder_32 = true := by decide +kernel
theorem dm_goesToNextOrder_32 : db tm_goesToNextOrder 32 .goto 7 35 := ⟨-25, o_167 255 231 (-25) (oWd (K := 32) (r := 0) wi_m_goesToNextOrder_32 (by decide +kernel)), rfl, rfl⟩
theorem dm_goesToNextOrder_35 : dl tm_goesToNextOrder 35 .iload_n .iload 1 36 := Or.inl ⟨1, o_27 (oW (K := 32) (r := 3) wi_m_goesToNextOrder_32 (by decide +kernel)), rfl, rfl⟩
theorem dm_goesToNextOrder_36 : db tm_goesToNextOrder 36 (.ifCond .ge) 41 39 := ⟨5, o_156 0 5 5 (oWd (K := 32) (r := 4) wi_m_goesToNextOrder_32 (by decide +kernel)), rfl, rfl⟩
theorem dm_goesToNextOrder_39 : dn tm_goesToNextOrder 39 (.iconst 0) 1 40 := ⟨o_3 (oW (K := 32) (r := 7) wi_m_goesToNextOrder_32 (by decide +kernel)), rfl⟩
theorem dm_goesToNextOrder_40 : dn tm_goesToNextOrder 40 (.ireturn) 1 41 := ⟨o_172 (oW (K := 32) (r := 8) wi_m_goesToNextOrder_32 (by decide +kernel)), rfl⟩
theorem dm_goesToNextOrder_41 : dl tm_goesToNextOrder 41 .aload_n .aload 0 42 := Or.inl ⟨0, o_42 (oW (K := 32) (r := 9) wi_m_goesToNextOrder_32 (by decide +kernel)), rfl, rfl⟩
theorem dm_goesToNextOrder_42 : dn tm_goesToNextOrder 42 (.getfield 484) 3 45 := ⟨o_180 1 228 484 (oWd (K := 32) (r := 10) wi_m_goesToNextOrder_32 (by decide +kernel)), rfl⟩
theorem dm_goesToNextOrder_45 : dn tm_goesToNextOrder 45 (.iconst 1) 1 46 := ⟨o_4 (oW (K := 32) (r := 13) wi_m_goesToNextOrder_32 (by decide +kernel)), rfl⟩
theorem dm_goesToNextOrder_46 : dn tm_goesToNextOrder 46 (.isub) 1 47 := ⟨o_100 (oW (K := 32) (r := 14) wi_m_goesToNextOrder_32 (by decide +kernel)), rfl⟩
theorem dm_goesToNextOrder_47 : dl tm_goesToNextOrder 47 .istore_n .istore 2 48 := Or.inl ⟨2, o_61 (oW (K := 32) (r := 15) wi_m_goesToNextOrder_32 (by decide +kernel)), rfl, rfl⟩
theorem dm_goesToNextOrder_48 : dl tm_goesToNextOrder 48 .aload_n .aload 0 49 := Or.inl ⟨0, o_42 (oW (K := 32) (r := 16) wi_m_goesToNextOrder_32 (by decide +kernel)), rfl, rfl⟩
theorem dm_goesToNextOrder_49 : dn tm_goesToNextOrder 49 (.getfield 116) 3 52 := ⟨o_180 0 116 116 (oWd (K := 32) (r := 17) wi_m_goesToNextOrder_32 (by decide +kernel)), rfl⟩
theorem dm_goesToNextOrder_52 : dl tm_goesToNextOrder 52 .iload_n .iload 2 53 := Or.inl ⟨2, o_28 (oW (K := 32) (r := 20) wi_m_goesToNextOrder_32 (by decide +kernel)), rfl, rfl⟩
theorem dm_goesToNextOrder_53 : dn tm_goesToNextOrder 53 (.iaload) 1 54 := ⟨o_46 (oW (K := 32) (r := 21) wi_m_goesToNextOrder_32 (by decide +kernel)), rfl⟩
theorem dm_goesToNextOrder_54 : dl tm_goesToNextOrder 54 .aload_n .aload 0 55 := Or.inl ⟨0, o_42 (oW (K := 32) (r := 22) wi_m_goesToNextOrder_32 (by decide +kernel)), rfl, rfl⟩
theorem dm_goesToNextOrder_55 : dn tm_goesToNextOrder 55 (.getfield 116) 3 58 := ⟨o_180 0 116 116 (oWd (K := 32) (r := 23) wi_m_goesToNextOrder_32 (by decide +kernel)), rfl⟩
theorem dm_goesToNextOrder_58 : dl tm_goesToNextOrder 58 .iload_n .iload 1 59 := Or.inl ⟨1, o_27 (oW (K := 32) (r := 26) wi_m_goesToNextOrder_32 (by decide +kernel)), rfl, rfl⟩
theorem dm_goesToNextOrder_59 : dn tm_goesToNextOrder 59 (.iaload) 1 60 := ⟨o_46 (oW (K := 32) (r := 27) wi_m_goesToNextOrder_32 (by decide +kernel)), rfl⟩
theorem dm_goesToNextOrder_60 : db tm_goesToNextOrder 60 (.if_icmp .ge) 70 63 := ⟨10, o_162 0 10 10 (oWd (K := 32) (r := 28) wi_m_goesToNextOrder_32 (by decide +kernel)), rfl, rfl⟩
theorem dm_goesToNextOrder_63 : dl tm_goesToNextOrder 63 .iload_n .iload 2 64 := Or.inl ⟨2, o_28 (oW (K := 32) (r := 31) wi_m_goesToNextOrder_32 (by decide +kernel)), rfl, rfl⟩
def wl_m_goesToNextOrder_64 : List Nat := [4, 100, 61, 167, 255, 237, 42, 180, 0, 116, 27, 46, 62, 42, 180, 0, 116, 27, 42, 180, 0, 116, 28, 46, 79, 42, 180, 0, 116, 28, 29, 79, 42, 180, 1, 228, 4, 100]
theorem wi_m_goesToNextOrder_64 : oC tm_goesToNextOrder.2.1 64 wl_m_goesToNextOrder_64 = true := by decide +kernel
theorem dm_goesToNextOrder_64 : dn tm_goesToNextOrder 64 (.iconst 1) 1 65 := ⟨o_4 (oW (K := 64) (r := 0) wi_m_goesToNextOrder_64 (by decide +kernel)), rfl⟩
theorem dm_goesToNextOrder_65 : dn tm_goesToNextOrder 65 (.isub) 1 66 := ⟨o_100 (oW (K := 64) (r := 1) wi_m_goesToNextOrder_64 (by decide +kernel)), rfl⟩
theorem dm_goesToNextOrder_66 : dl tm_goesToNextOrder 66 .istore_n .istore 2 67 := Or.inl ⟨2, o_61 (oW (K := 64) (r := 2) wi_m_goesToNextOrder_64 (by decide +kernel)), rfl, rfl⟩
theorem dm_goesToNextOrder_67 : db tm_goesToNextOrder 67 .goto 48 70 := ⟨-19, o_167 255 237 (-19) (oWd (K := 64) (r := 3) wi_m_goesToNextOrder_64 (by decide +kernel)), rfl, rfl⟩
theorem dm_goesToNextOrder_70 : dl tm_goesToNextOrder 70 .aload_n .aload 0 71 := Or.inl ⟨0, o_42 (oW (K := 64) (r := 6) wi_m_goesToNextOrder_64 (by decide +kernel)), rfl, rfl⟩
theorem dm_goesToNextOrder_71 : dn tm_goesToNextOrder 71 (.getfield 116) 3 74 := ⟨o_180 0 116 116 (oWd (K := 64) (r := 7) wi_m_goesToNextOrder_64 (by decide +kernel)), rfl⟩
theorem dm_goesToNextOrder_74 : dl tm_goesToNextOrder 74 .iload_n .iload 1 75 := Or.inl ⟨1, o_27 (oW (K := 64) (r := 10) wi_m_goesToNextOrder_64 (by decide +kernel)), rfl, rfl⟩
theorem dm_goesToNextOrder_75 : dn tm_goesToNextOrder 75 (.iaload) 1 76 := ⟨o_46 (oW (K := 64) (r := 11) wi_m_goesToNextOrder_64 (by decide +kernel)), rfl⟩
theorem dm_goesToNextOrder_76 : dl tm_goesToNextOrder 76 .istore_n .istore 3 77 := Or.inl ⟨3, o_62 (oW (K := 64) (r := 12) wi_m_goesToNextOrder_64 (by decide +kernel)), rfl, rfl⟩
theorem dm_goesToNextOrder_77 : dl tm_goesToNextOrder 77 .aload_n .aload 0 78 := Or.inl ⟨0, o_42 (oW (K := 64) (r := 13) wi_m_goesToNextOrder_64 (by decide +kernel)), rfl, rfl⟩
theorem dm_goesToNextOrder_78 : dn tm_goesToNextOrder 78 (.getfield 116) 3 81 := ⟨o_180 0 116 116 (oWd (K := 64) (r := 14) wi_m_goesToNextOrder_64 (by decide +kernel)), rfl⟩
theorem dm_goesToNextOrder_81 : dl tm_goesToNextOrder 81 .iload_n .iload 1 82 := Or.inl ⟨1, o_27 (oW (K := 64) (r := 17) wi_m_goesToNextOrder_64 (by decide +kernel)), rfl, rfl⟩
theorem dm_goesToNextOrder_82 : dl tm_goesToNextOrder 82 .aload_n .aload 0 83 := Or.inl ⟨0, o_42 (oW (K := 64) (r := 18) wi_m_goesToNextOrder_64 (by decide +kernel)), rfl, rfl⟩
theorem dm_goesToNextOrder_83 : dn tm_goesToNextOrder 83 (.getfield 116) 3 86 := ⟨o_180 0 116 116 (oWd (K := 64) (r := 19) wi_m_goesToNextOrder_64 (by decide +kernel)), rfl⟩
theorem dm_goesToNextOrder_86 : dl tm_goesToNextOrder 86 .iload_n .iload 2 87 := Or.inl ⟨2, o_28 (oW (K := 64) (r := 22) wi_m_goesToNextOrder_64 (by decide +kernel)), rfl, rfl⟩
theorem dm_goesToNextOrder_87 : dn tm_goesToNextOrder 87 (.iaload) 1 88 := ⟨o_46 (oW (K := 64) (r := 23) wi_m_goesToNextOrder_64 (by decide +kernel)), rfl⟩
theorem dm_goesToNextOrder_88 : dn tm_goesToNextOrder 88 (.iastore) 1 89 := ⟨o_79 (oW (K := 64) (r := 24) wi_m_goesToNextOrder_64 (by decide +kernel)), rfl⟩
theorem dm_goesToNextOrder_89 : dl tm_goesToNextOrder 89 .aload_n .aload 0 90 := Or.inl ⟨0, o_42 (oW (K := 64) (r := 25) wi_m_goesToNextOrder_64 (by decide +kernel)), rfl, rfl⟩
theorem dm_goesToNextOrder_90 : dn tm_goesToNextOrder 90 (.getfield 116) 3 93 := ⟨o_180 0 116 116 (oWd (K := 64) (r := 26) wi_m_goesToNextOrder_64 (by decide +kernel)), rfl⟩
theorem dm_goesToNextOrder_93 : dl tm_goesToNextOrder 93 .iload_n .iload 2 94 := Or.inl ⟨2, o_28 (oW (K := 64) (r := 29) wi_m_goesToNextOrder_64 (by decide +kernel)), rfl, rfl⟩
theorem dm_goesToNextOrder_94 : dl tm_goesToNextOrder 94 .iload_n .iload 3 95 := Or.inl ⟨3, o_29 (oW (K := 64) (r := 30) wi_m_goesToNextOrder_64 (by decide +kernel)), rfl, rfl⟩
theorem dm_goesToNextOrder_95 : dn tm_goesToNextOrder 95 (.iastore) 1 96 := ⟨o_79 (oW (K := 64) (r := 31) wi_m_goesToNextOrder_64 (by decide +kernel)), rfl⟩
def wl_m_goesToNextOrder_96 : List Nat := [42, 180, 1, 228, 4, 100, 54, 4, 27, 4, 96, 54, 5, 21, 5, 21, 4, 162, 0, 45, 42, 180, 0, 116, 21, 5, 46, 62, 42, 180, 0, 116, 21, 5, 42, 180, 0, 116]
theorem wi_m_goesToNextOrder_96 : oC tm_goesToNextOrder.2.1 96 wl_m_goesToNextOrder_96 = true := by decide +kernel
theorem dm_goesToNextOrder_96 : dl tm_goesToNextOrder 96 .aload_n .aload 0 97 := Or.inl ⟨0, o_42 (oW (K := 96) (r := 0) wi_m_goesToNextOrder_96 (by decide +kernel)), rfl, rfl⟩
theorem dm_goesToNextOrder_97 : dn tm_goesToNextOrder 97 (.getfield 484) 3 100 := ⟨o_180 1 228 484 (oWd (K := 96) (r := 1) wi_m_goesToNextOrder_96 (by decide +kernel)), rfl⟩
theorem dm_goesToNextOrder_100 : dn tm_goesToNextOrder 100 (.iconst 1) 1 101 := ⟨o_4 (oW (K := 96) (r := 4) wi_m_goesToNextOrder_96 (by decide +kernel)), rfl⟩
theorem dm_goesToNextOrder_101 : dn tm_goesToNextOrder 101 (.isub) 1 102 := ⟨o_100 (oW (K := 96) (r := 5) wi_m_goesToNextOrder_96 (by decide +kernel)), rfl⟩
theorem dm_goesToNextOrder_102 : dl tm_goesToNextOrder 102 .istore_n .istore 4 104 := Or.inr ⟨o_54 4 (oW (K := 96) (r := 6) wi_m_goesToNextOrder_96 (by decide +kernel)), rfl⟩
theorem dm_goesToNextOrder_104 : dl tm_goesToNextOrder 104 .iload_n .iload 1 105 := Or.inl ⟨1, o_27 (oW (K := 96) (r := 8) wi_m_goesToNextOrder_96 (by decide +kernel)), rfl, rfl⟩
theorem dm_goesToNextOrder_105 : dn tm_goesToNextOrder 105 (.iconst 1) 1 106 := ⟨o_4 (oW (K := 96) (r := 9) wi_m_goesToNextOrder_96 (by decide +kernel)), rfl⟩
theorem dm_goesToNextOrder_106 : dn tm_goesToNextOrder 106 (.iadd) 1 107 := ⟨o_96 (oW (K := 96) (r := 10) wi_m_goesToNextOrder_96 (by decide +kernel)), rfl⟩
theorem dm_goesToNextOrder_107 : dl tm_goesToNextOrder 107 .istore_n .istore 5 109 := Or.inr ⟨o_54 5 (oW (K := 96) (r := 11) wi_m_goesToNextOrder_96 (by decide +kernel)), rfl⟩
theorem dm_goesToNextOrder_109 : dl tm_goesToNextOrder 109 .iload_n .iload 5 111 := Or.inr ⟨o_21 5 (oW (K := 96) (r := 13) wi_m_goesToNextOrder_96 (by decide +kernel)), rfl⟩
theorem dm_goesToNextOrder_111 : dl tm_goesToNextOrder 111 .iload_n .iload 4 113 := Or.inr ⟨o_21 4 (oW (K := 96) (r := 15) wi_m_goesToNextOrder_96 (by decide +kernel)), rfl⟩
theorem dm_goesToNextOrder_113 : db tm_goesToNextOrder 113 (.if_icmp .ge) 158 116 := ⟨45, o_162 0 45 45 (oWd (K := 96) (r := 17) wi_m_goesToNextOrder_96 (by decide +kernel)), rfl, rfl⟩
theorem dm_goesToNextOrder_116 : dl tm_goesToNextOrder 116 .aload_n .aload 0 117 := Or.inl ⟨0, o_42 (oW (K := 96) (r := 20) wi_m_goesToNextOrder_96 (by decide +kernel)), rfl, rfl⟩
theorem dm_goesToNextOrder_117 : dn tm_goesToNextOrder 117 (.getfield 116) 3 120 := ⟨o_180 0 116 116 (oWd (K := 96) (r := 21) wi_m_goesToNextOrder_96 (by decide +kernel)), rfl⟩
theorem dm_goesToNextOrder_120 : dl tm_goesToNextOrder 120 .iload_n .iload 5 122 := Or.inr ⟨o_21 5 (oW (K := 96) (r := 24) wi_m_goesToNextOrder_96 (by decide +kernel)), rfl⟩
theorem dm_goesToNextOrder_122 : dn tm_goesToNextOrder 122 (.iaload) 1 123 := ⟨o_46 (oW (K := 96) (r := 26) wi_m_goesToNextOrder_96 (by decide +kernel)), rfl⟩
theorem dm_goesToNextOrder_123 : dl tm_goesToNextOrder 123 .istore_n .istore 3 124 := Or.inl ⟨3, o_62 (oW (K := 96) (r := 27) wi_m_goesToNextOrder_96 (by decide +kernel)), rfl, rfl⟩
theorem dm_goesToNextOrder_124 : dl tm_goesToNextOrder 124 .aload_n .aload 0 125 := Or.inl ⟨0, o_42 (oW (K := 96) (r := 28) wi_m_goesToNextOrder_96 (by decide +kernel)), rfl, rfl⟩
theorem dm_goesToNextOrder_125 : dn tm_goesToNextOrder 125 (.getfield 116) 3 128 := ⟨o_180 0 116 116 (oWd (K := 96) (r := 29) wi_m_goesToNextOrder_96 (by decide +kernel)), rfl⟩
def wl_m_goesToNextOrder_128 : List Nat := [21, 5, 42, 180, 0, 116, 21, 4, 46, 79, 42, 180, 0, 116, 21, 4, 29, 79, 21, 4, 4, 100, 54, 4, 132, 5, 1, 167, 255, 210, 4, 172]
theorem wi_m_goesToNextOrder_128 : oC tm_goesToNextOrder.2.1 128 wl_m_goesToNextOrder_128 = true := by decide +kernel
theorem dm_goesToNextOrder_128 : dl tm_goesToNextOrder 128 .iload_n .iload 5 130 := Or.inr ⟨o_21 5 (oW (K := 128) (r := 0) wi_m_goesToNextOrder_128 (by decide +kernel)), rfl⟩
theorem dm_goesToNextOrder_130 : dl tm_goesToNextOrder 130 .aload_n .aload 0 131 := Or.inl ⟨0, o_42 (oW (K := 128) (r := 2) wi_m_goesToNextOrder_128 (by decide +kernel)), rfl, rfl⟩
theorem dm_goesToNextOrder_131 : dn tm_goesToNextOrder 131 (.getfield 116) 3 134 := ⟨o_180 0 116 116 (oWd (K := 128) (r := 3) wi_m_goesToNextOrder_128 (by decide +kernel)), rfl⟩
theorem dm_goesToNextOrder_134 : dl tm_goesToNextOrder 134 .iload_n .iload 4 136 := Or.inr ⟨o_21 4 (oW (K := 128) (r := 6) wi_m_goesToNextOrder_128 (by decide +kernel)), rfl⟩
theorem dm_goesToNextOrder_136 : dn tm_goesToNextOrder 136 (.iaload) 1 137 := ⟨o_46 (oW (K := 128) (r := 8) wi_m_goesToNextOrder_128 (by decide +kernel)), rfl⟩
theorem dm_goesToNextOrder_137 : dn tm_goesToNextOrder 137 (.iastore) 1 138 := ⟨o_79 (oW (K := 128) (r := 9) wi_m_goesToNextOrder_128 (by decide +kernel)), rfl⟩
theorem dm_goesToNextOrder_138 : dl tm_goesToNextOrder 138 .aload_n .aload 0 139 := Or.inl ⟨0, o_42 (oW (K := 128) (r := 10) wi_m_goesToNextOrder_128 (by decide +kernel)), rfl, rfl⟩
theorem dm_goesToNextOrder_139 : dn tm_goesToNextOrder 139 (.getfield 116) 3 142 := ⟨o_180 0 116 116 (oWd (K := 128) (r := 11) wi_m_goesToNextOrder_128 (by decide +kernel)), rfl⟩
theorem dm_goesToNextOrder_142 : dl tm_goesToNextOrder 142 .iload_n .iload 4 144 := Or.inr ⟨o_21 4 (oW (K := 128) (r := 14) wi_m_goesToNextOrder_128 (by decide +kernel)), rfl⟩
theorem dm_goesToNextOrder_144 : dl tm_goesToNextOrder 144 .iload_n .iload 3 145 := Or.inl ⟨3, o_29 (oW (K := 128) (r := 16) wi_m_goesToNextOrder_128 (by decide +kernel)), rfl, rfl⟩
theorem dm_goesToNextOrder_145 : dn tm_goesToNextOrder 145 (.iastore) 1 146 := ⟨o_79 (oW (K := 128) (r := 17) wi_m_goesToNextOrder_128 (by decide +kernel)), rfl⟩
theorem dm_goesToNextOrder_146 : dl tm_goesToNextOrder 146 .iload_n .iload 4 148 := Or.inr ⟨o_21 4 (oW (K := 128) (r := 18) wi_m_goesToNextOrder_128 (by decide +kernel)), rfl⟩
theorem dm_goesToNextOrder_148 : dn tm_goesToNextOrder 148 (.iconst 1) 1 149 := ⟨o_4 (oW (K := 128) (r := 20) wi_m_goesToNextOrder_128 (by decide +kernel)), rfl⟩
theorem dm_goesToNextOrder_149 : dn tm_goesToNextOrder 149 (.isub) 1 150 := ⟨o_100 (oW (K := 128) (r := 21) wi_m_goesToNextOrder_128 (by decide +kernel)), rfl⟩
theorem dm_goesToNextOrder_150 : dl tm_goesToNextOrder 150 .istore_n .istore 4 152 := Or.inr ⟨o_54 4 (oW (K := 128) (r := 22) wi_m_goesToNextOrder_128 (by decide +kernel)), rfl⟩
theorem dm_goesToNextOrder_152 : dn tm_goesToNextOrder 152 (.iinc 5 1) 3 155 := ⟨o_132 5 1 1 (oWd (K := 128) (r := 24) wi_m_goesToNextOrder_128 (by decide +kernel)), rfl⟩
theorem dm_goesToNextOrder_155 : db tm_goesToNextOrder 155 .goto 109 158 := ⟨-46, o_167 255 210 (-46) (oWd (K := 128) (r := 27) wi_m_goesToNextOrder_128 (by decide +kernel)), rfl, rfl⟩
theorem dm_goesToNextOrder_158 : dn tm_goesToNextOrder 158 (.iconst 1) 1 159 := ⟨o_4 (oW (K := 128) (r := 30) wi_m_goesToNextOrder_128 (by decide +kernel)), rfl⟩
theorem dm_goesToNextOrder_159 : dn tm_goesToNextOrder 159 (.ireturn) 1 160 := ⟨o_172 (oW (K := 128) (r := 31) wi_m_goesToNextOrder_128 (by decide +kernel)), rfl⟩
def wl_m_doneBy_0 : List Nat := [3, 60, 3, 61, 3, 62, 29, 42, 180, 1, 228, 162, 0, 42, 27, 42, 180, 0, 110, 42, 180, 0, 116, 29, 46, 46, 96, 60, 42, 27, 28, 182, 1, 129, 42, 180, 0, 113]
theorem wi_m_doneBy_0 : oC tm_doneBy.2.1 0 wl_m_doneBy_0 = true := by decide +kernel
theorem dm_doneBy_0 : dn tm_doneBy 0 (.iconst 0) 1 1 := ⟨o_3 (oW (K := 0) (r := 0) wi_m_doneBy_0 (by decide +kernel)), rfl⟩
theorem dm_doneBy_1 : dl tm_doneBy 1 .istore_n .istore 1 2 := Or.inl ⟨1, o_60 (oW (K := 0) (r := 1) wi_m_doneBy_0 (by decide +kernel)), rfl, rfl⟩
theorem dm_doneBy_2 : dn tm_doneBy 2 (.iconst 0) 1 3 := ⟨o_3 (oW (K := 0) (r := 2) wi_m_doneBy_0 (by decide +kernel)), rfl⟩
theorem dm_doneBy_3 : dl tm_doneBy 3 .istore_n .istore 2 4 := Or.inl ⟨2, o_61 (oW (K := 0) (r := 3) wi_m_doneBy_0 (by decide +kernel)), rfl, rfl⟩
theorem dm_doneBy_4 : dn tm_doneBy 4 (.iconst 0) 1 5 := ⟨o_3 (oW (K := 0) (r := 4) wi_m_doneBy_0 (by decide +kernel)), rfl⟩
theorem dm_doneBy_5 : dl tm_doneBy 5 .istore_n .istore 3 6 := Or.inl ⟨3, o_62 (oW (K := 0) (r := 5) wi_m_doneBy_0 (by decide +kernel)), rfl, rfl⟩
theorem dm_doneBy_6 : dl tm_doneBy 6 .iload_n .iload 3 7 := Or.inl ⟨3, o_29 (oW (K := 0) (r := 6) wi_m_doneBy_0 (by decide +kernel)), rfl, rfl⟩
theorem dm_doneBy_7 : dl tm_doneBy 7 .aload_n .aload 0 8 := Or.inl ⟨0, o_42 (oW (K := 0) (r := 7) wi_m_doneBy_0 (by decide +kernel)), rfl, rfl⟩
theorem dm_doneBy_8 : dn tm_doneBy 8 (.getfield 484) 3 11 := ⟨o_180 1 228 484 (oWd (K := 0) (r := 8) wi_m_doneBy_0 (by decide +kernel)), rfl⟩
theorem dm_doneBy_11 : db tm_doneBy 11 (.if_icmp .ge) 53 14 := ⟨42, o_162 0 42 42 (oWd (K := 0) (r := 11) wi_m_doneBy_0 (by decide +kernel)), rfl, rfl⟩
theorem dm_doneBy_14 : dl tm_doneBy 14 .iload_n .iload 1 15 := Or.inl ⟨1, o_27 (oW (K := 0) (r := 14) wi_m_doneBy_0 (by decide +kernel)), rfl, rfl⟩
theorem dm_doneBy_15 : dl tm_doneBy 15 .aload_n .aload 0 16 := Or.inl ⟨0, o_42 (oW (K := 0) (r := 15) wi_m_doneBy_0 (by decide +kernel)), rfl, rfl⟩
theorem dm_doneBy_16 : dn tm_doneBy 16 (.getfield 110) 3 19 := ⟨o_180 0 110 110 (oWd (K := 0) (r := 16) wi_m_doneBy_0 (by decide +kernel)), rfl⟩
theorem dm_doneBy_19 : dl tm_doneBy 19 .aload_n .aload 0 20 := Or.inl ⟨0, o_42 (oW (K := 0) (r := 19) wi_m_doneBy_0 (by decide +kernel)), rfl, rfl⟩
theorem dm_doneBy_20 : dn tm_doneBy 20 (.getfield 116) 3 23 := ⟨o_180 0 116 116 (oWd (K := 0) (r := 20) wi_m_doneBy_0 (by decide +kernel)), rfl⟩
theorem dm_doneBy_23 : dl tm_doneBy 23 .iload_n .iload 3 24 := Or.inl ⟨3, o_29 (oW (K := 0) (r := 23) wi_m_doneBy_0 (by decide +kernel)), rfl, rfl⟩
theorem dm_doneBy_24 : dn tm_doneBy 24 (.iaload) 1 25 := ⟨o_46 (oW (K := 0) (r := 24) wi_m_doneBy_0 (by decide +kernel)), rfl⟩
theorem dm_doneBy_25 : dn tm_doneBy 25 (.iaload) 1 26 := ⟨o_46 (oW (K := 0) (r := 25) wi_m_doneBy_0 (by decide +kernel)), rfl⟩
theorem dm_doneBy_26 : dn tm_doneBy 26 (.iadd) 1 27 := ⟨o_96 (oW (K := 0) (r := 26) wi_m_doneBy_0 (by decide +kernel)), rfl⟩
theorem dm_doneBy_27 : dl tm_doneBy 27 .istore_n .istore 1 28 := Or.inl ⟨1, o_60 (oW (K := 0) (r := 27) wi_m_doneBy_0 (by decide +kernel)), rfl, rfl⟩
theorem dm_doneBy_28 : dl tm_doneBy 28 .aload_n .aload 0 29 := Or.inl ⟨0, o_42 (oW (K := 0) (r := 28) wi_m_doneBy_0 (by decide +kernel)), rfl, rfl⟩
theorem dm_doneBy_29 : dl tm_doneBy 29 .iload_n .iload 1 30 := Or.inl ⟨1, o_27 (oW (K := 0) (r := 29) wi_m_doneBy_0 (by decide +kernel)), rfl, rfl⟩
theorem dm_doneBy_30 : dl tm_doneBy 30 .iload_n .iload 2 31 := Or.inl ⟨2, o_28 (oW (K := 0) (r := 30) wi_m_doneBy_0 (by decide +kernel)), rfl, rfl⟩
theorem dm_doneBy_31 : dn tm_doneBy 31 (.invokevirtual 385) 3 34 := ⟨o_182 1 129 385 (oWd (K := 0) (r := 31) wi_m_doneBy_0 (by decide +kernel)), rfl⟩
def wl_m_doneBy_32 : List Nat := [1, 129, 42, 180, 0, 113, 42, 180, 0, 116, 29, 46, 46, 96, 61, 132, 3, 1, 167, 255, 212, 28, 172]
theorem wi_m_doneBy_32 : oC tm_doneBy.2.1 32 wl_m_doneBy_32 = true := by decide +kernel
theorem dm_doneBy_34 : dl tm_doneBy 34 .aload_n .aload 0 35 := Or.inl ⟨0, o_42 (oW (K := 32) (r := 2) wi_m_doneBy_32 (by decide +kernel)), rfl, rfl⟩
theorem dm_doneBy_35 : dn tm_doneBy 35 (.getfield 113) 3 38 := ⟨o_180 0 113 113 (oWd (K := 32) (r := 3) wi_m_doneBy_32 (by decide +kernel)), rfl⟩
theorem dm_doneBy_38 : dl tm_doneBy 38 .aload_n .aload 0 39 := Or.inl ⟨0, o_42 (oW (K := 32) (r := 6) wi_m_doneBy_32 (by decide +kernel)), rfl, rfl⟩
theorem dm_doneBy_39 : dn tm_doneBy 39 (.getfield 116) 3 42 := ⟨o_180 0 116 116 (oWd (K := 32) (r := 7) wi_m_doneBy_32 (by decide +kernel)), rfl⟩
theorem dm_doneBy_42 : dl tm_doneBy 42 .iload_n .iload 3 43 := Or.inl ⟨3, o_29 (oW (K := 32) (r := 10) wi_m_doneBy_32 (by decide +kernel)), rfl, rfl⟩
theorem dm_doneBy_43 : dn tm_doneBy 43 (.iaload) 1 44 := ⟨o_46 (oW (K := 32) (r := 11) wi_m_doneBy_32 (by decide +kernel)), rfl⟩
theorem dm_doneBy_44 : dn tm_doneBy 44 (.iaload) 1 45 := ⟨o_46 (oW (K := 32) (r := 12) wi_m_doneBy_32 (by decide +kernel)), rfl⟩
theorem dm_doneBy_45 : dn tm_doneBy 45 (.iadd) 1 46 := ⟨o_96 (oW (K := 32) (r := 13) wi_m_doneBy_32 (by decide +kernel)), rfl⟩
theorem dm_doneBy_46 : dl tm_doneBy 46 .istore_n .istore 2 47 := Or.inl ⟨2, o_61 (oW (K := 32) (r := 14) wi_m_doneBy_32 (by decide +kernel)), rfl, rfl⟩
theorem dm_doneBy_47 : dn tm_doneBy 47 (.iinc 3 1) 3 50 := ⟨o_132 3 1 1 (oWd (K := 32) (r := 15) wi_m_doneBy_32 (by decide +kernel)), rfl⟩
theorem dm_doneBy_50 : db tm_doneBy 50 .goto 6 53 := ⟨-44, o_167 255 212 (-44) (oWd (K := 32) (r := 18) wi_m_doneBy_32 (by decide +kernel)), rfl, rfl⟩
theorem dm_doneBy_53 : dl tm_doneBy 53 .iload_n .iload 2 54 := Or.inl ⟨2, o_28 (oW (K := 32) (r := 21) wi_m_doneBy_32 (by decide +kernel)), rfl, rfl⟩
theorem dm_doneBy_54 : dn tm_doneBy 54 (.ireturn) 1 55 := ⟨o_172 (oW (K := 32) (r := 22) wi_m_doneBy_32 (by decide +kernel)), rfl⟩
def wl_m_ovens_0 : List Nat := [42, 3, 181, 0, 146, 27, 153, 0, 22, 42, 27, 16, 10, 16, 9, 42, 180, 1, 228, 96, 182, 0, 177, 154, 0, 5, 2, 172, 3, 61, 28, 42, 180, 1, 228, 162, 0, 16]
theorem wi_m_ovens_0 : oC tm_ovens.2.1 0 wl_m_ovens_0 = true := by decide +kernel
theorem dm_ovens_0 : dl tm_ovens 0 .aload_n .aload 0 1 := Or.inl ⟨0, o_42 (oW (K := 0) (r := 0) wi_m_ovens_0 (by decide +kernel)), rfl, rfl⟩
theorem dm_ovens_1 : dn tm_ovens 1 (.iconst 0) 1 2 := ⟨o_3 (oW (K := 0) (r := 1) wi_m_ovens_0 (by decide +kernel)), rfl⟩
theorem dm_ovens_2 : dn tm_ovens 2 (.putfield 146) 3 5 := ⟨o_181 0 146 146 (oWd (K := 0) (r := 2) wi_m_ovens_0 (by decide +kernel)), rfl⟩
theorem dm_ovens_5 : dl tm_ovens 5 .iload_n .iload 1 6 := Or.inl ⟨1, o_27 (oW (K := 0) (r := 5) wi_m_ovens_0 (by decide +kernel)), rfl, rfl⟩
theorem dm_ovens_6 : db tm_ovens 6 (.ifCond .eq) 28 9 := ⟨22, o_153 0 22 22 (oWd (K := 0) (r := 6) wi_m_ovens_0 (by decide +kernel)), rfl, rfl⟩
theorem dm_ovens_9 : dl tm_ovens 9 .aload_n .aload 0 10 := Or.inl ⟨0, o_42 (oW (K := 0) (r := 9) wi_m_ovens_0 (by decide +kernel)), rfl, rfl⟩
theorem dm_ovens_10 : dl tm_ovens 10 .iload_n .iload 1 11 := Or.inl ⟨1, o_27 (oW (K := 0) (r := 10) wi_m_ovens_0 (by decide +kernel)), rfl, rfl⟩
theorem dm_ovens_11 : dn tm_ovens 11 (.bipush 10) 2 13 := ⟨o_16 10 10 (oWd (K := 0) (r := 11) wi_m_ovens_0 (by decide +kernel)), rfl⟩
theorem dm_ovens_13 : dn tm_ovens 13 (.bipush 9) 2 15 := ⟨o_16 9 9 (oWd (K := 0) (r := 13) wi_m_ovens_0 (by decide +kernel)), rfl⟩
theorem dm_ovens_15 : dl tm_ovens 15 .aload_n .aload 0 16 := Or.inl ⟨0, o_42 (oW (K := 0) (r := 15) wi_m_ovens_0 (by decide +kernel)), rfl, rfl⟩
theorem dm_ovens_16 : dn tm_ovens 16 (.getfield 484) 3 19 := ⟨o_180 1 228 484 (oWd (K := 0) (r := 16) wi_m_ovens_0 (by decide +kernel)), rfl⟩
theorem dm_ovens_19 : dn tm_ovens 19 (.iadd) 1 20 := ⟨o_96 (oW (K := 0) (r := 19) wi_m_ovens_0 (by decide +kernel)), rfl⟩
theorem dm_ovens_20 : dn tm_ovens 20 (.invokevirtual 177) 3 23 := ⟨o_182 0 177 177 (oWd (K := 0) (r := 20) wi_m_ovens_0 (by decide +kernel)), rfl⟩
theorem dm_ovens_23 : db tm_ovens 23 (.ifCond .ne) 28 26 := ⟨5, o_154 0 5 5 (oWd (K := 0) (r := 23) wi_m_ovens_0 (by decide +kernel)), rfl, rfl⟩
theorem dm_ovens_26 : dn tm_ovens 26 (.iconst (-1)) 1 27 := ⟨o_2 (oW (K := 0) (r := 26) wi_m_ovens_0 (by decide +kernel)), rfl⟩
theorem dm_ovens_27 : dn tm_ovens 27 (.ireturn) 1 28 := ⟨o_172 (oW (K := 0) (r := 27) wi_m_ovens_0 (by decide +kernel)), rfl⟩
theorem dm_ovens_28 : dn tm_ovens 28 (.iconst 0) 1 29 := ⟨o_3 (oW (K := 0) (r := 28) wi_m_ovens_0 (by decide +kernel)), rfl⟩
theorem dm_ovens_29 : dl tm_ovens 29 .istore_n .istore 2 30 := Or.inl ⟨2, o_61 (oW (K := 0) (r := 29) wi_m_ovens_0 (by decide +kernel)), rfl, rfl⟩
theorem dm_ovens_30 : dl tm_ovens 30 .iload_n .iload 2 31 := Or.inl ⟨2, o_28 (oW (K := 0) (r := 30) wi_m_ovens_0 (by decide +kernel)), rfl, rfl⟩
theorem dm_ovens_31 : dl tm_ovens 31 .aload_n .aload 0 32 := Or.inl ⟨0, o_42 (oW (K := 0) (r := 31) wi_m_ovens_0 (by decide +kernel)), rfl, rfl⟩
def wl_m_ovens_32 : List Nat := [180, 1, 228, 162, 0, 16, 42, 180, 0, 116, 28, 28, 79, 132, 2, 1, 167, 255, 238, 19, 1, 180, 61, 4, 62, 29, 153, 0, 63, 42, 182, 1, 231, 54, 4, 3, 54, 5]
theorem wi_m_ovens_32 : oC tm_ovens.2.1 32 wl_m_ovens_32 = true := by decide +kernel
theorem dm_ovens_32 : dn tm_ovens 32 (.getfield 484) 3 35 := ⟨o_180 1 228 484 (oWd (K := 32) (r := 0) wi_m_ovens_32 (by decide +kernel)), rfl⟩
theorem dm_ovens_35 : db tm_ovens 35 (.if_icmp .ge) 51 38 := ⟨16, o_162 0 16 16 (oWd (K := 32) (r := 3) wi_m_ovens_32 (by decide +kernel)), rfl, rfl⟩
theorem dm_ovens_38 : dl tm_ovens 38 .aload_n .aload 0 39 := Or.inl ⟨0, o_42 (oW (K := 32) (r := 6) wi_m_ovens_32 (by decide +kernel)), rfl, rfl⟩
theorem dm_ovens_39 : dn tm_ovens 39 (.getfield 116) 3 42 := ⟨o_180 0 116 116 (oWd (K := 32) (r := 7) wi_m_ovens_32 (by decide +kernel)), rfl⟩
theorem dm_ovens_42 : dl tm_ovens 42 .iload_n .iload 2 43 := Or.inl ⟨2, o_28 (oW (K := 32) (r := 10) wi_m_ovens_32 (by decide +kernel)), rfl, rfl⟩
theorem dm_ovens_43 : dl tm_ovens 43 .iload_n .iload 2 44 := Or.inl ⟨2, o_28 (oW (K := 32) (r := 11) wi_m_ovens_32 (by decide +kernel)), rfl, rfl⟩
theorem dm_ovens_44 : dn tm_ovens 44 (.iastore) 1 45 := ⟨o_79 (oW (K := 32) (r := 12) wi_m_ovens_32 (by decide +kernel)), rfl⟩
theorem dm_ovens_45 : dn tm_ovens 45 (.iinc 2 1) 3 48 := ⟨o_132 2 1 1 (oWd (K := 32) (r := 13) wi_m_ovens_32 (by decide +kernel)), rfl⟩
theorem dm_ovens_48 : db tm_ovens 48 .goto 30 51 := ⟨-18, o_167 255 238 (-18) (oWd (K := 32) (r := 16) wi_m_ovens_32 (by decide +kernel)), rfl, rfl⟩
theorem dm_ovens_51 : dn tm_ovens 51 (.ldc_w 436) 3 54 := ⟨o_19 1 180 436 (oWd (K := 32) (r := 19) wi_m_ovens_32 (by decide +kernel)), rfl⟩
theorem dm_ovens_54 : dl tm_ovens 54 .istore_n .istore 2 55 := Or.inl ⟨2, o_61 (oW (K := 32) (r := 22) wi_m_ovens_32 (by decide +kernel)), rfl, rfl⟩
theorem dm_ovens_55 : dn tm_ovens 55 (.iconst 1) 1 56 := ⟨o_4 (oW (K := 32) (r := 23) wi_m_ovens_32 (by decide +kernel)), rfl⟩
theorem dm_ovens_56 : dl tm_ovens 56 .istore_n .istore 3 57 := Or.inl ⟨3, o_62 (oW (K := 32) (r := 24) wi_m_ovens_32 (by decide +kernel)), rfl, rfl⟩
theorem dm_ovens_57 : dl tm_ovens 57 .iload_n .iload 3 58 := Or.inl ⟨3, o_29 (oW (K := 32) (r := 25) wi_m_ovens_32 (by decide +kernel)), rfl, rfl⟩
theorem dm_ovens_58 : db tm_ovens 58 (.ifCond .eq) 121 61 := ⟨63, o_153 0 63 63 (oWd (K := 32) (r := 26) wi_m_ovens_32 (by decide +kernel)), rfl, rfl⟩
theorem dm_ovens_61 : dl tm_ovens 61 .aload_n .aload 0 62 := Or.inl ⟨0, o_42 (oW (K := 32) (r := 29) wi_m_ovens_32 (by decide +kernel)), rfl, rfl⟩
theorem dm_ovens_62 : dn tm_ovens 62 (.invokevirtual 487) 3 65 := ⟨o_182 1 231 487 (oWd (K := 32) (r := 30) wi_m_ovens_32 (by decide +kernel)), rfl⟩
def wl_m_ovens_64 : List Nat := [231, 54, 4, 3, 54, 5, 21, 5, 42, 180, 1, 228, 162, 0, 29, 21, 4, 28, 162, 0, 23, 42, 180, 0, 119, 21, 5, 42, 180, 0, 116, 21, 5, 46, 79, 132, 5, 1]
theorem wi_m_ovens_64 : oC tm_ovens.2.1 64 wl_m_ovens_64 = true := by decide +kernel
theorem dm_ovens_65 : dl tm_ovens 65 .istore_n .istore 4 67 := Or.inr ⟨o_54 4 (oW (K := 64) (r := 1) wi_m_ovens_64 (by decide +kernel)), rfl⟩
theorem dm_ovens_67 : dn tm_ovens 67 (.iconst 0) 1 68 := ⟨o_3 (oW (K := 64) (r := 3) wi_m_ovens_64 (by decide +kernel)), rfl⟩
theorem dm_ovens_68 : dl tm_ovens 68 .istore_n .istore 5 70 := Or.inr ⟨o_54 5 (oW (K := 64) (r := 4) wi_m_ovens_64 (by decide +kernel)), rfl⟩
theorem dm_ovens_70 : dl tm_ovens 70 .iload_n .iload 5 72 := Or.inr ⟨o_21 5 (oW (K := 64) (r := 6) wi_m_ovens_64 (by decide +kernel)), rfl⟩
theorem dm_ovens_72 : dl tm_ovens 72 .aload_n .aload 0 73 := Or.inl ⟨0, o_42 (oW (K := 64) (r := 8) wi_m_ovens_64 (by decide +kernel)), rfl, rfl⟩
theorem dm_ovens_73 : dn tm_ovens 73 (.getfield 484) 3 76 := ⟨o_180 1 228 484 (oWd (K := 64) (r := 9) wi_m_ovens_64 (by decide +kernel)), rfl⟩
theorem dm_ovens_76 : db tm_ovens 76 (.if_icmp .ge) 105 79 := ⟨29, o_162 0 29 29 (oWd (K := 64) (r := 12) wi_m_ovens_64 (by decide +kernel)), rfl, rfl⟩
theorem dm_ovens_79 : dl tm_ovens 79 .iload_n .iload 4 81 := Or.inr ⟨o_21 4 (oW (K := 64) (r := 15) wi_m_ovens_64 (by decide +kernel)), rfl⟩
theorem dm_ovens_81 : dl tm_ovens 81 .iload_n .iload 2 82 := Or.inl ⟨2, o_28 (oW (K := 64) (r := 17) wi_m_ovens_64 (by decide +kernel)), rfl, rfl⟩
theorem dm_ovens_82 : db tm_ovens 82 (.if_icmp .ge) 105 85 := ⟨23, o_162 0 23 23 (oWd (K := 64) (r := 18) wi_m_ovens_64 (by decide +kernel)), rfl, rfl⟩
theorem dm_ovens_85 : dl tm_ovens 85 .aload_n .aload 0 86 := Or.inl ⟨0, o_42 (oW (K := 64) (r := 21) wi_m_ovens_64 (by decide +kernel)), rfl, rfl⟩
theorem dm_ovens_86 : dn tm_ovens 86 (.getfield 119) 3 89 := ⟨o_180 0 119 119 (oWd (K := 64) (r := 22) wi_m_ovens_64 (by decide +kernel)), rfl⟩
theorem dm_ovens_89 : dl tm_ovens 89 .iload_n .iload 5 91 := Or.inr ⟨o_21 5 (oW (K := 64) (r := 25) wi_m_ovens_64 (by decide +kernel)), rfl⟩
theorem dm_ovens_91 : dl tm_ovens 91 .aload_n .aload 0 92 := Or.inl ⟨0, o_42 (oW (K := 64) (r := 27) wi_m_ovens_64 (by decide +kernel)), rfl, rfl⟩
theorem dm_ovens_92 : dn tm_ovens 92 (.getfield 116) 3 95 := ⟨o_180 0 116 116 (oWd (K := 64) (r := 28) wi_m_ovens_64 (by decide +kernel)), rfl⟩
theorem dm_ovens_95 : dl tm_ovens 95 .iload_n .iload 5 97 := Or.inr ⟨o_21 5 (oW (K := 64) (r := 31) wi_m_ovens_64 (by decide +kernel)), rfl⟩
def wl_m_ovens_96 : List Nat := [5, 46, 79, 132, 5, 1, 167, 255, 224, 42, 28, 21, 4, 182, 1, 144, 61, 42, 182, 1, 234, 62, 167, 255, 195, 27, 154, 0, 7, 28, 167, 0, 12, 42, 180, 0, 119, 27]
theorem wi_m_ovens_96 : oC tm_ovens.2.1 96 wl_m_ovens_96 = true := by decide +kernel
theorem dm_ovens_97 : dn tm_ovens 97 (.iaload) 1 98 := ⟨o_46 (oW (K := 96) (r := 1) wi_m_ovens_96 (by decide +kernel)), rfl⟩
theorem dm_ovens_98 : dn tm_ovens 98 (.iastore) 1 99 := ⟨o_79 (oW (K := 96) (r := 2) wi_m_ovens_96 (by decide +kernel)), rfl⟩
theorem dm_ovens_99 : dn tm_ovens 99 (.iinc 5 1) 3 102 := ⟨o_132 5 1 1 (oWd (K := 96) (r := 3) wi_m_ovens_96 (by decide +kernel)), rfl⟩
theorem dm_ovens_102 : db tm_ovens 102 .goto 70 105 := ⟨-32, o_167 255 224 (-32) (oWd (K := 96) (r := 6) wi_m_ovens_96 (by decide +kernel)), rfl, rfl⟩
