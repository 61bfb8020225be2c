def wl_m_emits_0 : List Nat := [42, 180, 0, 49, 17, 3, 32, 42, 180, 0, 231, 96, 27, 79, 42, 180, 0, 52, 17, 3, 32, 42, 180, 0, 231, 96, 28, 79, 42, 42, 180, 0, 231, 4, 96, 181, 0, 231]
theorem wi_m_emits_0 : oC tm_emits.2.1 0 wl_m_emits_0 = true := by decide +kernel
theorem dm_emits_7 : dl tm_emits 7 .aload_n .aload 0 8 := Or.inl ⟨0, o_42 (oW (K := 0) (r := 7) wi_m_emits_0 (by decide +kernel)), rfl, rfl⟩
theorem dm_emits_8 : dn tm_emits 8 (.getfield 231) 3 11 := ⟨o_180 0 231 231 (oWd (K := 0) (r := 8) wi_m_emits_0 (by decide +kernel)), rfl⟩
theorem dm_emits_11 : dn tm_emits 11 (.iadd) 1 12 := ⟨o_96 (oW (K := 0) (r := 11) wi_m_emits_0 (by decide +kernel)), rfl⟩
theorem dm_emits_12 : dl tm_emits 12 .iload_n .iload 1 13 := Or.inl ⟨1, o_27 (oW (K := 0) (r := 12) wi_m_emits_0 (by decide +kernel)), rfl, rfl⟩
theorem dm_emits_13 : dn tm_emits 13 (.iastore) 1 14 := ⟨o_79 (oW (K := 0) (r := 13) wi_m_emits_0 (by decide +kernel)), rfl⟩
theorem dm_emits_14 : dl tm_emits 14 .aload_n .aload 0 15 := Or.inl ⟨0, o_42 (oW (K := 0) (r := 14) wi_m_emits_0 (by decide +kernel)), rfl, rfl⟩
theorem dm_emits_15 : dn tm_emits 15 (.getfield 52) 3 18 := ⟨o_180 0 52 52 (oWd (K := 0) (r := 15) wi_m_emits_0 (by decide +kernel)), rfl⟩
theorem dm_emits_18 : dn tm_emits 18 (.sipush 800) 3 21 := ⟨o_17 3 32 800 (oWd (K := 0) (r := 18) wi_m_emits_0 (by decide +kernel)), rfl⟩
theorem dm_emits_21 : dl tm_emits 21 .aload_n .aload 0 22 := Or.inl ⟨0, o_42 (oW (K := 0) (r := 21) wi_m_emits_0 (by decide +kernel)), rfl, rfl⟩
theorem dm_emits_22 : dn tm_emits 22 (.getfield 231) 3 25 := ⟨o_180 0 231 231 (oWd (K := 0) (r := 22) wi_m_emits_0 (by decide +kernel)), rfl⟩
theorem dm_emits_25 : dn tm_emits 25 (.iadd) 1 26 := ⟨o_96 (oW (K := 0) (r := 25) wi_m_emits_0 (by decide +kernel)), rfl⟩
theorem dm_emits_26 : dl tm_emits 26 .iload_n .iload 2 27 := Or.inl ⟨2, o_28 (oW (K := 0) (r := 26) wi_m_emits_0 (by decide +kernel)), rfl, rfl⟩
theorem dm_emits_27 : dn tm_emits 27 (.iastore) 1 28 := ⟨o_79 (oW (K := 0) (r := 27) wi_m_emits_0 (by decide +kernel)), rfl⟩
theorem dm_emits_28 : dl tm_emits 28 .aload_n .aload 0 29 := Or.inl ⟨0, o_42 (oW (K := 0) (r := 28) wi_m_emits_0 (by decide +kernel)), rfl, rfl⟩
theorem dm_emits_29 : dl tm_emits 29 .aload_n .aload 0 30 := Or.inl ⟨0, o_42 (oW (K := 0) (r := 29) wi_m_emits_0 (by decide +kernel)), rfl, rfl⟩
theorem dm_emits_30 : dn tm_emits 30 (.getfield 231) 3 33 := ⟨o_180 0 231 231 (oWd (K := 0) (r := 30) wi_m_emits_0 (by decide +kernel)), rfl⟩
def wl_m_emits_32 : List Nat := [231, 4, 96, 181, 0, 231, 177]
theorem wi_m_emits_32 : oC tm_emits.2.1 32 wl_m_emits_32 = true := by decide +kernel
theorem dm_emits_33 : dn tm_emits 33 (.iconst 1) 1 34 := ⟨o_4 (oW (K := 32) (r := 1) wi_m_emits_32 (by decide +kernel)), rfl⟩
theorem dm_emits_34 : dn tm_emits 34 (.iadd) 1 35 := ⟨o_96 (oW (K := 32) (r := 2) wi_m_emits_32 (by decide +kernel)), rfl⟩
theorem dm_emits_35 : dn tm_emits 35 (.putfield 231) 3 38 := ⟨o_181 0 231 231 (oWd (K := 32) (r := 3) wi_m_emits_32 (by decide +kernel)), rfl⟩
theorem dm_emits_38 : dn tm_emits 38 (.return_) 1 39 := ⟨o_177 (oW (K := 32) (r := 6) wi_m_emits_32 (by decide +kernel)), rfl⟩
def wl_m_canAsk_0 : List Nat := [42, 27, 16, 7, 16, 18, 182, 0, 177, 172]
theorem wi_m_canAsk_0 : oC tm_canAsk.2.1 0 wl_m_canAsk_0 = true := by decide +kernel
theorem dm_canAsk_0 : dl tm_canAsk 0 .aload_n .aload 0 1 := Or.inl ⟨0, o_42 (oW (K := 0) (r := 0) wi_m_canAsk_0 (by decide +kernel)), rfl, rfl⟩
theorem dm_canAsk_1 : dl tm_canAsk 1 .iload_n .iload 1 2 := Or.inl ⟨1, o_27 (oW (K := 0) (r := 1) wi_m_canAsk_0 (by decide +kernel)), rfl, rfl⟩
theorem dm_canAsk_2 : dn tm_canAsk 2 (.bipush 7) 2 4 := ⟨o_16 7 7 (oWd (K := 0) (r := 2) wi_m_canAsk_0 (by decide +kernel)), rfl⟩
theorem dm_canAsk_4 : dn tm_canAsk 4 (.bipush 18) 2 6 := ⟨o_16 18 18 (oWd (K := 0) (r := 4) wi_m_canAsk_0 (by decide +kernel)), rfl⟩
theorem dm_canAsk_6 : dn tm_canAsk 6 (.invokevirtual 177) 3 9 := ⟨o_182 0 177 177 (oWd (K := 0) (r := 6) wi_m_canAsk_0 (by decide +kernel)), rfl⟩
theorem dm_canAsk_9 : dn tm_canAsk 9 (.ireturn) 1 10 := ⟨o_172 (oW (K := 0) (r := 9) wi_m_canAsk_0 (by decide +kernel)), rfl⟩
def wl_m_readUnit_0 : List Nat := [42, 180, 0, 207, 5, 160, 0, 18, 42, 42, 180, 0, 210, 182, 0, 234, 153, 0, 7, 4, 167, 0, 4, 3, 60, 27, 154, 0, 17, 42, 180, 0, 207, 6, 159, 0, 9, 42]
theorem wi_m_readUnit_0 : oC tm_readUnit.2.1 0 wl_m_readUnit_0 = true := by decide +kernel
theorem dm_readUnit_0 : dl tm_readUnit 0 .aload_n .aload 0 1 := Or.inl ⟨0, o_42 (oW (K := 0) (r := 0) wi_m_readUnit_0 (by decide +kernel)), rfl, rfl⟩
theorem dm_readUnit_1 : dn tm_readUnit 1 (.getfield 207) 3 4 := ⟨o_180 0 207 207 (oWd (K := 0) (r := 1) wi_m_readUnit_0 (by decide +kernel)), rfl⟩
theorem dm_readUnit_4 : dn tm_readUnit 4 (.iconst 2) 1 5 := ⟨o_5 (oW (K := 0) (r := 4) wi_m_readUnit_0 (by decide +kernel)), rfl⟩
theorem dm_readUnit_5 : db tm_readUnit 5 (.if_icmp .ne) 23 8 := ⟨18, o_160 0 18 18 (oWd (K := 0) (r := 5) wi_m_readUnit_0 (by decide +kernel)), rfl, rfl⟩
theorem dm_readUnit_8 : dl tm_readUnit 8 .aload_n .aload 0 9 := Or.inl ⟨0, o_42 (oW (K := 0) (r := 8) wi_m_readUnit_0 (by decide +kernel)), rfl, rfl⟩
theorem dm_readUnit_9 : dl tm_readUnit 9 .aload_n .aload 0 10 := Or.inl ⟨0, o_42 (oW (K := 0) (r := 9) wi_m_readUnit_0 (by decide +kernel)), rfl, rfl⟩
theorem dm_readUnit_10 : dn tm_readUnit 10 (.getfield 210) 3 13 := ⟨o_180 0 210 210 (oWd (K := 0) (r := 10) wi_m_readUnit_0 (by decide +kernel)), rfl⟩
theorem dm_readUnit_13 : dn tm_readUnit 13 (.invokevirtual 234) 3 16 := ⟨o_182 0 234 234 (oWd (K := 0) (r := 13) wi_m_readUnit_0 (by decide +kernel)), rfl⟩
theorem dm_readUnit_16 : db tm_readUnit 16 (.ifCond .eq) 23 19 := ⟨7, o_153 0 7 7 (oWd (K := 0) (r := 16) wi_m_readUnit_0 (by decide +kernel)), rfl, rfl⟩
theorem dm_readUnit_19 : dn tm_readUnit 19 (.iconst 1) 1 20 := ⟨o_4 (oW (K := 0) (r := 19) wi_m_readUnit_0 (by decide +kernel)), rfl⟩
theorem dm_readUnit_20 : db tm_readUnit 20 .goto 24 23 := ⟨4, o_167 0 4 4 (oWd (K := 0) (r := 20) wi_m_readUnit_0 (by decide +kernel)), rfl, rfl⟩
theorem dm_readUnit_23 : dn tm_readUnit 23 (.iconst 0) 1 24 := ⟨o_3 (oW (K := 0) (r := 23) wi_m_readUnit_0 (by decide +kernel)), rfl⟩
theorem dm_readUnit_24 : dl tm_readUnit 24 .istore_n .istore 1 25 := Or.inl ⟨1, o_60 (oW (K := 0) (r := 24) wi_m_readUnit_0 (by decide +kernel)), rfl, rfl⟩
theorem dm_readUnit_25 : dl tm_readUnit 25 .iload_n .iload 1 26 := Or.inl ⟨1, o_27 (oW (K := 0) (r := 25) wi_m_readUnit_0 (by decide +kernel)), rfl, rfl⟩
theorem dm_readUnit_26 : db tm_readUnit 26 (.ifCond .ne) 43 29 := ⟨17, o_154 0 17 17 (oWd (K := 0) (r := 26) wi_m_readUnit_0 (by decide +kernel)), rfl, rfl⟩
theorem dm_readUnit_29 : dl tm_readUnit 29 .aload_n .aload 0 30 := Or.inl ⟨0, o_42 (oW (K := 0) (r := 29) wi_m_readUnit_0 (by decide +kernel)), rfl, rfl⟩
theorem dm_readUnit_30 : dn tm_readUnit 30 (.getfield 207) 3 33 := ⟨o_180 0 207 207 (oWd (K := 0) (r := 30) wi_m_readUnit_0 (by decide +kernel)), rfl⟩
def wl_m_readUnit_32 : List Nat := [207, 6, 159, 0, 9, 42, 4, 182, 0, 237, 172, 42, 27, 153, 0, 7, 4, 167, 0, 4, 3, 27, 153, 0, 13, 42, 180, 0, 210, 16, 7, 100, 167, 0, 7, 42, 180, 0]
theorem wi_m_readUnit_32 : oC tm_readUnit.2.1 32 wl_m_readUnit_32 = true := by decide +kernel
theorem dm_readUnit_33 : dn tm_readUnit 33 (.iconst 3) 1 34 := ⟨o_6 (oW (K := 32) (r := 1) wi_m_readUnit_32 (by decide +kernel)), rfl⟩
theorem dm_readUnit_34 : db tm_readUnit 34 (.if_icmp .eq) 43 37 := ⟨9, o_159 0 9 9 (oWd (K := 32) (r := 2) wi_m_readUnit_32 (by decide +kernel)), rfl, rfl⟩
theorem dm_readUnit_37 : dl tm_readUnit 37 .aload_n .aload 0 38 := Or.inl ⟨0, o_42 (oW (K := 32) (r := 5) wi_m_readUnit_32 (by decide +kernel)), rfl, rfl⟩
theorem dm_readUnit_38 : dn tm_readUnit 38 (.iconst 1) 1 39 := ⟨o_4 (oW (K := 32) (r := 6) wi_m_readUnit_32 (by decide +kernel)), rfl⟩
theorem dm_readUnit_39 : dn tm_readUnit 39 (.invokevirtual 237) 3 42 := ⟨o_182 0 237 237 (oWd (K := 32) (r := 7) wi_m_readUnit_32 (by decide +kernel)), rfl⟩
theorem dm_readUnit_42 : dn tm_readUnit 42 (.ireturn) 1 43 := ⟨o_172 (oW (K := 32) (r := 10) wi_m_readUnit_32 (by decide +kernel)), rfl⟩
theorem dm_readUnit_43 : dl tm_readUnit 43 .aload_n .aload 0 44 := Or.inl ⟨0, o_42 (oW (K := 32) (r := 11) wi_m_readUnit_32 (by decide +kernel)), rfl, rfl⟩
theorem dm_readUnit_44 : dl tm_readUnit 44 .iload_n .iload 1 45 := Or.inl ⟨1, o_27 (oW (K := 32) (r := 12) wi_m_readUnit_32 (by decide +kernel)), rfl, rfl⟩
theorem dm_readUnit_45 : db tm_readUnit 45 (.ifCond .eq) 52 48 := ⟨7, o_153 0 7 7 (oWd (K := 32) (r := 13) wi_m_readUnit_32 (by decide +kernel)), rfl, rfl⟩
theorem dm_readUnit_48 : dn tm_readUnit 48 (.iconst 1) 1 49 := ⟨o_4 (oW (K := 32) (r := 16) wi_m_readUnit_32 (by decide +kernel)), rfl⟩
theorem dm_readUnit_49 : db tm_readUnit 49 .goto 53 52 := ⟨4, o_167 0 4 4 (oWd (K := 32) (r := 17) wi_m_readUnit_32 (by decide +kernel)), rfl, rfl⟩
theorem dm_readUnit_52 : dn tm_readUnit 52 (.iconst 0) 1 53 := ⟨o_3 (oW (K := 32) (r := 20) wi_m_readUnit_32 (by decide +kernel)), rfl⟩
theorem dm_readUnit_53 : dl tm_readUnit 53 .iload_n .iload 1 54 := Or.inl ⟨1, o_27 (oW (K := 32) (r := 21) wi_m_readUnit_32 (by decide +kernel)), rfl, rfl⟩
theorem dm_readUnit_54 : db tm_readUnit 54 (.ifCond .eq) 67 57 := ⟨13, o_153 0 13 13 (oWd (K := 32) (r := 22) wi_m_readUnit_32 (by decide +kernel)), rfl, rfl⟩
theorem dm_readUnit_57 : dl tm_readUnit 57 .aload_n .aload 0 58 := Or.inl ⟨0, o_42 (oW (K := 32) (r := 25) wi_m_readUnit_32 (by decide +kernel)), rfl, rfl⟩
theorem dm_readUnit_58 : dn tm_readUnit 58 (.getfield 210) 3 61 := ⟨o_180 0 210 210 (oWd (K := 32) (r := 26) wi_m_readUnit_32 (by decide +kernel)), rfl⟩
theorem dm_readUnit_61 : dn tm_readUnit 61 (.bipush 7) 2 63 := ⟨o_16 7 7 (oWd (K := 32) (r := 29) wi_m_readUnit_32 (by decide +kernel)), rfl⟩
theorem dm_readUnit_63 : dn tm_readUnit 63 (.isub) 1 64 := ⟨o_100 (oW (K := 32) (r := 31) wi_m_readUnit_32 (by decide +kernel)), rfl⟩
def wl_m_readUnit_64 : List Nat := [167, 0, 7, 42, 180, 0, 210, 182, 0, 240, 42, 182, 0, 244, 3, 172]
theorem wi_m_readUnit_64 : oC tm_readUnit.2.1 64 wl_m_readUnit_64 = true := by decide +kernel
theorem dm_readUnit_64 : db tm_readUnit 64 .goto 71 67 := ⟨7, o_167 0 7 7 (oWd (K := 64) (r := 0) wi_m_readUnit_64 (by decide +kernel)), rfl, rfl⟩
theorem dm_readUnit_67 : dl tm_readUnit 67 .aload_n .aload 0 68 := Or.inl ⟨0, o_42 (oW (K := 64) (r := 3) wi_m_readUnit_64 (by decide +kernel)), rfl, rfl⟩
theorem dm_readUnit_68 : dn tm_readUnit 68 (.getfield 210) 3 71 := ⟨o_180 0 210 210 (oWd (K := 64) (r := 4) wi_m_readUnit_64 (by decide +kernel)), rfl⟩
theorem dm_readUnit_71 : dn tm_readUnit 71 (.invokevirtual 240) 3 74 := ⟨o_182 0 240 240 (oWd (K := 64) (r := 7) wi_m_readUnit_64 (by decide +kernel)), rfl⟩
theorem dm_readUnit_74 : dl tm_readUnit 74 .aload_n .aload 0 75 := Or.inl ⟨0, o_42 (oW (K := 64) (r := 10) wi_m_readUnit_64 (by decide +kernel)), rfl, rfl⟩
theorem dm_readUnit_75 : dn tm_readUnit 75 (.invokevirtual 244) 3 78 := ⟨o_182 0 244 244 (oWd (K := 64) (r := 11) wi_m_readUnit_64 (by decide +kernel)), rfl⟩
theorem dm_readUnit_78 : dn tm_readUnit 78 (.iconst 0) 1 79 := ⟨o_3 (oW (K := 64) (r := 14) wi_m_readUnit_64 (by decide +kernel)), rfl⟩
theorem dm_readUnit_79 : dn tm_readUnit 79 (.ireturn) 1 80 := ⟨o_172 (oW (K := 64) (r := 15) wi_m_readUnit_64 (by decide +kernel)), rfl⟩
def wl_m_readProduct_0 : List Nat := [42, 182, 0, 247, 2, 160, 0, 5, 2, 172, 42, 16, 42, 182, 0, 251, 154, 0, 12, 42, 16, 47, 182, 0, 251, 153, 0, 76, 42, 16, 42, 182, 0, 251, 60, 42, 182, 0]
theorem wi_m_readProduct_0 : oC tm_readProduct.2.1 0 wl_m_readProduct_0 = true := by decide +kernel
theorem dm_readProduct_0 : dl tm_readProduct 0 .aload_n .aload 0 1 := Or.inl ⟨0, o_42 (oW (K := 0) (r := 0) wi_m_readProduct_0 (by decide +kernel)), rfl, rfl⟩
theorem dm_readProduct_1 : dn tm_readProduct 1 (.invokevirtual 247) 3 4 := ⟨o_182 0 247 247 (oWd (K := 0) (r := 1) wi_m_readProduct_0 (by decide +kernel)), rfl⟩
theorem dm_readProduct_4 : dn tm_readProduct 4 (.iconst (-1)) 1 5 := ⟨o_2 (oW (K := 0) (r := 4) wi_m_readProduct_0 (by decide +kernel)), rfl⟩
theorem dm_readProduct_5 : db tm_readProduct 5 (.if_icmp .ne) 10 8 := ⟨5, o_160 0 5 5 (oWd (K := 0) (r := 5) wi_m_readProduct_0 (by decide +kernel)), rfl, rfl⟩
theorem dm_readProduct_8 : dn tm_readProduct 8 (.iconst (-1)) 1 9 := ⟨o_2 (oW (K := 0) (r := 8) wi_m_readProduct_0 (by decide +kernel)), rfl⟩
theorem dm_readProduct_9 : dn tm_readProduct 9 (.ireturn) 1 10 := ⟨o_172 (oW (K := 0) (r := 9) wi_m_readProduct_0 (by decide +kernel)), rfl⟩
theorem dm_readProduct_10 : dl tm_readProduct 10 .aload_n .aload 0 11 := Or.inl ⟨0, o_42 (oW (K := 0) (r := 10) wi_m_readProduct_0 (by decide +kernel)), rfl, rfl⟩
theorem dm_readProduct_11 : dn tm_readProduct 11 (.bipush 42) 2 13 := ⟨o_16 42 42 (oWd (K := 0) (r := 11) wi_m_readProduct_0 (by decide +kernel)), rfl⟩
theorem dm_readProduct_13 : dn tm_readProduct 13 (.invokevirtual 251) 3 16 := ⟨o_182 0 251 251 (oWd (K := 0) (r := 13) wi_m_readProduct_0 (by decide +kernel)), rfl⟩
theorem dm_readProduct_16 : db tm_readProduct 16 (.ifCond .ne) 28 19 := ⟨12, o_154 0 12 12 (oWd (K := 0) (r := 16) wi_m_readProduct_0 (by decide +kernel)), rfl, rfl⟩
theorem dm_readProduct_19 : dl tm_readProduct 19 .aload_n .aload 0 20 := Or.inl ⟨0, o_42 (oW (K := 0) (r := 19) wi_m_readProduct_0 (by decide +kernel)), rfl, rfl⟩
theorem dm_readProduct_20 : dn tm_readProduct 20 (.bipush 47) 2 22 := ⟨o_16 47 47 (oWd (K := 0) (r := 20) wi_m_readProduct_0 (by decide +kernel)), rfl⟩
theorem dm_readProduct_22 : dn tm_readProduct 22 (.invokevirtual 251) 3 25 := ⟨o_182 0 251 251 (oWd (K := 0) (r := 22) wi_m_readProduct_0 (by decide +kernel)), rfl⟩
theorem dm_readProduct_25 : db tm_readProduct 25 (.ifCond .eq) 101 28 := ⟨76, o_153 0 76 76 (oWd (K := 0) (r := 25) wi_m_readProduct_0 (by decide +kernel)), rfl, rfl⟩
theorem dm_readProduct_28 : dl tm_readProduct 28 .aload_n .aload 0 29 := Or.inl ⟨0, o_42 (oW (K := 0) (r := 28) wi_m_readProduct_0 (by decide +kernel)), rfl, rfl⟩
theorem dm_readProduct_29 : dn tm_readProduct 29 (.bipush 42) 2 31 := ⟨o_16 42 42 (oWd (K := 0) (r := 29) wi_m_readProduct_0 (by decide +kernel)), rfl⟩
theorem dm_readProduct_31 : dn tm_readProduct 31 (.invokevirtual 251) 3 34 := ⟨o_182 0 251 251 (oWd (K := 0) (r := 31) wi_m_readProduct_0 (by decide +kernel)), rfl⟩
def wl_m_readProduct_32 : List Nat := [0, 251, 60, 42, 182, 0, 244, 27, 154, 0, 17, 42, 180, 0, 207, 6, 159, 0, 9, 42, 4, 182, 0, 237, 172, 27, 154, 0, 16, 42, 180, 0, 210, 154, 0, 9, 42, 5]
theorem wi_m_readProduct_32 : oC tm_readProduct.2.1 32 wl_m_readProduct_32 = true := by decide +kernel
theorem dm_readProduct_34 : dl tm_readProduct 34 .istore_n .istore 1 35 := Or.inl ⟨1, o_60 (oW (K := 32) (r := 2) wi_m_readProduct_32 (by decide +kernel)), rfl, rfl⟩
theorem dm_readProduct_35 : dl tm_readProduct 35 .aload_n .aload 0 36 := Or.inl ⟨0, o_42 (oW (K := 32) (r := 3) wi_m_readProduct_32 (by decide +kernel)), rfl, rfl⟩
theorem dm_readProduct_36 : dn tm_readProduct 36 (.invokevirtual 244) 3 39 := ⟨o_182 0 244 244 (oWd (K := 32) (r := 4) wi_m_readProduct_32 (by decide +kernel)), rfl⟩
theorem dm_readProduct_39 : dl tm_readProduct 39 .iload_n .iload 1 40 := Or.inl ⟨1, o_27 (oW (K := 32) (r := 7) wi_m_readProduct_32 (by decide +kernel)), rfl, rfl⟩
theorem dm_readProduct_40 : db tm_readProduct 40 (.ifCond .ne) 57 43 := ⟨17, o_154 0 17 17 (oWd (K := 32) (r := 8) wi_m_readProduct_32 (by decide +kernel)), rfl, rfl⟩
theorem dm_readProduct_43 : dl tm_readProduct 43 .aload_n .aload 0 44 := Or.inl ⟨0, o_42 (oW (K := 32) (r := 11) wi_m_readProduct_32 (by decide +kernel)), rfl, rfl⟩
theorem dm_readProduct_44 : dn tm_readProduct 44 (.getfield 207) 3 47 := ⟨o_180 0 207 207 (oWd (K := 32) (r := 12) wi_m_readProduct_32 (by decide +kernel)), rfl⟩
theorem dm_readProduct_47 : dn tm_readProduct 47 (.iconst 3) 1 48 := ⟨o_6 (oW (K := 32) (r := 15) wi_m_readProduct_32 (by decide +kernel)), rfl⟩
theorem dm_readProduct_48 : db tm_readProduct 48 (.if_icmp .eq) 57 51 := ⟨9, o_159 0 9 9 (oWd (K := 32) (r := 16) wi_m_readProduct_32 (by decide +kernel)), rfl, rfl⟩
theorem dm_readProduct_51 : dl tm_readProduct 51 .aload_n .aload 0 52 := Or.inl ⟨0, o_42 (oW (K := 32) (r := 19) wi_m_readProduct_32 (by decide +kernel)), rfl, rfl⟩
theorem dm_readProduct_52 : dn tm_readProduct 52 (.iconst 1) 1 53 := ⟨o_4 (oW (K := 32) (r := 20) wi_m_readProduct_32 (by decide +kernel)), rfl⟩
theorem dm_readProduct_53 : dn tm_readProduct 53 (.invokevirtual 237) 3 56 := ⟨o_182 0 237 237 (oWd (K := 32) (r := 21) wi_m_readProduct_32 (by decide +kernel)), rfl⟩
theorem dm_readProduct_56 : dn tm_readProduct 56 (.ireturn) 1 57 := ⟨o_172 (oW (K := 32) (r := 24) wi_m_readProduct_32 (by decide +kernel)), rfl⟩
theorem dm_readProduct_57 : dl tm_readProduct 57 .iload_n .iload 1 58 := Or.inl ⟨1, o_27 (oW (K := 32) (r := 25) wi_m_readProduct_32 (by decide +kernel)), rfl, rfl⟩
theorem dm_readProduct_58 : db tm_readProduct 58 (.ifCond .ne) 74 61 := ⟨16, o_154 0 16 16 (oWd (K := 32) (r := 26) wi_m_readProduct_32 (by decide +kernel)), rfl, rfl⟩
theorem dm_readProduct_61 : dl tm_readProduct 61 .aload_n .aload 0 62 := Or.inl ⟨0, o_42 (oW (K := 32) (r := 29) wi_m_readProduct_32 (by decide +kernel)), rfl, rfl⟩
theorem dm_readProduct_62 : dn tm_readProduct 62 (.getfield 210) 3 65 := ⟨o_180 0 210 210 (oWd (K := 32) (r := 30) wi_m_readProduct_32 (by decide +kernel)), rfl⟩
def wl_m_readProduct_64 : List Nat := [210, 154, 0, 9, 42, 5, 182, 0, 237, 172, 42, 182, 0, 247, 2, 160, 0, 5, 2, 172, 42, 27, 153, 0, 7, 7, 167, 0, 4, 8, 3, 182, 0, 240, 167, 255, 168, 3]
theorem wi_m_readProduct_64 : oC tm_readProduct.2.1 64 wl_m_readProduct_64 = true := by decide +kernel
theorem dm_readProduct_65 : db tm_readProduct 65 (.ifCond .ne) 74 68 := ⟨9, o_154 0 9 9 (oWd (K := 64) (r := 1) wi_m_readProduct_64 (by decide +kernel)), rfl, rfl⟩
theorem dm_readProduct_68 : dl tm_readProduct 68 .aload_n .aload 0 69 := Or.inl ⟨0, o_42 (oW (K := 64) (r := 4) wi_m_readProduct_64 (by decide +kernel)), rfl, rfl⟩
theorem dm_readProduct_69 : dn tm_readProduct 69 (.iconst 2) 1 70 := ⟨o_5 (oW (K := 64) (r := 5) wi_m_readProduct_64 (by decide +kernel)), rfl⟩
theorem dm_readProduct_70 : dn tm_readProduct 70 (.invokevirtual 237) 3 73 := ⟨o_182 0 237 237 (oWd (K := 64) (r := 6) wi_m_readProduct_64 (by decide +kernel)), rfl⟩
theorem dm_readProduct_73 : dn tm_readProduct 73 (.ireturn) 1 74 := ⟨o_172 (oW (K := 64) (r := 9) wi_m_readProduct_64 (by decide +kernel)), rfl⟩
theorem dm_readProduct_74 : dl tm_readProduct 74 .aload_n .aload 0 75 := Or.inl ⟨0, o_42 (oW (K := 64) (r := 10) wi_m_readProduct_64 (by decide +kernel)), rfl, rfl⟩
theorem dm_readProduct_75 : dn tm_readProduct 75 (.invokevirtual 247) 3 78 := ⟨o_182 0 247 247 (oWd (K := 64) (r := 11) wi_m_readProduct_64 (by decide +kernel)), rfl⟩
theorem dm_readProduct_78 : dn tm_readProduct 78 (.iconst (-1)) 1 79 := ⟨o_2 (oW (K := 64) (r := 14) wi_m_readProduct_64 (by decide +kernel)), rfl⟩
theorem dm_readProduct_79 : db tm_readProduct 79 (.if_icmp .ne) 84 82 := ⟨5, o_160 0 5 5 (oWd (K := 64) (r := 15) wi_m_readProduct_64 (by decide +kernel)), rfl, rfl⟩
theorem dm_readProduct_82 : dn tm_readProduct 82 (.iconst (-1)) 1 83 := ⟨o_2 (oW (K := 64) (r := 18) wi_m_readProduct_64 (by decide +kernel)), rfl⟩
theorem dm_readProduct_83 : dn tm_readProduct 83 (.ireturn) 1 84 := ⟨o_172 (oW (K := 64) (r := 19) wi_m_readProduct_64 (by decide +kernel)), rfl⟩
theorem dm_readProduct_84 : dl tm_readProduct 84 .aload_n .aload 0 85 := Or.inl ⟨0, o_42 (oW (K := 64) (r := 20) wi_m_readProduct_64 (by decide +kernel)), rfl, rfl⟩
theorem dm_readProduct_85 : dl tm_readProduct 85 .iload_n .iload 1 86 := Or.inl ⟨1, o_27 (oW (K := 64) (r := 21) wi_m_readProduct_64 (by decide +kernel)), rfl, rfl⟩
theorem dm_readProduct_86 : db tm_readProduct 86 (.ifCond .eq) 93 89 := ⟨7, o_153 0 7 7 (oWd (K := 64) (r := 22) wi_m_readProduct_64 (by decide +kernel)), rfl, rfl⟩
theorem dm_readProduct_89 : dn tm_readProduct 89 (.iconst 4) 1 90 := ⟨o_7 (oW (K := 64) (r := 25) wi_m_readProduct_64 (by decide +kernel)), rfl⟩
theorem dm_readProduct_90 : db tm_readProduct 90 .goto 94 93 := ⟨4, o_167 0 4 4 (oWd (K := 64) (r := 26) wi_m_readProduct_64 (by decide +kernel)), rfl, rfl⟩
theorem dm_readProduct_93 : dn tm_readProduct 93 (.iconst 5) 1 94 := ⟨o_8 (oW (K := 64) (r := 29) wi_m_readProduct_64 (by decide +kernel)), rfl⟩
theorem dm_readProduct_94 : dn tm_readProduct 94 (.iconst 0) 1 95 := ⟨o_3 (oW (K := 64) (r := 30) wi_m_readProduct_64 (by decide +kernel)), rfl⟩
theorem dm_readProduct_95 : dn tm_readProduct 95 (.invokevirtual 240) 3 98 := ⟨o_182 0 240 240 (oWd (K := 64) (r := 31) wi_m_readProduct_64 (by decide +kernel)), rfl⟩
def wl_m_readProduct_96 : List Nat := [0, 240, 167, 255, 168, 3, 172]
theorem wi_m_readProduct_96 : oC tm_readProduct.2.1 96 wl_m_readProduct_96 = true := by decide +kernel
theorem dm_readProduct_98 : db tm_readProduct 98 .goto 10 101 := ⟨-88, o_167 255 168 (-88) (oWd (K := 96) (r := 2) wi_m_readProduct_96 (by decide +kernel)), rfl, rfl⟩
theorem dm_readProduct_101 : dn tm_readProduct 101 (.iconst 0) 1 102 := ⟨o_3 (oW (K := 96) (r := 5) wi_m_readProduct_96 (by decide +kernel)), rfl⟩
theorem dm_readProduct_102 : dn tm_readProduct 102 (.ireturn) 1 103 := ⟨o_172 (oW (K := 96) (r := 6) wi_m_readProduct_96 (by decide +kernel)), rfl⟩
def wl_m_readSum_0 : List Nat := [42, 182, 0, 254, 2, 160, 0, 5, 2, 172, 42, 16, 43, 182, 0, 251, 154, 0, 12, 42, 16, 45, 182, 0, 251, 153, 0, 41, 42, 180, 0, 210, 16, 43, 160, 0, 7, 5]
theorem wi_m_readSum_0 : oC tm_readSum.2.1 0 wl_m_readSum_0 = true := by decide +kernel
theorem dm_readSum_0 : dl tm_readSum 0 .aload_n .aload 0 1 := Or.inl ⟨0, o_42 (oW (K := 0) (r := 0) wi_m_readSum_0 (by decide +kernel)), rfl, rfl⟩
theorem dm_readSum_1 : dn tm_readSum 1 (.invokevirtual 254) 3 4 := ⟨o_182 0 254 254 (oWd (K := 0) (r := 1) wi_m_readSum_0 (by decide +kernel)), rfl⟩
theorem dm_readSum_4 : dn tm_readSum 4 (.iconst (-1)) 1 5 := ⟨o_2 (oW (K := 0) (r := 4) wi_m_readSum_0 (by decide +kernel)), rfl⟩
theorem dm_readSum_5 : db tm_readSum 5 (.if_icmp .ne) 10 8 := ⟨5, o_160 0 5 5 (oWd (K := 0) (r := 5) wi_m_readSum_0 (by decide +kernel)), rfl, rfl⟩
theorem dm_readSum_8 : dn tm_readSum 8 (.iconst (-1)) 1 9 := ⟨o_2 (oW (K := 0) (r := 8) wi_m_readSum_0 (by decide +kernel)), rfl⟩
theorem dm_readSum_9 : dn tm_readSum 9 (.ireturn) 1 10 := ⟨o_172 (oW (K := 0) (r := 9) wi_m_readSum_0 (by decide +kernel)), rfl⟩
theorem dm_readSum_10 : dl tm_readSum 10 .aload_n .aload 0 11 := Or.inl ⟨0, o_42 (oW (K := 0) (r := 10) wi_m_readSum_0 (by decide +kernel)), rfl, rfl⟩
theorem dm_readSum_11 : dn tm_readSum 11 (.bipush 43) 2 13 := ⟨o_16 43 43 (oWd (K := 0) (r := 11) wi_m_readSum_0 (by decide +kernel)), rfl⟩
theorem dm_readSum_13 : dn tm_readSum 13 (.invokevirtual 251) 3 16 := ⟨o_182 0 251 251 (oWd (K := 0) (r := 13) wi_m_readSum_0 (by decide +kernel)), rfl⟩
theorem dm_readSum_16 : db tm_readSum 16 (.ifCond .ne) 28 19 := ⟨12, o_154 0 12 12 (oWd (K := 0) (r := 16) wi_m_readSum_0 (by decide +kernel)), rfl, rfl⟩
theorem dm_readSum_19 : dl tm_readSum 19 .aload_n .aload 0 20 := Or.inl ⟨0, o_42 (oW (K := 0) (r := 19) wi_m_readSum_0 (by decide +kernel)), rfl, rfl⟩
theorem dm_readSum_20 : dn tm_readSum 20 (.bipush 45) 2 22 := ⟨o_16 45 45 (oWd (K := 0) (r := 20) wi_m_readSum_0 (by decide +kernel)), rfl⟩
theorem dm_readSum_22 : dn tm_readSum 22 (.invokevirtual 251) 3 25 := ⟨o_182 0 251 251 (oWd (K := 0) (r := 22) wi_m_readSum_0 (by decide +kernel)), rfl⟩
theorem dm_readSum_25 : db tm_readSum 25 (.ifCond .eq) 66 28 := ⟨41, o_153 0 41 41 (oWd (K := 0) (r := 25) wi_m_readSum_0 (by decide +kernel)), rfl, rfl⟩
theorem dm_readSum_28 : dl tm_readSum 28 .aload_n .aload 0 29 := Or.inl ⟨0, o_42 (oW (K := 0) (r := 28) wi_m_readSum_0 (by decide +kernel)), rfl, rfl⟩
theorem dm_readSum_29 : dn tm_readSum 29 (.getfield 210) 3 32 := ⟨o_180 0 210 210 (oWd (K := 0) (r := 29) wi_m_readSum_0 (by decide +kernel)), rfl⟩
def wl_m_readSum_32 : List Nat := [16, 43, 160, 0, 7, 5, 167, 0, 4, 6, 60, 42, 182, 0, 244, 42, 182, 0, 254, 2, 160, 0, 5, 2, 172, 42, 27, 3, 182, 0, 240, 167, 255, 203, 3, 172]
theorem wi_m_readSum_32 : oC tm_readSum.2.1 32 wl_m_readSum_32 = true := by decide +kernel
theorem dm_readSum_32 : dn tm_readSum 32 (.bipush 43) 2 34 := ⟨o_16 43 43 (oWd (K := 32) (r := 0) wi_m_readSum_32 (by decide +kernel)), rfl⟩
theorem dm_readSum_34 : db tm_readSum 34 (.if_icmp .ne) 41 37 := ⟨7, o_160 0 7 7 (oWd (K := 32) (r := 2) wi_m_readSum_32 (by decide +kernel)), rfl, rfl⟩
theorem dm_readSum_37 : dn tm_readSum 37 (.iconst 2) 1 38 := ⟨o_5 (oW (K := 32) (r := 5) wi_m_readSum_32 (by decide +kernel)), rfl⟩
theorem dm_readSum_38 : db tm_readSum 38 .goto 42 41 := ⟨4, o_167 0 4 4 (oWd (K := 32) (r := 6) wi_m_readSum_32 (by decide +kernel)), rfl, rfl⟩
theorem dm_readSum_41 : dn tm_readSum 41 (.iconst 3) 1 42 := ⟨o_6 (oW (K := 32) (r := 9) wi_m_readSum_32 (by decide +kernel)), rfl⟩
theorem dm_readSum_42 : dl tm_readSum 42 .istore_n .istore 1 43 := Or.inl ⟨1, o_60 (oW (K := 32) (r := 10) wi_m_readSum_32 (by decide +kernel)), rfl, rfl⟩
theorem dm_readSum_43 : dl tm_readSum 43 .aload_n .aload 0 44 := Or.inl ⟨0, o_42 (oW (K := 32) (r := 11) wi_m_readSum_32 (by decide +kernel)), rfl, rfl⟩
theorem dm_readSum_44 : dn tm_readSum 44 (.invokevirtual 244) 3 47 := ⟨o_182 0 244 244 (oWd (K := 32) (r := 12) wi_m_readSum_32 (by decide +kernel)), rfl⟩
theorem dm_readSum_47 : dl tm_readSum 47 .aload_n .aload 0 48 := Or.inl ⟨0, o_42 (oW (K := 32) (r := 15) wi_m_readSum_32 (by decide +kernel)), rfl, rfl⟩
theorem dm_readSum_48 : dn tm_readSum 48 (.invokevirtual 254) 3 51 := ⟨o_182 0 254 254 (oWd (K := 32) (r := 16) wi_m_readSum_32 (by decide +kernel)), rfl⟩
theorem dm_readSum_51 : dn tm_readSum 51 (.iconst (-1)) 1 52 := ⟨o_2 (oW (K := 32) (r := 19) wi_m_readSum_32 (by decide +kernel)), rfl⟩
theorem dm_readSum_52 : db tm_readSum 52 (.if_icmp .ne) 57 55 := ⟨5, o_160 0 5 5 (oWd (K := 32) (r := 20) wi_m_readSum_32 (by decide +kernel)), rfl, rfl⟩
theorem dm_readSum_55 : dn tm_readSum 55 (.iconst (-1)) 1 56 := ⟨o_2 (oW (K := 32) (r := 23) wi_m_readSum_32 (by decide +kernel)), rfl⟩
theorem dm_readSum_56 : dn tm_readSum 56 (.ireturn) 1 57 := ⟨o_172 (oW (K := 32) (r := 24) wi_m_readSum_32 (by decide +kernel)), rfl⟩
theorem dm_readSum_57 : dl tm_readSum 57 .aload_n .aload 0 58 := Or.inl ⟨0, o_42 (oW (K := 32) (r := 25) wi_m_readSum_32 (by decide +kernel)), rfl, rfl⟩
theorem dm_readSum_58 : dl tm_readSum 58 .iload_n .iload 1 59 := Or.inl ⟨1, o_27 (oW (K := 32) (r := 26) wi_m_readSum_32 (by decide +kernel)), rfl, rfl⟩
theorem dm_readSum_59 : dn tm_readSum 59 (.iconst 0) 1 60 := ⟨o_3 (oW (K := 32) (r := 27) wi_m_readSum_32 (by decide +kernel)), rfl⟩
theorem dm_readSum_60 : dn tm_readSum 60 (.invokevirtual 240) 3 63 := ⟨o_182 0 240 240 (oWd (K := 32) (r := 28) wi_m_readSum_32 (by decide +kernel)), rfl⟩
theorem dm_readSum_63 : db tm_readSum 63 .goto 10 66 := ⟨-53, o_167 255 203 (-53) (oWd (K := 32) (r := 31) wi_m_readSum_32 (by decide +kernel)), rfl, rfl⟩
def wl_m_readSum_64 : List Nat := [255, 203, 3, 172]
theorem wi_m_readSum_64 : oC tm_readSum.2.1 64 wl_m_readSum_64 = true := by decide +kernel
theorem dm_readSum_66 : dn tm_readSum 66 (.iconst 0) 1 67 := ⟨o_3 (oW (K := 64) (r := 2) wi_m_readSum_64 (by decide +kernel)), rfl⟩
theorem dm_readSum_67 : dn tm_readSum 67 (.ireturn) 1 68 := ⟨o_172 (oW (K := 64) (r := 3) wi_m_readSum_64 (by decide +kernel)), rfl⟩
def wl_m_readCompared_0 : List Nat := [42, 182, 1, 1, 2, 160, 0, 5, 2, 172, 42, 16, 60, 182, 0, 251, 154, 0, 27, 42, 16, 61, 182, 0, 251, 154, 0, 18, 42, 16, 62, 182, 0, 251, 154, 0, 9, 42]
theorem wi_m_readCompared_0 : oC tm_readCompared.2.1 0 wl_m_readCompared_0 = true := by decide +kernel
theorem dm_readCompared_0 : dl tm_readCompared 0 .aload_n .aload 0 1 := Or.inl ⟨0, o_42 (oW (K := 0) (r := 0) wi_m_readCompared_0 (by decide +kernel)), rfl, rfl⟩
theorem dm_readCompared_1 : dn tm_readCompared 1 (.invokevirtual 257) 3 4 := ⟨o_182 1 1 257 (oWd (K := 0) (r := 1) wi_m_readCompared_0 (by decide +kernel)), rfl⟩
theorem dm_readCompared_4 : dn tm_readCompared 4 (.iconst (-1)) 1 5 := ⟨o_2 (oW (K := 0) (r := 4) wi_m_readCompared_0 (by decide +kernel)), rfl⟩
theorem dm_readCompared_5 : db tm_readCompared 5 (.if_icmp .ne) 10 8 := ⟨5, o_160 0 5 5 (oWd (K := 0) (r := 5) wi_m_readCompared_0 (by decide +kernel)), rfl, rfl⟩
theorem dm_readCompared_8 : dn tm_readCompared 8 (.iconst (-1)) 1 9 := ⟨o_2 (oW (K := 0) (r := 8) wi_m_readCompared_0 (by decide +kernel)), rfl⟩
theorem dm_readCompared_9 : dn tm_readCompared 9 (.ireturn) 1 10 := ⟨o_172 (oW (K := 0) (r := 9) wi_m_readCompared_0 (by decide +kernel)), rfl⟩
theorem dm_readCompared_10 : dl tm_readCompared 10 .aload_n .aload 0 11 := Or.inl ⟨0, o_42 (oW (K := 0) (r := 10) wi_m_readCompared_0 (by decide +kernel)), rfl, rfl⟩
theorem dm_readCompared_11 : dn tm_readCompared 11 (.bipush 60) 2 13 := ⟨o_16 60 60 (oWd (K := 0) (r := 11) wi_m_readCompared_0 (by decide +kernel)), rfl⟩
theorem dm_readCompared_13 : dn tm_readCompared 13 (.invokevirtual 251) 3 16 := ⟨o_182 0 251 251 (oWd (K := 0) (r := 13) wi_m_readCompared_0 (by decide +kernel)), rfl⟩
theorem dm_readCompared_16 : db tm_readCompared 16 (.ifCond .ne) 43 19 := ⟨27, o_154 0 27 27 (oWd (K := 0) (r := 16) wi_m_readCompared_0 (by decide +kernel)), rfl, rfl⟩
theorem dm_readCompared_19 : dl tm_readCompared 19 .aload_n .aload 0 20 := Or.inl ⟨0, o_42 (oW (K := 0) (r := 19) wi_m_readCompared_0 (by decide +kernel)), rfl, rfl⟩
theorem dm_readCompared_20 : dn tm_readCompared 20 (.bipush 61) 2 22 := ⟨o_16 61 61 (oWd (K := 0) (r := 20) wi_m_readCompared_0 (by decide +kernel)), rfl⟩
theorem dm_readCompared_22 : dn tm_readCompared 22 (.invokevirtual 251) 3 25 := ⟨o_182 0 251 251 (oWd (K := 0) (r := 22) wi_m_readCompared_0 (by decide +kernel)), rfl⟩
theorem dm_readCompared_25 : db tm_readCompared 25 (.ifCond .ne) 43 28 := ⟨18, o_154 0 18 18 (oWd (K := 0) (r := 25) wi_m_readCompared_0 (by decide +kernel)), rfl, rfl⟩
theorem dm_readCompared_28 : dl tm_readCompared 28 .aload_n .aload 0 29 := Or.inl ⟨0, o_42 (oW (K := 0) (r := 28) wi_m_readCompared_0 (by decide +kernel)), rfl, rfl⟩
theorem dm_readCompared_29 : dn tm_readCompared 29 (.bipush 62) 2 31 := ⟨o_16 62 62 (oWd (K := 0) (r := 29) wi_m_readCompared_0 (by decide +kernel)), rfl⟩
theorem dm_readCompared_31 : dn tm_readCompared 31 (.invokevirtual 251) 3 34 := ⟨o_182 0 251 251 (oWd (K := 0) (r := 31) wi_m_readCompared_0 (by decide +kernel)), rfl⟩
def wl_m_readCompared_32 : List Nat := [0, 251, 154, 0, 9, 42, 4, 182, 0, 237, 172, 42, 180, 0, 210, 16, 60, 160, 0, 8, 16, 6, 167, 0, 19, 42, 180, 0, 210, 16, 61, 160, 0, 8, 16, 7, 167, 0]
theorem wi_m_readCompared_32 : oC tm_readCompared.2.1 32 wl_m_readCompared_32 = true := by decide +kernel
theorem dm_readCompared_34 : db tm_readCompared 34 (.ifCond .ne) 43 37 := ⟨9, o_154 0 9 9 (oWd (K := 32) (r := 2) wi_m_readCompared_32 (by decide +kernel)), rfl, rfl⟩
theorem dm_readCompared_37 : dl tm_readCompared 37 .aload_n .aload 0 38 := Or.inl ⟨0, o_42 (oW (K := 32) (r := 5) wi_m_readCompared_32 (by decide +kernel)), rfl, rfl⟩
theorem dm_readCompared_38 : dn tm_readCompared 38 (.iconst 1) 1 39 := ⟨o_4 (oW (K := 32) (r := 6) wi_m_readCompared_32 (by decide +kernel)), rfl⟩
theorem dm_readCompared_39 : dn tm_readCompared 39 (.invokevirtual 237) 3 42 := ⟨o_182 0 237 237 (oWd (K := 32) (r := 7) wi_m_readCompared_32 (by decide +kernel)), rfl⟩
theorem dm_readCompared_42 : dn tm_readCompared 42 (.ireturn) 1 43 := ⟨o_172 (oW (K := 32) (r := 10) wi_m_readCompared_32 (by decide +kernel)), rfl⟩
theorem dm_readCompared_43 : dl tm_readCompared 43 .aload_n .aload 0 44 := Or.inl ⟨0, o_42 (oW (K := 32) (r := 11) wi_m_readCompared_32 (by decide +kernel)), rfl, rfl⟩
theorem dm_readCompared_44 : dn tm_readCompared 44 (.getfield 210) 3 47 := ⟨o_180 0 210 210 (oWd (K := 32) (r := 12) wi_m_readCompared_32 (by decide +kernel)), rfl⟩
theorem dm_readCompared_47 : dn tm_readCompared 47 (.bipush 60) 2 49 := ⟨o_16 60 60 (oWd (K := 32) (r := 15) wi_m_readCompared_32 (by decide +kernel)), rfl⟩
theorem dm_readCompared_49 : db tm_readCompared 49 (.if_icmp .ne) 57 52 := ⟨8, o_160 0 8 8 (oWd (K := 32) (r := 17) wi_m_readCompared_32 (by decide +kernel)), rfl, rfl⟩
theorem dm_readCompared_52 : dn tm_readCompared 52 (.bipush 6) 2 54 := ⟨o_16 6 6 (oWd (K := 32) (r := 20) wi_m_readCompared_32 (by decide +kernel)), rfl⟩
theorem dm_readCompared_54 : db tm_readCompared 54 .goto 73 57 := ⟨19, o_167 0 19 19 (oWd (K := 32) (r := 22) wi_m_readCompared_32 (by decide +kernel)), rfl, rfl⟩
theorem dm_readCompared_57 : dl tm_readCompared 57 .aload_n .aload 0 58 := Or.inl ⟨0, o_42 (oW (K := 32) (r := 25) wi_m_readCompared_32 (by decide +kernel)), rfl, rfl⟩
theorem dm_readCompared_58 : dn tm_readCompared 58 (.getfield 210) 3 61 := ⟨o_180 0 210 210 (oWd (K := 32) (r := 26) wi_m_readCompared_32 (by decide +kernel)), rfl⟩
theorem dm_readCompared_61 : dn tm_readCompared 61 (.bipush 61) 2 63 := ⟨o_16 61 61 (oWd (K := 32) (r := 29) wi_m_readCompared_32 (by decide +kernel)), rfl⟩
theorem dm_readCompared_63 : db tm_readCompared 63 (.if_icmp .ne) 71 66 := ⟨8, o_160 0 8 8 (oWd (K := 32) (r := 31) wi_m_readCompared_32 (by decide +kernel)), rfl, rfl⟩
def wl_m_readCompared_64 : List Nat := [0, 8, 16, 7, 167, 0, 5, 16, 8, 60, 42, 182, 0, 244, 42, 182, 1, 1, 2, 160, 0, 5, 2, 172, 42, 27, 3, 182, 0, 240, 3, 172]
theorem wi_m_readCompared_64 : oC tm_readCompared.2.1 64 wl_m_readCompared_64 = true := by decide +kernel
theorem dm_readCompared_66 : dn tm_readCompared 66 (.bipush 7) 2 68 := ⟨o_16 7 7 (oWd (K := 64) (r := 2) wi_m_readCompared_64 (by decide +kernel)), rfl⟩
theorem dm_readCompared_68 : db tm_readCompared 68 .goto 73 71 := ⟨5, o_167 0 5 5 (oWd (K := 64) (r := 4) wi_m_readCompared_64 (by decide +kernel)), rfl, rfl⟩
theorem dm_readCompared_71 : dn tm_readCompared 71 (.bipush 8) 2 73 := ⟨o_16 8 8 (oWd (K := 64) (r := 7) wi_m_readCompared_64 (by decide +kernel)), rfl⟩
theorem dm_readCompared_73 : dl tm_readCompared 73 .istore_n .istore 1 74 := Or.inl ⟨1, o_60 (oW (K := 64) (r := 9) wi_m_readCompared_64 (by decide +kernel)), rfl, rfl⟩
theorem dm_readCompared_74 : dl tm_readCompared 74 .aload_n .aload 0 75 := Or.inl ⟨0, o_42 (oW (K := 64) (r := 10) wi_m_readCompared_64 (by decide +kernel)), rfl, rfl⟩
theorem dm_readCompared_75 : dn tm_readCompared 75 (.invokevirtual 244) 3 78 := ⟨o_182 0 244 244 (oWd (K := 64) (r := 11) wi_m_readCompared_64 (by decide +kernel)), rfl⟩
theorem dm_readCompared_78 : dl tm_readCompared 78 .aload_n .aload 0 79 := Or.inl ⟨0, o_42 (oW (K := 64) (r := 14) wi_m_readCompared_64 (by decide +kernel)), rfl, rfl⟩
theorem dm_readCompared_79 : dn tm_readCompared 79 (.invokevirtual 257) 3 82 := ⟨o_182 1 1 257 (oWd (K := 64) (r := 15) wi_m_readCompared_64 (by decide +kernel)), rfl⟩
theorem dm_readCompared_82 : dn tm_readCompared 82 (.iconst (-1)) 1 83 := ⟨o_2 (oW (K := 64) (r := 18) wi_m_readCompared_64 (by decide +kernel)), rfl⟩
theorem dm_readCompared_83 : db tm_readCompared 83 (.if_icmp .ne) 88 86 := ⟨5, o_160 0 5 5 (oWd (K := 64) (r := 19) wi_m_readCompared_64 (by decide +kernel)), rfl, rfl⟩
theorem dm_readCompared_86 : dn tm_readCompared 86 (.iconst (-1)) 1 87 := ⟨o_2 (oW (K := 64) (r := 22) wi_m_readCompared_64 (by decide +kernel)), rfl⟩
theorem dm_readCompared_87 : dn tm_readCompared 87 (.ireturn) 1 88 := ⟨o_172 (oW (K := 64) (r := 23) wi_m_readCompared_64 (by decide +kernel)), rfl⟩
theorem dm_readCompared_88 : dl tm_readCompared 88 .aload_n .aload 0 89 := Or.inl ⟨0, o_42 (oW (K := 64) (r := 24) wi_m_readCompared_64 (by decide +kernel)), rfl, rfl⟩
theorem dm_readCompared_89 : dl tm_readCompared 89 .iload_n .iload 1 90 := Or.inl ⟨1, o_27 (oW (K := 64) (r := 25) wi_m_readCompared_64 (by decide +kernel)), rfl, rfl⟩
theorem dm_readCompared_90 : dn tm_readCompared 90 (.iconst 0) 1 91 := ⟨o_3 (oW (K := 64) (r := 26) wi_m_readCompared_64 (by decide +kernel)), rfl⟩
theorem dm_readCompared_91 : dn tm_readCompared 91 (.invokevirtual 240) 3 94 := ⟨o_182 0 240 240 (oWd (K := 64) (r := 27) wi_m_readCompared_64 (by decide +kernel)), rfl⟩
theorem dm_readCompared_94 : dn tm_readCompared 94 (.iconst 0) 1 95 := ⟨o_3 (oW (K := 64) (r := 30) wi_m_readCompared_64 (by decide +kernel)), rfl⟩
theorem dm_readCompared_95 : dn tm_readCompared 95 (.ireturn) 1 96 := ⟨o_172 (oW (K := 64) (r := 31) wi_m_readCompared_64 (by decide +kernel)), rfl⟩
def wl_m_waits_0 : List Nat := [42, 180, 0, 55, 42, 180, 1, 4, 27, 79, 42, 42, 180, 1, 4, 4, 96, 181, 1, 4, 177]
theorem wi_m_waits_0 : oC tm_waits.2.1 0 wl_m_waits_0 = true := by decide +kernel
theorem dm_waits_0 : dl tm_waits 0 .aload_n .aload 0 1 := Or.inl ⟨0, o_42 (oW (K := 0) (r := 0) wi_m_waits_0 (by decide +kernel)), rfl, rfl⟩
theorem dm_waits_1 : dn tm_waits 1 (.getfield 55) 3 4 := ⟨o_180 0 55 55 (oWd (K := 0) (r := 1) wi_m_waits_0 (by decide +kernel)), rfl⟩
theorem dm_waits_4 : dl tm_waits 4 .aload_n .aload 0 5 := Or.inl ⟨0, o_42 (oW (K := 0) (r := 4) wi_m_waits_0 (by decide +kernel)), rfl, rfl⟩
theorem dm_waits_5 : dn tm_waits 5 (.getfield 260) 3 8 := ⟨o_180 1 4 260 (oWd (K := 0) (r := 5) wi_m_waits_0 (by decide +kernel)), rfl⟩
theorem dm_waits_8 : dl tm_waits 8 .iload_n .iload 1 9 := Or.inl ⟨1, o_27 (oW (K := 0) (r := 8) wi_m_waits_0 (by decide +kernel)), rfl, rfl⟩
theorem dm_waits_9 : dn tm_waits 9 (.iastore) 1 10 := ⟨o_79 (oW (K := 0) (r := 9) wi_m_waits_0 (by decide +kernel)), rfl⟩
theorem dm_waits_10 : dl tm_waits 10 .aload_n .aload 0 11 := Or.inl ⟨0, o_42 (oW (K := 0) (r := 10) wi_m_waits_0 (by decide +kernel)), rfl, rfl⟩
theorem dm_waits_11 : dl tm_waits 11 .aload_n .aload 0 12 := Or.inl ⟨0, o_42 (oW (K := 0) (r := 11) wi_m_waits_0 (by decide +kernel)), rfl, rfl⟩
theorem dm_waits_12 : dn tm_waits 12 (.getfield 260) 3 15 := ⟨o_180 1 4 260 (oWd (K := 0) (r := 12) wi_m_waits_0 (by decide +kernel)), rfl⟩
theorem dm_waits_15 : dn tm_waits 15 (.iconst 1) 1 16 := ⟨o_4 (oW (K := 0) (r := 15) wi_m_waits_0 (by decide +kernel)), rfl⟩
theorem dm_waits_16 : dn tm_waits 16 (.iadd) 1 17 := ⟨o_96 (oW (K := 0) (r := 16) wi_m_waits_0 (by decide +kernel)), rfl⟩
theorem dm_waits_17 : dn tm_waits 17 (.putfield 260) 3 20 := ⟨o_181 1 4 260 (oWd (K := 0) (r := 17) wi_m_waits_0 (by decide +kernel)), rfl⟩
theorem dm_waits_20 : dn tm_waits 20 (.return_) 1 21 := ⟨o_177 (oW (K := 0) (r := 20) wi_m_waits_0 (by decide +kernel)), rfl⟩
def wl_m_settles_0 : List Nat := [42, 180, 1, 4, 158, 0, 53, 42, 180, 0, 55, 42, 180, 1, 4, 4, 100, 46, 27, 160, 0, 38, 42, 42, 180, 1, 4, 4, 100, 181, 1, 4, 42, 27, 3, 182, 0, 240]
theorem wi_m_settles_0 : oC tm_settles.2.1 0 wl_m_settles_0 = true := by decide +kernel
theorem dm_settles_0 : dl tm_settles 0 .aload_n .aload 0 1 := Or.inl ⟨0, o_42 (oW (K := 0) (r := 0) wi_m_settles_0 (by decide +kernel)), rfl, rfl⟩
theorem dm_settles_1 : dn tm_settles 1 (.getfield 260) 3 4 := ⟨o_180 1 4 260 (oWd (K := 0) (r := 1) wi_m_settles_0 (by decide +kernel)), rfl⟩
theorem dm_settles_4 : db tm_settles 4 (.ifCond .le) 57 7 := ⟨53, o_158 0 53 53 (oWd (K := 0) (r := 4) wi_m_settles_0 (by decide +kernel)), rfl, rfl⟩
theorem dm_settles_7 : dl tm_settles 7 .aload_n .aload 0 8 := Or.inl ⟨0, o_42 (oW (K := 0) (r := 7) wi_m_settles_0 (by decide +kernel)), rfl, rfl⟩
theorem dm_settles_8 : dn tm_settles 8 (.getfield 55) 3 11 := ⟨o_180 0 55 55 (oWd (K := 0) (r := 8) wi_m_settles_0 (by decide +kernel)), rfl⟩
theorem dm_settles_11 : dl tm_settles 11 .aload_n .aload 0 12 := Or.inl ⟨0, o_42 (oW (K := 0) (r := 11) wi_m_settles_0 (by decide +kernel)), rfl, rfl⟩
theorem dm_settles_12 : dn tm_settles 12 (.getfield 260) 3 15 := ⟨o_180 1 4 260 (oWd (K := 0) (r := 12) wi_m_settles_0 (by decide +kernel)), rfl⟩
theorem dm_settles_15 : dn tm_settles 15 (.iconst 1) 1 16 := ⟨o_4 (oW (K := 0) (r := 15) wi_m_settles_0 (by decide +kernel)), rfl⟩
theorem dm_settles_16 : dn tm_settles 16 (.isub) 1 17 := ⟨o_100 (oW (K := 0) (r := 16) wi_m_settles_0 (by decide +kernel)), rfl⟩
theorem dm_settles_17 : dn tm_settles 17 (.iaload) 1 18 := ⟨o_46 (oW (K := 0) (r := 17) wi_m_settles_0 (by decide +kernel)), rfl⟩
theorem dm_settles_18 : dl tm_settles 18 .iload_n .iload 1 19 := Or.inl ⟨1, o_27 (oW (K := 0) (r := 18) wi_m_settles_0 (by decide +kernel)), rfl, rfl⟩
theorem dm_settles_19 : db tm_settles 19 (.if_icmp .ne) 57 22 := ⟨38, o_160 0 38 38 (oWd (K := 0) (r := 19) wi_m_settles_0 (by decide +kernel)), rfl, rfl⟩
theorem dm_settles_22 : dl tm_settles 22 .aload_n .aload 0 23 := Or.inl ⟨0, o_42 (oW (K := 0) (r := 22) wi_m_settles_0 (by decide +kernel)), rfl, rfl⟩
theorem dm_settles_23 : dl tm_settles 23 .aload_n .aload 0 24 := Or.inl ⟨0, o_42 (oW (K := 0) (r := 23) wi_m_settles_0 (by decide +kernel)), rfl, rfl⟩
theorem dm_settles_24 : dn tm_settles 24 (.getfield 260) 3 27 := ⟨o_180 1 4 260 (oWd (K := 0) (r := 24) wi_m_settles_0 (by decide +kernel)), rfl⟩
theorem dm_settles_27 : dn tm_settles 27 (.iconst 1) 1 28 := ⟨o_4 (oW (K := 0) (r := 27) wi_m_settles_0 (by decide +kernel)), rfl⟩
theorem dm_settles_28 : dn tm_settles 28 (.isub) 1 29 := ⟨o_100 (oW (K := 0) (r := 28) wi_m_settles_0 (by decide +kernel)), rfl⟩
theorem dm_settles_29 : dn tm_settles 29 (.putfield 260) 3 32 := ⟨o_181 1 4 260 (oWd (K := 0) (r := 29) wi_m_settles_0 (by decide +kernel)), rfl⟩
def wl_m_settles_32 : List Nat := [42, 27, 3, 182, 0, 240, 27, 16, 9, 160, 255, 215, 42, 42, 180, 1, 7, 4, 100, 181, 1, 7, 167, 255, 202, 177]
theorem wi_m_settles_32 : oC tm_settles.2.1 32 wl_m_settles_32 = true := by decide +kernel
theorem dm_settles_32 : dl tm_settles 32 .aload_n .aload 0 33 := Or.inl ⟨0, o_42 (oW (K := 32) (r := 0) wi_m_settles_32 (by decide +kernel)), rfl, rfl⟩
theorem dm_settles_33 : dl tm_settles 33 .iload_n .iload 1 34 := Or.inl ⟨1, o_27 (oW (K := 32) (r := 1) wi_m_settles_32 (by decide +kernel)), rfl, rfl⟩
theorem dm_settles_34 : dn tm_settles 34 (.iconst 0) 1 35 := ⟨o_3 (oW (K := 32) (r := 2) wi_m_settles_32 (by decide +kernel)), rfl⟩
theorem dm_settles_35 : dn tm_settles 35 (.invokevirtual 240) 3 38 := ⟨o_182 0 240 240 (oWd (K := 32) (r := 3) wi_m_settles_32 (by decide +kernel)), rfl⟩
theorem dm_settles_38 : dl tm_settles 38 .iload_n .iload 1 39 := Or.inl ⟨1, o_27 (oW (K := 32) (r := 6) wi_m_settles_32 (by decide +kernel)), rfl, rfl⟩
theorem dm_settles_39 : dn tm_settles 39 (.bipush 9) 2 41 := ⟨o_16 9 9 (oWd (K := 32) (r := 7) wi_m_settles_32 (by decide +kernel)), rfl⟩
theorem dm_settles_41 : db tm_settles 41 (.if_icmp .ne) 0 44 := ⟨-41, o_160 255 215 (-41) (oWd (K := 32) (r := 9) wi_m_settles_32 (by decide +kernel)), rfl, rfl⟩
theorem dm_settles_44 : dl tm_settles 44 .aload_n .aload 0 45 := Or.inl ⟨0, o_42 (oW (K := 32) (r := 12) wi_m_settles_32 (by decide +kernel)), rfl, rfl⟩
theorem dm_settles_45 : dl tm_settles 45 .aload_n .aload 0 46 := Or.inl ⟨0, o_42 (oW (K := 32) (r := 13) wi_m_settles_32 (by decide +kernel)), rfl, rfl⟩
theorem dm_settles_46 : dn tm_settles 46 (.getfield 263) 3 49 := ⟨o_180 1 7 263 (oWd (K := 32) (r := 14) wi_m_settles_32 (by decide +kernel)), rfl⟩
theorem dm_settles_49 : dn tm_settles 49 (.iconst 1) 1 50 := ⟨o_4 (oW (K := 32) (r := 17) wi_m_settles_32 (by decide +kernel)), rfl⟩
theorem dm_settles_50 : dn tm_settles 50 (.isub) 1 51 := ⟨o_100 (oW (K := 32) (r := 18) wi_m_settles_32 (by decide +kernel)), rfl⟩
theorem dm_settles_51 : dn tm_settles 51 (.putfield 263) 3 54 := ⟨o_181 1 7 263 (oWd (K := 32) (r := 19) wi_m_settles_32 (by decide +kernel)), rfl⟩
theorem dm_settles_54 : db tm_settles 54 .goto 0 57 := ⟨-54, o_167 255 202 (-54) (oWd (K := 32) (r := 22) wi_m_settles_32 (by decide +kernel)), rfl, rfl⟩
theorem dm_settles_57 : dn tm_settles 57 (.return_) 1 58 := ⟨o_177 (oW (K := 32) (r := 25) wi_m_settles_32 (by decide +kernel)), rfl⟩
def wl_m_readAny_0 : List Nat := [3, 60, 42, 3, 181, 1, 4, 4, 61, 28, 153, 0, 99, 42, 16, 6, 182, 1, 10, 62, 29, 154, 0, 12, 42, 16, 40, 182, 0, 251, 153, 0, 58, 42, 180, 1, 7, 16]
theorem wi_m_readAny_0 : oC tm_readAny.2.1 0 wl_m_readAny_0 = true := by decide +kernel
theorem dm_readAny_0 : dn tm_readAny 0 (.iconst 0) 1 1 := ⟨o_3 (oW (K := 0) (r := 0) wi_m_readAny_0 (by decide +kernel)), rfl⟩
theorem dm_readAny_1 : dl tm_readAny 1 .istore_n .istore 1 2 := Or.inl ⟨1, o_60 (oW (K := 0) (r := 1) wi_m_readAny_0 (by decide +kernel)), rfl, rfl⟩
theorem dm_readAny_2 : dl tm_readAny 2 .aload_n .aload 0 3 := Or.inl ⟨0, o_42 (oW (K := 0) (r := 2) wi_m_readAny_0 (by decide +kernel)), rfl, rfl⟩
theorem dm_readAny_3 : dn tm_readAny 3 (.iconst 0) 1 4 := ⟨o_3 (oW (K := 0) (r := 3) wi_m_readAny_0 (by decide +kernel)), rfl⟩
theorem dm_readAny_4 : dn tm_readAny 4 (.putfield 260) 3 7 := ⟨o_181 1 4 260 (oWd (K := 0) (r := 4) wi_m_readAny_0 (by decide +kernel)), rfl⟩
theorem dm_readAny_7 : dn tm_readAny 7 (.iconst 1) 1 8 := ⟨o_4 (oW (K := 0) (r := 7) wi_m_readAny_0 (by decide +kernel)), rfl⟩
theorem dm_readAny_8 : dl tm_readAny 8 .istore_n .istore 2 9 := Or.inl ⟨2, o_61 (oW (K := 0) (r := 8) wi_m_readAny_0 (by decide +kernel)), rfl, rfl⟩
theorem dm_readAny_9 : dl tm_readAny 9 .iload_n .iload 2 10 := Or.inl ⟨2, o_28 (oW (K := 0) (r := 9) wi_m_readAny_0 (by decide +kernel)), rfl, rfl⟩
theorem dm_readAny_10 : db tm_readAny 10 (.ifCond .eq) 109 13 := ⟨99, o_153 0 99 99 (oWd (K := 0) (r := 10) wi_m_readAny_0 (by decide +kernel)), rfl, rfl⟩
theorem dm_readAny_13 : dl tm_readAny 13 .aload_n .aload 0 14 := Or.inl ⟨0, o_42 (oW (K := 0) (r := 13) wi_m_readAny_0 (by decide +kernel)), rfl, rfl⟩
theorem dm_readAny_14 : dn tm_readAny 14 (.bipush 6) 2 16 := ⟨o_16 6 6 (oWd (K := 0) (r := 14) wi_m_readAny_0 (by decide +kernel)), rfl⟩
theorem dm_readAny_16 : dn tm_readAny 16 (.invokevirtual 266) 3 19 := ⟨o_182 1 10 266 (oWd (K := 0) (r := 16) wi_m_readAny_0 (by decide +kernel)), rfl⟩
theorem dm_readAny_19 : dl tm_readAny 19 .istore_n .istore 3 20 := Or.inl ⟨3, o_62 (oW (K := 0) (r := 19) wi_m_readAny_0 (by decide +kernel)), rfl, rfl⟩
theorem dm_readAny_20 : dl tm_readAny 20 .iload_n .iload 3 21 := Or.inl ⟨3, o_29 (oW (K := 0) (r := 20) wi_m_readAny_0 (by decide +kernel)), rfl, rfl⟩
theorem dm_readAny_21 : db tm_readAny 21 (.ifCond .ne) 33 24 := ⟨12, o_154 0 12 12 (oWd (K := 0) (r := 21) wi_m_readAny_0 (by decide +kernel)), rfl, rfl⟩
theorem dm_readAny_24 : dl tm_readAny 24 .aload_n .aload 0 25 := Or.inl ⟨0, o_42 (oW (K := 0) (r := 24) wi_m_readAny_0 (by decide +kernel)), rfl, rfl⟩
theorem dm_readAny_25 : dn tm_readAny 25 (.bipush 40) 2 27 := ⟨o_16 40 40 (oWd (K := 0) (r := 25) wi_m_readAny_0 (by decide +kernel)), rfl⟩
theorem dm_readAny_27 : dn tm_readAny 27 (.invokevirtual 251) 3 30 := ⟨o_182 0 251 251 (oWd (K := 0) (r := 27) wi_m_readAny_0 (by decide +kernel)), rfl⟩
theorem dm_readAny_30 : db tm_readAny 30 (.ifCond .eq) 88 33 := ⟨58, o_153 0 58 58 (oWd (K := 0) (r := 30) wi_m_readAny_0 (by decide +kernel)), rfl, rfl⟩
def wl_m_readAny_32 : List Nat := [58, 42, 180, 1, 7, 16, 8, 160, 0, 9, 42, 6, 182, 0, 237, 172, 42, 42, 180, 1, 7, 4, 96, 181, 1, 7, 29, 154, 0, 7, 27, 4, 96, 60, 42, 29, 153, 0]
theorem wi_m_readAny_32 : oC tm_readAny.2.1 32 wl_m_readAny_32 = true := by decide +kernel
theorem dm_readAny_33 : dl tm_readAny 33 .aload_n .aload 0 34 := Or.inl ⟨0, o_42 (oW (K := 32) (r := 1) wi_m_readAny_32 (by decide +kernel)), rfl, rfl⟩
theorem dm_readAny_34 : dn tm_readAny 34 (.getfield 263) 3 37 := ⟨o_180 1 7 263 (oWd (K := 32) (r := 2) wi_m_readAny_32 (by decide +kernel)), rfl⟩
theorem dm_readAny_37 : dn tm_readAny 37 (.bipush 8) 2 39 := ⟨o_16 8 8 (oWd (K := 32) (r := 5) wi_m_readAny_32 (by decide +kernel)), rfl⟩
theorem dm_readAny_39 : db tm_readAny 39 (.if_icmp .ne) 48 42 := ⟨9, o_160 0 9 9 (oWd (K := 32) (r := 7) wi_m_readAny_32 (by decide +kernel)), rfl, rfl⟩
theorem dm_readAny_42 : dl tm_readAny 42 .aload_n .aload 0 43 := Or.inl ⟨0, o_42 (oW (K := 32) (r := 10) wi_m_readAny_32 (by decide +kernel)), rfl, rfl⟩
theorem dm_readAny_43 : dn tm_readAny 43 (.iconst 3) 1 44 := ⟨o_6 (oW (K := 32) (r := 11) wi_m_readAny_32 (by decide +kernel)), rfl⟩
theorem dm_readAny_44 : dn tm_readAny 44 (.invokevirtual 237) 3 47 := ⟨o_182 0 237 237 (oWd (K := 32) (r := 12) wi_m_readAny_32 (by decide +kernel)), rfl⟩
theorem dm_readAny_47 : dn tm_readAny 47 (.ireturn) 1 48 := ⟨o_172 (oW (K := 32) (r := 15) wi_m_readAny_32 (by decide +kernel)), rfl⟩
theorem dm_readAny_48 : dl tm_readAny 48 .aload_n .aload 0 49 := Or.inl ⟨0, o_42 (oW (K := 32) (r := 16) wi_m_readAny_32 (by decide +kernel)), rfl, rfl⟩
theorem dm_readAny_49 : dl tm_readAny 49 .aload_n .aload 0 50 := Or.inl ⟨0, o_42 (oW (K := 32) (r := 17) wi_m_readAny_32 (by decide +kernel)), rfl, rfl⟩
theorem dm_readAny_50 : dn tm_readAny 50 (.getfield 263) 3 53 := ⟨o_180 1 7 263 (oWd (K := 32) (r := 18) wi_m_readAny_32 (by decide +kernel)), rfl⟩
theorem dm_readAny_53 : dn tm_readAny 53 (.iconst 1) 1 54 := ⟨o_4 (oW (K := 32) (r := 21) wi_m_readAny_32 (by decide +kernel)), rfl⟩
theorem dm_readAny_54 : dn tm_readAny 54 (.iadd) 1 55 := ⟨o_96 (oW (K := 32) (r := 22) wi_m_readAny_32 (by decide +kernel)), rfl⟩
theorem dm_readAny_55 : dn tm_readAny 55 (.putfield 263) 3 58 := ⟨o_181 1 7 263 (oWd (K := 32) (r := 23) wi_m_readAny_32 (by decide +kernel)), rfl⟩
theorem dm_readAny_58 : dl tm_readAny 58 .iload_n .iload 3 59 := Or.inl ⟨3, o_29 (oW (K := 32) (r := 26) wi_m_readAny_32 (by decide +kernel)), rfl, rfl⟩
theorem dm_readAny_59 : db tm_readAny 59 (.ifCond .ne) 66 62 := ⟨7, o_154 0 7 7 (oWd (K := 32) (r := 27) wi_m_readAny_32 (by decide +kernel)), rfl, rfl⟩
theorem dm_readAny_62 : dl tm_readAny 62 .iload_n .iload 1 63 := Or.inl ⟨1, o_27 (oW (K := 32) (r := 30) wi_m_readAny_32 (by decide +kernel)), rfl, rfl⟩
theorem dm_readAny_63 : dn tm_readAny 63 (.iconst 1) 1 64 := ⟨o_4 (oW (K := 32) (r := 31) wi_m_readAny_32 (by decide +kernel)), rfl⟩
def wl_m_readAny_64 : List Nat := [96, 60, 42, 29, 153, 0, 8, 16, 9, 167, 0, 5, 16, 12, 182, 1, 13, 42, 182, 0, 244, 167, 255, 180, 42, 182, 1, 16, 2, 160, 0, 5, 2, 172, 42, 16, 9, 182]
theorem wi_m_readAny_64 : oC tm_readAny.2.1 64 wl_m_readAny_64 = true := by decide +kernel
theorem dm_readAny_64 : dn tm_readAny 64 (.iadd) 1 65 := ⟨o_96 (oW (K := 64) (r := 0) wi_m_readAny_64 (by decide +kernel)), rfl⟩
theorem dm_readAny_65 : dl tm_readAny 65 .istore_n .istore 1 66 := Or.inl ⟨1, o_60 (oW (K := 64) (r := 1) wi_m_readAny_64 (by decide +kernel)), rfl, rfl⟩
theorem dm_readAny_66 : dl tm_readAny 66 .aload_n .aload 0 67 := Or.inl ⟨0, o_42 (oW (K := 64) (r := 2) wi_m_readAny_64 (by decide +kernel)), rfl, rfl⟩
theorem dm_readAny_67 : dl tm_readAny 67 .iload_n .iload 3 68 := Or.inl ⟨3, o_29 (oW (K := 64) (r := 3) wi_m_readAny_64 (by decide +kernel)), rfl, rfl⟩
theorem dm_readAny_68 : db tm_readAny 68 (.ifCond .eq) 76 71 := ⟨8, o_153 0 8 8 (oWd (K := 64) (r := 4) wi_m_readAny_64 (by decide +kernel)), rfl, rfl⟩
theorem dm_readAny_71 : dn tm_readAny 71 (.bipush 9) 2 73 := ⟨o_16 9 9 (oWd (K := 64) (r := 7) wi_m_readAny_64 (by decide +kernel)), rfl⟩
theorem dm_readAny_73 : db tm_readAny 73 .goto 78 76 := ⟨5, o_167 0 5 5 (oWd (K := 64) (r := 9) wi_m_readAny_64 (by decide +kernel)), rfl, rfl⟩
theorem dm_readAny_76 : dn tm_readAny 76 (.bipush 12) 2 78 := ⟨o_16 12 12 (oWd (K := 64) (r := 12) wi_m_readAny_64 (by decide +kernel)), rfl⟩
theorem dm_readAny_78 : dn tm_readAny 78 (.invokevirtual 269) 3 81 := ⟨o_182 1 13 269 (oWd (K := 64) (r := 14) wi_m_readAny_64 (by decide +kernel)), rfl⟩
theorem dm_readAny_81 : dl tm_readAny 81 .aload_n .aload 0 82 := Or.inl ⟨0, o_42 (oW (K := 64) (r := 17) wi_m_readAny_64 (by decide +kernel)), rfl, rfl⟩
theorem dm_readAny_82 : dn tm_readAny 82 (.invokevirtual 244) 3 85 := ⟨o_182 0 244 244 (oWd (K := 64) (r := 18) wi_m_readAny_64 (by decide +kernel)), rfl⟩
theorem dm_readAny_85 : db tm_readAny 85 .goto 9 88 := ⟨-76, o_167 255 180 (-76) (oWd (K := 64) (r := 21) wi_m_readAny_64 (by decide +kernel)), rfl, rfl⟩
theorem dm_readAny_88 : dl tm_readAny 88 .aload_n .aload 0 89 := Or.inl ⟨0, o_42 (oW (K := 64) (r := 24) wi_m_readAny_64 (by decide +kernel)), rfl, rfl⟩
theorem dm_readAny_89 : dn tm_readAny 89 (.invokevirtual 272) 3 92 := ⟨o_182 1 16 272 (oWd (K := 64) (r := 25) wi_m_readAny_64 (by decide +kernel)), rfl⟩
theorem dm_readAny_92 : dn tm_readAny 92 (.iconst (-1)) 1 93 := ⟨o_2 (oW (K := 64) (r := 28) wi_m_readAny_64 (by decide +kernel)), rfl⟩
theorem dm_readAny_93 : db tm_readAny 93 (.if_icmp .ne) 98 96 := ⟨5, o_160 0 5 5 (oWd (K := 64) (r := 29) wi_m_readAny_64 (by decide +kernel)), rfl, rfl⟩
def wl_m_readAny_96 : List Nat := [2, 172, 42, 16, 9, 182, 1, 19, 3, 61, 167, 255, 159, 42, 8, 182, 1, 10, 153, 0, 24, 42, 16, 10, 182, 1, 19, 42, 16, 10, 182, 1, 13, 42, 182, 0, 244, 4]
theorem wi_m_readAny_96 : oC tm_readAny.2.1 96 wl_m_readAny_96 = true := by decide +kernel
theorem dm_readAny_96 : dn tm_readAny 96 (.iconst (-1)) 1 97 := ⟨o_2 (oW (K := 96) (r := 0) wi_m_readAny_96 (by decide +kernel)), rfl⟩
theorem dm_readAny_97 : dn tm_readAny 97 (.ireturn) 1 98 := ⟨o_172 (oW (K := 96) (r := 1) wi_m_readAny_96 (by decide +kernel)), rfl⟩
theorem dm_readAny_98 : dl tm_readAny 98 .aload_n .aload 0 99 := Or.inl ⟨0, o_42 (oW (K := 96) (r := 2) wi_m_readAny_96 (by decide +kernel)), rfl, rfl⟩
theorem dm_readAny_99 : dn tm_readAny 99 (.bipush 9) 2 101 := ⟨o_16 9 9 (oWd (K := 96) (r := 3) wi_m_readAny_96 (by decide +kernel)), rfl⟩
theorem dm_readAny_101 : dn tm_readAny 101 (.invokevirtual 275) 3 104 := ⟨o_182 1 19 275 (oWd (K := 96) (r := 5) wi_m_readAny_96 (by decide +kernel)), rfl⟩
theorem dm_readAny_104 : dn tm_readAny 104 (.iconst 0) 1 105 := ⟨o_3 (oW (K := 96) (r := 8) wi_m_readAny_96 (by decide +kernel)), rfl⟩
theorem dm_readAny_105 : dl tm_readAny 105 .istore_n .istore 2 106 := Or.inl ⟨2, o_61 (oW (K := 96) (r := 9) wi_m_readAny_96 (by decide +kernel)), rfl, rfl⟩
theorem dm_readAny_106 : db tm_readAny 106 .goto 9 109 := ⟨-97, o_167 255 159 (-97) (oWd (K := 96) (r := 10) wi_m_readAny_96 (by decide +kernel)), rfl, rfl⟩
theorem dm_readAny_109 : dl tm_readAny 109 .aload_n .aload 0 110 := Or.inl ⟨0, o_42 (oW (K := 96) (r := 13) wi_m_readAny_96 (by decide +kernel)), rfl, rfl⟩
theorem dm_readAny_110 : dn tm_readAny 110 (.iconst 5) 1 111 := ⟨o_8 (oW (K := 96) (r := 14) wi_m_readAny_96 (by decide +kernel)), rfl⟩
theorem dm_readAny_111 : dn tm_readAny 111 (.invokevirtual 266) 3 114 := ⟨o_182 1 10 266 (oWd (K := 96) (r := 15) wi_m_readAny_96 (by decide +kernel)), rfl⟩
theorem dm_readAny_114 : db tm_readAny 114 (.ifCond .eq) 138 117 := ⟨24, o_153 0 24 24 (oWd (K := 96) (r := 18) wi_m_readAny_96 (by decide +kernel)), rfl, rfl⟩
theorem dm_readAny_117 : dl tm_readAny 117 .aload_n .aload 0 118 := Or.inl ⟨0, o_42 (oW (K := 96) (r := 21) wi_m_readAny_96 (by decide +kernel)), rfl, rfl⟩
theorem dm_readAny_118 : dn tm_readAny 118 (.bipush 10) 2 120 := ⟨o_16 10 10 (oWd (K := 96) (r := 22) wi_m_readAny_96 (by decide +kernel)), rfl⟩
theorem dm_readAny_120 : dn tm_readAny 120 (.invokevirtual 275) 3 123 := ⟨o_182 1 19 275 (oWd (K := 96) (r := 24) wi_m_readAny_96 (by decide +kernel)), rfl⟩
theorem dm_readAny_123 : dl tm_readAny 123 .aload_n .aload 0 124 := Or.inl ⟨0, o_42 (oW (K := 96) (r := 27) wi_m_readAny_96 (by decide +kernel)), rfl, rfl⟩
theorem dm_readAny_124 : dn tm_readAny 124 (.bipush 10) 2 126 := ⟨o_16 10 10 (oWd (K := 96) (r := 28) wi_m_readAny_96 (by decide +kernel)), rfl⟩
theorem dm_readAny_126 : dn tm_readAny 126 (.invokevirtual 269) 3 129 := ⟨o_182 1 13 269 (oWd (K := 96) (r := 30) wi_m_readAny_96 (by decide +kernel)), rfl⟩
def wl_m_readAny_128 : List Nat := [13, 42, 182, 0, 244, 4, 61, 167, 255, 130, 42, 7, 182, 1, 10, 153, 0, 30, 42, 16, 10, 182, 1, 19, 42, 16, 11, 182, 1, 19, 42, 16, 11, 182, 1, 13, 42, 182]
theorem wi_m_readAny_128 : oC tm_readAny.2.1 128 wl_m_readAny_128 = true := by decide +kernel
theorem dm_readAny_129 : dl tm_readAny 129 .aload_n .aload 0 130 := Or.inl ⟨0, o_42 (oW (K := 128) (r := 1) wi_m_readAny_128 (by decide +kernel)), rfl, rfl⟩
theorem dm_readAny_130 : dn tm_readAny 130 (.invokevirtual 244) 3 133 := ⟨o_182 0 244 244 (oWd (K := 128) (r := 2) wi_m_readAny_128 (by decide +kernel)), rfl⟩
theorem dm_readAny_133 : dn tm_readAny 133 (.iconst 1) 1 134 := ⟨o_4 (oW (K := 128) (r := 5) wi_m_readAny_128 (by decide +kernel)), rfl⟩
theorem dm_readAny_134 : dl tm_readAny 134 .istore_n .istore 2 135 := Or.inl ⟨2, o_61 (oW (K := 128) (r := 6) wi_m_readAny_128 (by decide +kernel)), rfl, rfl⟩
theorem dm_readAny_135 : db tm_readAny 135 .goto 9 138 := ⟨-126, o_167 255 130 (-126) (oWd (K := 128) (r := 7) wi_m_readAny_128 (by decide +kernel)), rfl, rfl⟩
theorem dm_readAny_138 : dl tm_readAny 138 .aload_n .aload 0 139 := Or.inl ⟨0, o_42 (oW (K := 128) (r := 10) wi_m_readAny_128 (by decide +kernel)), rfl, rfl⟩
theorem dm_readAny_139 : dn tm_readAny 139 (.iconst 4) 1 140 := ⟨o_7 (oW (K := 128) (r := 11) wi_m_readAny_128 (by decide +kernel)), rfl⟩
theorem dm_readAny_140 : dn tm_readAny 140 (.invokevirtual 266) 3 143 := ⟨o_182 1 10 266 (oWd (K := 128) (r := 12) wi_m_readAny_128 (by decide +kernel)), rfl⟩
theorem dm_readAny_143 : db tm_readAny 143 (.ifCond .eq) 173 146 := ⟨30, o_153 0 30 30 (oWd (K := 128) (r := 15) wi_m_readAny_128 (by decide +kernel)), rfl, rfl⟩
theorem dm_readAny_146 : dl tm_readAny 146 .aload_n .aload 0 147 := Or.inl ⟨0, o_42 (oW (K := 128) (r := 18) wi_m_readAny_128 (by decide +kernel)), rfl, rfl⟩
theorem dm_readAny_147 : dn tm_readAny 147 (.bipush 10) 2 149 := ⟨o_16 10 10 (oWd (K := 128) (r := 19) wi_m_readAny_128 (by decide +kernel)), rfl⟩
theorem dm_readAny_149 : dn tm_readAny 149 (.invokevirtual 275) 3 152 := ⟨o_182 1 19 275 (oWd (K := 128) (r := 21) wi_m_readAny_128 (by decide +kernel)), rfl⟩
theorem dm_readAny_152 : dl tm_readAny 152 .aload_n .aload 0 153 := Or.inl ⟨0, o_42 (oW (K := 128) (r := 24) wi_m_readAny_128 (by decide +kernel)), rfl, rfl⟩
theorem dm_readAny_153 : dn tm_readAny 153 (.bipush 11) 2 155 := ⟨o_16 11 11 (oWd (K := 128) (r := 25) wi_m_readAny_128 (by decide +kernel)), rfl⟩
theorem dm_readAny_155 : dn tm_readAny 155 (.invokevirtual 275) 3 158 := ⟨o_182 1 19 275 (oWd (K := 128) (r := 27) wi_m_readAny_128 (by decide +kernel)), rfl⟩
theorem dm_readAny_158 : dl tm_readAny 158 .aload_n .aload 0 159 := Or.inl ⟨0, o_42 (oW (K := 128) (r := 30) wi_m_readAny_128 (by decide +kernel)), rfl, rfl⟩
theorem dm_readAny_159 : dn tm_readAny 159 (.bipush 11) 2 161 := ⟨o_16 11 11 (oWd (K := 128) (r := 31) wi_m_readAny_128 (by decide +kernel)), rfl⟩
def wl_m_readAny_160 : List Nat := [11, 182, 1, 13, 42, 182, 0, 244, 4, 61, 167, 255, 95, 42, 16, 10, 182, 1, 19, 42, 16, 11, 182, 1, 19, 27, 154, 0, 5, 3, 172, 42, 16, 41, 182, 0, 251, 154]
theorem wi_m_readAny_160 : oC tm_readAny.2.1 160 wl_m_readAny_160 = true := by decide +kernel
theorem dm_readAny_161 : dn tm_readAny 161 (.invokevirtual 269) 3 164 := ⟨o_182 1 13 269 (oWd (K := 160) (r := 1) wi_m_readAny_160 (by decide +kernel)), rfl⟩
theorem dm_readAny_164 : dl tm_readAny 164 .aload_n .aload 0 165 := Or.inl ⟨0, o_42 (oW (K := 160) (r := 4) wi_m_readAny_160 (by decide +kernel)), rfl, rfl⟩
theorem dm_readAny_165 : dn tm_readAny 165 (.invokevirtual 244) 3 168 := ⟨o_182 0 244 244 (oWd (K := 160) (r := 5) wi_m_readAny_160 (by decide +kernel)), rfl⟩
theorem dm_readAny_168 : dn tm_readAny 168 (.iconst 1) 1 169 := ⟨o_4 (oW (K := 160) (r := 8) wi_m_readAny_160 (by decide +kernel)), rfl⟩
theorem dm_readAny_169 : dl tm_readAny 169 .istore_n .istore 2 170 := Or.inl ⟨2, o_61 (oW (K := 160) (r := 9) wi_m_readAny_160 (by decide +kernel)), rfl, rfl⟩
theorem dm_readAny_170 : db tm_readAny 170 .goto 9 173 := ⟨-161, o_167 255 95 (-161) (oWd (K := 160) (r := 10) wi_m_readAny_160 (by decide +kernel)), rfl, rfl⟩
theorem dm_readAny_173 : dl tm_readAny 173 .aload_n .aload 0 174 := Or.inl ⟨0, o_42 (oW (K := 160) (r := 13) wi_m_readAny_160 (by decide +kernel)), rfl, rfl⟩
theorem dm_readAny_174 : dn tm_readAny 174 (.bipush 10) 2 176 := ⟨o_16 10 10 (oWd (K := 160) (r := 14) wi_m_readAny_160 (by decide +kernel)), rfl⟩
theorem dm_readAny_176 : dn tm_readAny 176 (.invokevirtual 275) 3 179 := ⟨o_182 1 19 275 (oWd (K := 160) (r := 16) wi_m_readAny_160 (by decide +kernel)), rfl⟩
theorem dm_readAny_179 : dl tm_readAny 179 .aload_n .aload 0 180 := Or.inl ⟨0, o_42 (oW (K := 160) (r := 19) wi_m_readAny_160 (by decide +kernel)), rfl, rfl⟩
theorem dm_readAny_180 : dn tm_readAny 180 (.bipush 11) 2 182 := ⟨o_16 11 11 (oWd (K := 160) (r := 20) wi_m_readAny_160 (by decide +kernel)), rfl⟩
theorem dm_readAny_182 : dn tm_readAny 182 (.invokevirtual 275) 3 185 := ⟨o_182 1 19 275 (oWd (K := 160) (r := 22) wi_m_readAny_160 (by decide +kernel)), rfl⟩
theorem dm_readAny_185 : dl tm_readAny 185 .iload_n .iload 1 186 := Or.inl ⟨1, o_27 (oW (K := 160) (r := 25) wi_m_readAny_160 (by decide +kernel)), rfl, rfl⟩
theorem dm_readAny_186 : db tm_readAny 186 (.ifCond .ne) 191 189 := ⟨5, o_154 0 5 5 (oWd (K := 160) (r := 26) wi_m_readAny_160 (by decide +kernel)), rfl, rfl⟩
theorem dm_readAny_189 : dn tm_readAny 189 (.iconst 0) 1 190 := ⟨o_3 (oW (K := 160) (r := 29) wi_m_readAny_160 (by decide +kernel)), rfl⟩
theorem dm_readAny_190 : dn tm_readAny 190 (.ireturn) 1 191 := ⟨o_172 (oW (K := 160) (r := 30) wi_m_readAny_160 (by decide +kernel)), rfl⟩
theorem dm_readAny_191 : dl tm_readAny 191 .aload_n .aload 0 192 := Or.inl ⟨0, o_42 (oW (K := 160) (r := 31) wi_m_readAny_160 (by decide +kernel)), rfl, rfl⟩
def wl_m_readAny_192 : List Nat := [16, 41, 182, 0, 251, 154, 0, 9, 42, 4, 182, 0, 237, 172, 42, 42, 180, 1, 4, 4, 100, 181, 1, 4, 27, 4, 100, 60, 42, 42, 180, 1, 7, 4, 100, 181, 1, 7]
theorem wi_m_readAny_192 : oC tm_readAny.2.1 192 wl_m_readAny_192 = true := by decide +kernel
theorem dm_readAny_192 : dn tm_readAny 192 (.bipush 41) 2 194 := ⟨o_16 41 41 (oWd (K := 192) (r := 0) wi_m_readAny_192 (by decide +kernel)), rfl⟩
theorem dm_readAny_194 : dn tm_readAny 194 (.invokevirtual 251) 3 197 := ⟨o_182 0 251 251 (oWd (K := 192) (r := 2) wi_m_readAny_192 (by decide +kernel)), rfl⟩
theorem dm_readAny_197 : db tm_readAny 197 (.ifCond .ne) 206 200 := ⟨9, o_154 0 9 9 (oWd (K := 192) (r := 5) wi_m_readAny_192 (by decide +kernel)), rfl, rfl⟩
theorem dm_readAny_200 : dl tm_readAny 200 .aload_n .aload 0 201 := Or.inl ⟨0, o_42 (oW (K := 192) (r := 8) wi_m_readAny_192 (by decide +kernel)), rfl, rfl⟩
theorem dm_readAny_201 : dn tm_readAny 201 (.iconst 1) 1 202 := ⟨o_4 (oW (K := 192) (r := 9) wi_m_readAny_192 (by decide +kernel)), rfl⟩
theorem dm_readAny_202 : dn tm_readAny 202 (.invokevirtual 237) 3 205 := ⟨o_182 0 237 237 (oWd (K := 192) (r := 10) wi_m_readAny_192 (by decide +kernel)), rfl⟩
theorem dm_readAny_205 : dn tm_readAny 205 (.ireturn) 1 206 := ⟨o_172 (oW (K := 192) (r := 13) wi_m_readAny_192 (by decide +kernel)), rfl⟩
theorem dm_readAny_206 : dl tm_readAny 206 .aload_n .aload 0 207 := Or.inl ⟨0, o_42 (oW (K := 192) (r := 14) wi_m_readAny_192 (by decide +kernel)), rfl, rfl⟩
theorem dm_readAny_207 : dl tm_readAny 207 .aload_n .aload 0 208 := Or.inl ⟨0, o_42 (oW (K := 192) (r := 15) wi_m_readAny_192 (by decide +kernel)), rfl, rfl⟩
theorem dm_readAny_208 : dn tm_readAny 208 (.getfield 260) 3 211 := ⟨o_180 1 4 260 (oWd (K := 192) (r := 16) wi_m_readAny_192 (by decide +kernel)), rfl⟩
theorem dm_readAny_211 : dn tm_readAny 211 (.iconst 1) 1 212 := ⟨o_4 (oW (K := 192) (r := 19) wi_m_readAny_192 (by decide +kernel)), rfl⟩
theorem dm_readAny_212 : dn tm_readAny 212 (.isub) 1 213 := ⟨o_100 (oW (K := 192) (r := 20) wi_m_readAny_192 (by decide +kernel)), rfl⟩
theorem dm_readAny_213 : dn tm_readAny 213 (.putfield 260) 3 216 := ⟨o_181 1 4 260 (oWd (K := 192) (r := 21) wi_m_readAny_192 (by decide +kernel)), rfl⟩
theorem dm_readAny_216 : dl tm_readAny 216 .iload_n .iload 1 217 := Or.inl ⟨1, o_27 (oW (K := 192) (r := 24) wi_m_readAny_192 (by decide +kernel)), rfl, rfl⟩
theorem dm_readAny_217 : dn tm_readAny 217 (.iconst 1) 1 218 := ⟨o_4 (oW (K := 192) (r := 25) wi_m_readAny_192 (by decide +kernel)), rfl⟩
theorem dm_readAny_218 : dn tm_readAny 218 (.isub) 1 219 := ⟨o_100 (oW (K := 192) (r := 26) wi_m_readAny_192 (by decide +kernel)), rfl⟩
theorem dm_readAny_219 : dl tm_readAny 219 .istore_n .istore 1 220 := Or.inl ⟨1, o_60 (oW (K := 192) (r := 27) wi_m_readAny_192 (by decide +kernel)), rfl, rfl⟩
theorem dm_readAny_220 : dl tm_readAny 220 .aload_n .aload 0 221 := Or.inl ⟨0, o_42 (oW (K := 192) (r := 28) wi_m_readAny_192 (by decide +kernel)), rfl, rfl⟩
theorem dm_readAny_221 : dl tm_readAny 221 .aload_n .aload 0 222 := Or.inl ⟨0, o_42 (oW (K := 192) (r := 29) wi_m_readAny_192 (by decide +kernel)), rfl, rfl⟩
theorem dm_readAny_222 : dn tm_readAny 222 (.getfield 263) 3 225 := ⟨o_180 1 7 263 (oWd (K := 192) (r := 30) wi_m_readAny_192 (by decide +kernel)), rfl⟩
def wl_m_readAny_224 : List Nat := [7, 4, 100, 181, 1, 7, 42, 16, 9, 182, 1, 19, 42, 182, 0, 244, 167, 255, 25]
theorem wi_m_readAny_224 : oC tm_readAny.2.1 224 wl_m_readAny_224 = true := by decide +kernel
theorem dm_readAny_225 : dn tm_readAny 225 (.iconst 1) 1 226 := ⟨o_4 (oW (K := 224) (r := 1) wi_m_readAny_224 (by decide +kernel)), rfl⟩
theorem dm_readAny_226 : dn tm_readAny 226 (.isub) 1 227 := ⟨o_100 (oW (K := 224) (r := 2) wi_m_readAny_224 (by decide +kernel)), rfl⟩
theorem dm_readAny_227 : dn tm_readAny 227 (.putfield 263) 3 230 := ⟨o_181 1 7 263 (oWd (K := 224) (r := 3) wi_m_readAny_224 (by decide +kernel)), rfl⟩
theorem dm_readAny_230 : dl tm_readAny 230 .aload_n .aload 0 231 := Or.inl ⟨0, o_42 (oW (K := 224) (r := 6) wi_m_readAny_224 (by decide +kernel)), rfl, rfl⟩
theorem dm_readAny_231 : dn tm_readAny 231 (.bipush 9) 2 233 := ⟨o_16 9 9 (oWd (K := 224) (r := 7) wi_m_readAny_224 (by decide +kernel)), rfl⟩
theorem dm_readAny_233 : dn tm_readAny 233 (.invokevirtual 275) 3 236 := ⟨o_182 1 19 275 (oWd (K := 224) (r := 9) wi_m_readAny_224 (by decide +kernel)), rfl⟩
theorem dm_readAny_236 : dl tm_readAny 236 .aload_n .aload 0 237 := Or.inl ⟨0, o_42 (oW (K := 224) (r := 12) wi_m_readAny_224 (by decide +kernel)), rfl, rfl⟩
theorem dm_readAny_237 : dn tm_readAny 237 (.invokevirtual 244) 3 240 := ⟨o_182 0 244 244 (oWd (K := 224) (r := 13) wi_m_readAny_224 (by decide +kernel)), rfl⟩
theorem dm_readAny_240 : db tm_readAny 240 .goto 9 243 := ⟨-231, o_167 255 25 (-231) (oWd (K := 224) (r := 16) wi_m_readAny_224 (by decide +kernel)), rfl, rfl⟩
def wl_m_isLineWord_0 : List Nat := [42, 180, 0, 207, 5, 160, 0, 20, 42, 42, 180, 0, 210, 3, 5, 182, 0, 177, 153, 0, 7, 4, 167, 0, 4, 3, 172]
theorem wi_m_isLineWord_0 : oC tm_isLineWord.2.1 0 wl_m_isLineWord_0 = true := by decide +kernel
theorem dm_isLineWord_0 : dl tm_isLineWord 0 .aload_n .aload 0 1 := Or.inl ⟨0, o_42 (oW (K := 0) (r := 0) wi_m_isLineWord_0 (by decide +kernel)), rfl, rfl⟩
theorem dm_isLineWord_1 : dn tm_isLineWord 1 (.getfield 207) 3 4 := ⟨o_180 0 207 207 (oWd (K := 0) (r := 1) wi_m_isLineWord_0 (by decide +kernel)), rfl⟩
theorem dm_isLineWord_4 : dn tm_isLineWord 4 (.iconst 2) 1 5 := ⟨o_5 (oW (K := 0) (r := 4) wi_m_isLineWord_0 (by decide +kernel)), rfl⟩
theorem dm_isLineWord_5 : db tm_isLineWord 5 (.if_icmp .ne) 25 8 := ⟨20, o_160 0 20 20 (oWd (K := 0) (r := 5) wi_m_isLineWord_0 (by decide +kernel)), rfl, rfl⟩
theorem dm_isLineWord_8 : dl tm_isLineWord 8 .aload_n .aload 0 9 := Or.inl ⟨0, o_42 (oW (K := 0) (r := 8) wi_m_isLineWord_0 (by decide +kernel)), rfl, rfl⟩
theorem dm_isLineWord_9 : dl tm_isLineWord 9 .aload_n .aload 0 10 := Or.inl ⟨0, o_42 (oW (K := 0) (r := 9) wi_m_isLineWord_0 (by decide +kernel)), rfl, rfl⟩
theorem dm_isLineWord_10 : dn tm_isLineWord 10 (.getfield 210) 3 13 := ⟨o_180 0 210 210 (oWd (K := 0) (r := 10) wi_m_isLineWord_0 (by decide +kernel)), rfl⟩
theorem dm_isLineWord_13 : dn tm_isLineWord 13 (.iconst 0) 1 14 := ⟨o_3 (oW (K := 0) (r := 13) wi_m_isLineWord_0 (by decide +kernel)), rfl⟩
theorem dm_isLineWord_14 : dn tm_isLineWord 14 (.iconst 2) 1 15 := ⟨o_5 (oW (K := 0) (r := 14) wi_m_isLineWord_0 (by decide +kernel)), rfl⟩
theorem dm_isLineWord_15 : dn tm_isLineWord 15 (.invokevirtual 177) 3 18 := ⟨o_182 0 177 177 (oWd (K := 0) (r := 15) wi_m_isLineWord_0 (by decide +kernel)), rfl⟩
theorem dm_isLineWord_18 : db tm_isLineWord 18 (.ifCond .eq) 25 21 := ⟨7, o_153 0 7 7 (oWd (K := 0) (r := 18) wi_m_isLineWord_0 (by decide +kernel)), rfl, rfl⟩
theorem dm_isLineWord_21 : dn tm_isLineWord 21 (.iconst 1) 1 22 := ⟨o_4 (oW (K := 0) (r := 21) wi_m_isLineWord_0 (by decide +kernel)), rfl⟩
theorem dm_isLineWord_22 : db tm_isLineWord 22 .goto 26 25 := ⟨4, o_167 0 4 4 (oWd (K := 0) (r := 22) wi_m_isLineWord_0 (by decide +kernel)), rfl, rfl⟩
theorem dm_isLineWord_25 : dn tm_isLineWord 25 (.iconst 0) 1 26 := ⟨o_3 (oW (K := 0) (r := 25) wi_m_isLineWord_0 (by decide +kernel)), rfl⟩
theorem dm_isLineWord_26 : dn tm_isLineWord 26 (.ireturn) 1 27 := ⟨o_172 (oW (K := 0) (r := 26) wi_m_isLineWord_0 (by decide +kernel)), rfl⟩
def wl_m_readLaw_0 : List Nat := [3, 60, 42, 182, 1, 22, 153, 0, 122, 27, 16, 16, 160, 0, 9, 42, 6, 182, 0, 237, 172, 16, 32, 27, 96, 61, 42, 180, 0, 37, 28, 42, 180, 0, 210, 79, 42, 182]
theorem wi_m_readLaw_0 : oC tm_readLaw.2.1 0 wl_m_readLaw_0 = true := by decide +kernel
theorem dm_readLaw_0 : dn tm_readLaw 0 (.iconst 0) 1 1 := ⟨o_3 (oW (K := 0) (r := 0) wi_m_readLaw_0 (by decide +kernel)), rfl⟩
theorem dm_readLaw_1 : dl tm_readLaw 1 .istore_n .istore 1 2 := Or.inl ⟨1, o_60 (oW (K := 0) (r := 1) wi_m_readLaw_0 (by decide +kernel)), rfl, rfl⟩
theorem dm_readLaw_2 : dl tm_readLaw 2 .aload_n .aload 0 3 := Or.inl ⟨0, o_42 (oW (K := 0) (r := 2) wi_m_readLaw_0 (by decide +kernel)), rfl, rfl⟩
theorem dm_readLaw_3 : dn tm_readLaw 3 (.invokevirtual 278) 3 6 := ⟨o_182 1 22 278 (oWd (K := 0) (r := 3) wi_m_readLaw_0 (by decide +kernel)), rfl⟩
theorem dm_readLaw_6 : db tm_readLaw 6 (.ifCond .eq) 128 9 := ⟨122, o_153 0 122 122 (oWd (K := 0) (r := 6) wi_m_readLaw_0 (by decide +kernel)), rfl, rfl⟩
theorem dm_readLaw_9 : dl tm_readLaw 9 .iload_n .iload 1 10 := Or.inl ⟨1, o_27 (oW (K := 0) (r := 9) wi_m_readLaw_0 (by decide +kernel)), rfl, rfl⟩
theorem dm_readLaw_10 : dn tm_readLaw 10 (.bipush 16) 2 12 := ⟨o_16 16 16 (oWd (K := 0) (r := 10) wi_m_readLaw_0 (by decide +kernel)), rfl⟩
theorem dm_readLaw_12 : db tm_readLaw 12 (.if_icmp .ne) 21 15 := ⟨9, o_160 0 9 9 (oWd (K := 0) (r := 12) wi_m_readLaw_0 (by decide +kernel)), rfl, rfl⟩
theorem dm_readLaw_15 : dl tm_readLaw 15 .aload_n .aload 0 16 := Or.inl ⟨0, o_42 (oW (K := 0) (r := 15) wi_m_readLaw_0 (by decide +kernel)), rfl, rfl⟩
theorem dm_readLaw_16 : dn tm_readLaw 16 (.iconst 3) 1 17 := ⟨o_6 (oW (K := 0) (r := 16) wi_m_readLaw_0 (by decide +kernel)), rfl⟩
theorem dm_readLaw_17 : dn tm_readLaw 17 (.invokevirtual 237) 3 20 := ⟨o_182 0 237 237 (oWd (K := 0) (r := 17) wi_m_readLaw_0 (by decide +kernel)), rfl⟩
theorem dm_readLaw_20 : dn tm_readLaw 20 (.ireturn) 1 21 := ⟨o_172 (oW (K := 0) (r := 20) wi_m_readLaw_0 (by decide +kernel)), rfl⟩
theorem dm_readLaw_21 : dn tm_readLaw 21 (.bipush 32) 2 23 := ⟨o_16 32 32 (oWd (K := 0) (r := 21) wi_m_readLaw_0 (by decide +kernel)), rfl⟩
theorem dm_readLaw_23 : dl tm_readLaw 23 .iload_n .iload 1 24 := Or.inl ⟨1, o_27 (oW (K := 0) (r := 23) wi_m_readLaw_0 (by decide +kernel)), rfl, rfl⟩
theorem dm_readLaw_24 : dn tm_readLaw 24 (.iadd) 1 25 := ⟨o_96 (oW (K := 0) (r := 24) wi_m_readLaw_0 (by decide +kernel)), rfl⟩
theorem dm_readLaw_25 : dl tm_readLaw 25 .istore_n .istore 2 26 := Or.inl ⟨2, o_61 (oW (K := 0) (r := 25) wi_m_readLaw_0 (by decide +kernel)), rfl, rfl⟩
theorem dm_readLaw_26 : dl tm_readLaw 26 .aload_n .aload 0 27 := Or.inl ⟨0, o_42 (oW (K := 0) (r := 26) wi_m_readLaw_0 (by decide +kernel)), rfl, rfl⟩
theorem dm_readLaw_27 : dn tm_readLaw 27 (.getfield 37) 3 30 := ⟨o_180 0 37 37 (oWd (K := 0) (r := 27) wi_m_readLaw_0 (by decide +kernel)), rfl⟩
theorem dm_readLaw_30 : dl tm_readLaw 30 .iload_n .iload 2 31 := Or.inl ⟨2, o_28 (oW (K := 0) (r := 30) wi_m_readLaw_0 (by decide +kernel)), rfl, rfl⟩
theorem dm_readLaw_31 : dl tm_readLaw 31 .aload_n .aload 0 32 := Or.inl ⟨0, o_42 (oW (K := 0) (r := 31) wi_m_readLaw_0 (by decide +kernel)), rfl, rfl⟩
def wl_m_readLaw_32 : List Nat := [180, 0, 210, 79, 42, 182, 0, 244, 42, 180, 0, 40, 28, 42, 180, 0, 231, 79, 42, 182, 1, 1, 2, 160, 0, 5, 2, 172, 42, 180, 0, 43, 28, 42, 180, 0, 231, 79]
theorem wi_m_readLaw_32 : oC tm_readLaw.2.1 32 wl_m_readLaw_32 = true := by decide +kernel
theorem dm_readLaw_32 : dn tm_readLaw 32 (.getfield 210) 3 35 := ⟨o_180 0 210 210 (oWd (K := 32) (r := 0) wi_m_readLaw_32 (by decide +kernel)), rfl⟩
theorem dm_readLaw_35 : dn tm_readLaw 35 (.iastore) 1 36 := ⟨o_79 (oW (K := 32) (r := 3) wi_m_readLaw_32 (by decide +kernel)), rfl⟩
theorem dm_readLaw_36 : dl tm_readLaw 36 .aload_n .aload 0 37 := Or.inl ⟨0, o_42 (oW (K := 32) (r := 4) wi_m_readLaw_32 (by decide +kernel)), rfl, rfl⟩
theorem dm_readLaw_37 : dn tm_readLaw 37 (.invokevirtual 244) 3 40 := ⟨o_182 0 244 244 (oWd (K := 32) (r := 5) wi_m_readLaw_32 (by decide +kernel)), rfl⟩
theorem dm_readLaw_40 : dl tm_readLaw 40 .aload_n .aload 0 41 := Or.inl ⟨0, o_42 (oW (K := 32) (r := 8) wi_m_readLaw_32 (by decide +kernel)), rfl, rfl⟩
theorem dm_readLaw_41 : dn tm_readLaw 41 (.getfield 40) 3 44 := ⟨o_180 0 40 40 (oWd (K := 32) (r := 9) wi_m_readLaw_32 (by decide +kernel)), rfl⟩
theorem dm_readLaw_44 : dl tm_readLaw 44 .iload_n .iload 2 45 := Or.inl ⟨2, o_28 (oW (K := 32) (r := 12) wi_m_readLaw_32 (by decide +kernel)), rfl, rfl⟩
theorem dm_readLaw_45 : dl tm_readLaw 45 .aload_n .aload 0 46 := Or.inl ⟨0, o_42 (oW (K := 32) (r := 13) wi_m_readLaw_32 (by decide +kernel)), rfl, rfl⟩
theorem dm_readLaw_46 : dn tm_readLaw 46 (.getfield 231) 3 49 := ⟨o_180 0 231 231 (oWd (K := 32) (r := 14) wi_m_readLaw_32 (by decide +kernel)), rfl⟩
theorem dm_readLaw_49 : dn tm_readLaw 49 (.iastore) 1 50 := ⟨o_79 (oW (K := 32) (r := 17) wi_m_readLaw_32 (by decide +kernel)), rfl⟩
theorem dm_readLaw_50 : dl tm_readLaw 50 .aload_n .aload 0 51 := Or.inl ⟨0, o_42 (oW (K := 32) (r := 18) wi_m_readLaw_32 (by decide +kernel)), rfl, rfl⟩
theorem dm_readLaw_51 : dn tm_readLaw 51 (.invokevirtual 257) 3 54 := ⟨o_182 1 1 257 (oWd (K := 32) (r := 19) wi_m_readLaw_32 (by decide +kernel)), rfl⟩
theorem dm_readLaw_54 : dn tm_readLaw 54 (.iconst (-1)) 1 55 := ⟨o_2 (oW (K := 32) (r := 22) wi_m_readLaw_32 (by decide +kernel)), rfl⟩
theorem dm_readLaw_55 : db tm_readLaw 55 (.if_icmp .ne) 60 58 := ⟨5, o_160 0 5 5 (oWd (K := 32) (r := 23) wi_m_readLaw_32 (by decide +kernel)), rfl, rfl⟩
theorem dm_readLaw_58 : dn tm_readLaw 58 (.iconst (-1)) 1 59 := ⟨o_2 (oW (K := 32) (r := 26) wi_m_readLaw_32 (by decide +kernel)), rfl⟩
theorem dm_readLaw_59 : dn tm_readLaw 59 (.ireturn) 1 60 := ⟨o_172 (oW (K := 32) (r := 27) wi_m_readLaw_32 (by decide +kernel)), rfl⟩
theorem dm_readLaw_60 : dl tm_readLaw 60 .aload_n .aload 0 61 := Or.inl ⟨0, o_42 (oW (K := 32) (r := 28) wi_m_readLaw_32 (by decide +kernel)), rfl, rfl⟩
theorem dm_readLaw_61 : dn tm_readLaw 61 (.getfield 43) 3 64 := ⟨o_180 0 43 43 (oWd (K := 32) (r := 29) wi_m_readLaw_32 (by decide +kernel)), rfl⟩
def wl_m_readLaw_64 : List Nat := [28, 42, 180, 0, 231, 79, 42, 6, 182, 1, 10, 153, 0, 17, 42, 182, 0, 244, 42, 182, 1, 26, 2, 160, 0, 5, 2, 172, 42, 180, 0, 46, 28, 42, 180, 0, 231, 79]
theorem wi_m_readLaw_64 : oC tm_readLaw.2.1 64 wl_m_readLaw_64 = true := by decide +kernel
theorem dm_readLaw_64 : dl tm_readLaw 64 .iload_n .iload 2 65 := Or.inl ⟨2, o_28 (oW (K := 64) (r := 0) wi_m_readLaw_64 (by decide +kernel)), rfl, rfl⟩
theorem dm_readLaw_65 : dl tm_readLaw 65 .aload_n .aload 0 66 := Or.inl ⟨0, o_42 (oW (K := 64) (r := 1) wi_m_readLaw_64 (by decide +kernel)), rfl, rfl⟩
theorem dm_readLaw_66 : dn tm_readLaw 66 (.getfield 231) 3 69 := ⟨o_180 0 231 231 (oWd (K := 64) (r := 2) wi_m_readLaw_64 (by decide +kernel)), rfl⟩
theorem dm_readLaw_69 : dn tm_readLaw 69 (.iastore) 1 70 := ⟨o_79 (oW (K := 64) (r := 5) wi_m_readLaw_64 (by decide +kernel)), rfl⟩
theorem dm_readLaw_70 : dl tm_readLaw 70 .aload_n .aload 0 71 := Or.inl ⟨0, o_42 (oW (K := 64) (r := 6) wi_m_readLaw_64 (by decide +kernel)), rfl, rfl⟩
theorem dm_readLaw_71 : dn tm_readLaw 71 (.iconst 3) 1 72 := ⟨o_6 (oW (K := 64) (r := 7) wi_m_readLaw_64 (by decide +kernel)), rfl⟩
theorem dm_readLaw_72 : dn tm_readLaw 72 (.invokevirtual 266) 3 75 := ⟨o_182 1 10 266 (oWd (K := 64) (r := 8) wi_m_readLaw_64 (by decide +kernel)), rfl⟩
theorem dm_readLaw_75 : db tm_readLaw 75 (.ifCond .eq) 92 78 := ⟨17, o_153 0 17 17 (oWd (K := 64) (r := 11) wi_m_readLaw_64 (by decide +kernel)), rfl, rfl⟩
theorem dm_readLaw_78 : dl tm_readLaw 78 .aload_n .aload 0 79 := Or.inl ⟨0, o_42 (oW (K := 64) (r := 14) wi_m_readLaw_64 (by decide +kernel)), rfl, rfl⟩
theorem dm_readLaw_79 : dn tm_readLaw 79 (.invokevirtual 244) 3 82 := ⟨o_182 0 244 244 (oWd (K := 64) (r := 15) wi_m_readLaw_64 (by decide +kernel)), rfl⟩
theorem dm_readLaw_82 : dl tm_readLaw 82 .aload_n .aload 0 83 := Or.inl ⟨0, o_42 (oW (K := 64) (r := 18) wi_m_readLaw_64 (by decide +kernel)), rfl, rfl⟩
theorem dm_readLaw_83 : dn tm_readLaw 83 (.invokevirtual 282) 3 86 := ⟨o_182 1 26 282 (oWd (K := 64) (r := 19) wi_m_readLaw_64 (by decide +kernel)), rfl⟩
theorem dm_readLaw_86 : dn tm_readLaw 86 (.iconst (-1)) 1 87 := ⟨o_2 (oW (K := 64) (r := 22) wi_m_readLaw_64 (by decide +kernel)), rfl⟩
theorem dm_readLaw_87 : db tm_readLaw 87 (.if_icmp .ne) 92 90 := ⟨5, o_160 0 5 5 (oWd (K := 64) (r := 23) wi_m_readLaw_64 (by decide +kernel)), rfl, rfl⟩
theorem dm_readLaw_90 : dn tm_readLaw 90 (.iconst (-1)) 1 91 := ⟨o_2 (oW (K := 64) (r := 26) wi_m_readLaw_64 (by decide +kernel)), rfl⟩
theorem dm_readLaw_91 : dn tm_readLaw 91 (.ireturn) 1 92 := ⟨o_172 (oW (K := 64) (r := 27) wi_m_readLaw_64 (by decide +kernel)), rfl⟩
theorem dm_readLaw_92 : dl tm_readLaw 92 .aload_n .aload 0 93 := Or.inl ⟨0, o_42 (oW (K := 64) (r := 28) wi_m_readLaw_64 (by decide +kernel)), rfl, rfl⟩
theorem dm_readLaw_93 : dn tm_readLaw 93 (.getfield 46) 3 96 := ⟨o_180 0 46 46 (oWd (K := 64) (r := 29) wi_m_readLaw_64 (by decide +kernel)), rfl⟩
def wl_m_readLaw_96 : List Nat := [28, 42, 180, 0, 231, 79, 42, 16, 59, 182, 0, 251, 154, 0, 9, 42, 4, 182, 0, 237, 172, 42, 182, 0, 244, 27, 4, 96, 60, 167, 255, 133, 42, 180, 0, 207, 154, 0]
theorem wi_m_readLaw_96 : oC tm_readLaw.2.1 96 wl_m_readLaw_96 = true := by decide +kernel
theorem dm_readLaw_96 : dl tm_readLaw 96 .iload_n .iload 2 97 := Or.inl ⟨2, o_28 (oW (K := 96) (r := 0) wi_m_readLaw_96 (by decide +kernel)), rfl, rfl⟩
theorem dm_readLaw_97 : dl tm_readLaw 97 .aload_n .aload 0 98 := Or.inl ⟨0, o_42 (oW (K := 96) (r := 1) wi_m_readLaw_96 (by decide +kernel)), rfl, rfl⟩
theorem dm_readLaw_98 : dn tm_readLaw 98 (.getfield 231) 3 101 := ⟨o_180 0 231 231 (oWd (K := 96) (r := 2) wi_m_readLaw_96 (by decide +kernel)), rfl⟩
theorem dm_readLaw_101 : dn tm_readLaw 101 (.iastore) 1 102 := ⟨o_79 (oW (K := 96) (r := 5) wi_m_readLaw_96 (by decide +kernel)), rfl⟩
theorem dm_readLaw_102 : dl tm_readLaw 102 .aload_n .aload 0 103 := Or.inl ⟨0, o_42 (oW (K := 96) (r := 6) wi_m_readLaw_96 (by decide +kernel)), rfl, rfl⟩
theorem dm_readLaw_103 : dn tm_readLaw 103 (.bipush 59) 2 105 := ⟨o_16 59 59 (oWd (K := 96) (r := 7) wi_m_readLaw_96 (by decide +kernel)), rfl⟩
theorem dm_readLaw_105 : dn tm_readLaw 105 (.invokevirtual 251) 3 108 := ⟨o_182 0 251 251 (oWd (K := 96) (r := 9) wi_m_readLaw_96 (by decide +kernel)), rfl⟩
theorem dm_readLaw_108 : db tm_readLaw 108 (.ifCond .ne) 117 111 := ⟨9, o_154 0 9 9 (oWd (K := 96) (r := 12) wi_m_readLaw_96 (by decide +kernel)), rfl, rfl⟩
theorem dm_readLaw_111 : dl tm_readLaw 111 .aload_n .aload 0 112 := Or.inl ⟨0, o_42 (oW (K := 96) (r := 15) wi_m_readLaw_96 (by decide +kernel)), rfl, rfl⟩
theorem dm_readLaw_112 : dn tm_readLaw 112 (.iconst 1) 1 113 := ⟨o_4 (oW (K := 96) (r := 16) wi_m_readLaw_96 (by decide +kernel)), rfl⟩
theorem dm_readLaw_113 : dn tm_readLaw 113 (.invokevirtual 237) 3 116 := ⟨o_182 0 237 237 (oWd (K := 96) (r := 17) wi_m_readLaw_96 (by decide +kernel)), rfl⟩
theorem dm_readLaw_116 : dn tm_readLaw 116 (.ireturn) 1 117 := ⟨o_172 (oW (K := 96) (r := 20) wi_m_readLaw_96 (by decide +kernel)), rfl⟩
theorem dm_readLaw_117 : dl tm_readLaw 117 .aload_n .aload 0 118 := Or.inl ⟨0, o_42 (oW (K := 96) (r := 21) wi_m_readLaw_96 (by decide +kernel)), rfl, rfl⟩
theorem dm_readLaw_118 : dn tm_readLaw 118 (.invokevirtual 244) 3 121 := ⟨o_182 0 244 244 (oWd (K := 96) (r := 22) wi_m_readLaw_96 (by decide +kernel)), rfl⟩
theorem dm_readLaw_121 : dl tm_readLaw 121 .iload_n .iload 1 122 := Or.inl ⟨1, o_27 (oW (K := 96) (r := 25) wi_m_readLaw_96 (by decide +kernel)), rfl, rfl⟩
theorem dm_readLaw_122 : dn tm_readLaw 122 (.iconst 1) 1 123 := ⟨o_4 (oW (K := 96) (r := 26) wi_m_readLaw_96 (by decide +kernel)), rfl⟩
theorem dm_readLaw_123 : dn tm_readLaw 123 (.iadd) 1 124 := ⟨o_96 (oW (K := 96) (r := 27) wi_m_readLaw_96 (by decide +kernel)), rfl⟩
theorem dm_readLaw_124 : dl tm_readLaw 124 .istore_n .istore 1 125 := Or.inl ⟨1, o_60 (oW (K := 96) (r := 28) wi_m_readLaw_96 (by decide +kernel)), rfl, rfl⟩
theorem dm_readLaw_125 : db tm_readLaw 125 .goto 2 128 := ⟨-123, o_167 255 133 (-123) (oWd (K := 96) (r := 29) wi_m_readLaw_96 (by decide +kernel)), rfl, rfl⟩
def wl_m_readLaw_128 : List Nat := [42, 180, 0, 207, 154, 0, 7, 27, 167, 0, 8, 42, 4, 182, 0, 237, 172]
theorem wi_m_readLaw_128 : oC tm_readLaw.2.1 128 wl_m_readLaw_128 = true := by decide +kernel
theorem dm_readLaw_128 : dl tm_readLaw 128 .aload_n .aload 0 129 := Or.inl ⟨0, o_42 (oW (K := 128) (r := 0) wi_m_readLaw_128 (by decide +kernel)), rfl, rfl⟩
theorem dm_readLaw_129 : dn tm_readLaw 129 (.getfield 207) 3 132 := ⟨o_180 0 207 207 (oWd (K := 128) (r := 1) wi_m_readLaw_128 (by decide +kernel)), rfl⟩
theorem dm_readLaw_132 : db tm_readLaw 132 (.ifCond .ne) 139 135 := ⟨7, o_154 0 7 7 (oWd (K := 128) (r := 4) wi_m_readLaw_128 (by decide +kernel)), rfl, rfl⟩
theorem dm_readLaw_135 : dl tm_readLaw 135 .iload_n .iload 1 136 := Or.inl ⟨1, o_27 (oW (K := 128) (r := 7) wi_m_readLaw_128 (by decide +kernel)), rfl, rfl⟩
theorem dm_readLaw_136 : db tm_readLaw 136 .goto 144 139 := ⟨8, o_167 0 8 8 (oWd (K := 128) (r := 8) wi_m_readLaw_128 (by decide +kernel)), rfl, rfl⟩
theorem dm_readLaw_139 : dl tm_readLaw 139 .aload_n .aload 0 140 := Or.inl ⟨0, o_42 (oW (K := 128) (r := 11) wi_m_readLaw_128 (by decide +kernel)), rfl, rfl⟩
theorem dm_readLaw_140 : dn tm_readLaw 140 (.iconst 1) 1 141 := ⟨o_4 (oW (K := 128) (r := 12) wi_m_readLaw_128 (by decide +kernel)), rfl⟩
theorem dm_readLaw_141 : dn tm_readLaw 141 (.invokevirtual 237) 3 144 := ⟨o_182 0 237 237 (oWd (K := 128) (r := 13) wi_m_readLaw_128 (by decide +kernel)), rfl⟩
theorem dm_readLaw_144 : dn tm_readLaw 144 (.ireturn) 1 145 := ⟨o_172 (oW (K := 128) (r := 16) wi_m_readLaw_128 (by decide +kernel)), rfl⟩
def wl_m_takesLaw_0 : List Nat := [3, 61, 28, 27, 162, 0, 101, 42, 180, 0, 37, 16, 16, 42, 180, 1, 29, 104, 28, 96, 42, 180, 0, 37, 16, 32, 28, 96, 46, 79, 42, 180, 0, 40, 16, 16, 42, 180]
theorem wi_m_takesLaw_0 : oC tm_takesLaw.2.1 0 wl_m_takesLaw_0 = true := by decide +kernel
theorem dm_takesLaw_0 : dn tm_takesLaw 0 (.iconst 0) 1 1 := ⟨o_3 (oW (K := 0) (r := 0) wi_m_takesLaw_0 (by decide +kernel)), rfl⟩
theorem dm_takesLaw_1 : dl tm_takesLaw 1 .istore_n .istore 2 2 := Or.inl ⟨2, o_61 (oW (K := 0) (r := 1) wi_m_takesLaw_0 (by decide +kernel)), rfl, rfl⟩
theorem dm_takesLaw_2 : dl tm_takesLaw 2 .iload_n .iload 2 3 := Or.inl ⟨2, o_28 (oW (K := 0) (r := 2) wi_m_takesLaw_0 (by decide +kernel)), rfl, rfl⟩
theorem dm_takesLaw_3 : dl tm_takesLaw 3 .iload_n .iload 1 4 := Or.inl ⟨1, o_27 (oW (K := 0) (r := 3) wi_m_takesLaw_0 (by decide +kernel)), rfl, rfl⟩
theorem dm_takesLaw_4 : db tm_takesLaw 4 (.if_icmp .ge) 105 7 := ⟨101, o_162 0 101 101 (oWd (K := 0) (r := 4) wi_m_takesLaw_0 (by decide +kernel)), rfl, rfl⟩
theorem dm_takesLaw_7 : dl tm_takesLaw 7 .aload_n .aload 0 8 := Or.inl ⟨0, o_42 (oW (K := 0) (r := 7) wi_m_takesLaw_0 (by decide +kernel)), rfl, rfl⟩
theorem dm_takesLaw_8 : dn tm_takesLaw 8 (.getfield 37) 3 11 := ⟨o_180 0 37 37 (oWd (K := 0) (r := 8) wi_m_takesLaw_0 (by decide +kernel)), rfl⟩
theorem dm_takesLaw_11 : dn tm_takesLaw 11 (.bipush 16) 2 13 := ⟨o_16 16 16 (oWd (K := 0) (r := 11) wi_m_takesLaw_0 (by decide +kernel)), rfl⟩
theorem dm_takesLaw_13 : dl tm_takesLaw 13 .aload_n .aload 0 14 := Or.inl ⟨0, o_42 (oW (K := 0) (r := 13) wi_m_takesLaw_0 (by decide +kernel)), rfl, rfl⟩
theorem dm_takesLaw_14 : dn tm_takesLaw 14 (.getfield 285) 3 17 := ⟨o_180 1 29 285 (oWd (K := 0) (r := 14) wi_m_takesLaw_0 (by decide +kernel)), rfl⟩
theorem dm_takesLaw_17 : dn tm_takesLaw 17 (.imul) 1 18 := ⟨o_104 (oW (K := 0) (r := 17) wi_m_takesLaw_0 (by decide +kernel)), rfl⟩
theorem dm_takesLaw_18 : dl tm_takesLaw 18 .iload_n .iload 2 19 := Or.inl ⟨2, o_28 (oW (K := 0) (r := 18) wi_m_takesLaw_0 (by decide +kernel)), rfl, rfl⟩
theorem dm_takesLaw_19 : dn tm_takesLaw 19 (.iadd) 1 20 := ⟨o_96 (oW (K := 0) (r := 19) wi_m_takesLaw_0 (by decide +kernel)), rfl⟩
theorem dm_takesLaw_20 : dl tm_takesLaw 20 .aload_n .aload 0 21 := Or.inl ⟨0, o_42 (oW (K := 0) (r := 20) wi_m_takesLaw_0 (by decide +kernel)), rfl, rfl⟩
theorem dm_takesLaw_21 : dn tm_takesLaw 21 (.getfield 37) 3 24 := ⟨o_180 0 37 37 (oWd (K := 0) (r := 21) wi_m_takesLaw_0 (by decide +kernel)), rfl⟩
theorem dm_takesLaw_24 : dn tm_takesLaw 24 (.bipush 32) 2 26 := ⟨o_16 32 32 (oWd (K := 0) (r := 24) wi_m_takesLaw_0 (by decide +kernel)), rfl⟩
theorem dm_takesLaw_26 : dl tm_takesLaw 26 .iload_n .iload 2 27 := Or.inl ⟨2, o_28 (oW (K := 0) (r := 26) wi_m_takesLaw_0 (by decide +kernel)), rfl, rfl⟩
theorem dm_takesLaw_27 : dn tm_takesLaw 27 (.iadd) 1 28 := ⟨o_96 (oW (K := 0) (r := 27) wi_m_takesLaw_0 (by decide +kernel)), rfl⟩
theorem dm_takesLaw_28 : dn tm_takesLaw 28 (.iaload) 1 29 := ⟨o_46 (oW (K := 0) (r := 28) wi_m_takesLaw_0 (by decide +kernel)), rfl⟩
theorem dm_takesLaw_29 : dn tm_takesLaw 29 (.iastore) 1 30 := ⟨o_79 (oW (K := 0) (r := 29) wi_m_takesLaw_0 (by decide +kernel)), rfl⟩
theorem dm_takesLaw_30 : dl tm_takesLaw 30 .aload_n .aload 0 31 := Or.inl ⟨0, o_42 (oW (K := 0) (r := 30) wi_m_takesLaw_0 (by decide +kernel)), rfl, rfl⟩
theorem dm_takesLaw_31 : dn tm_takesLaw 31 (.getfield 40) 3 34 := ⟨o_180 0 40 40 (oWd (K := 0) (r := 31) wi_m_takesLaw_0 (by decide +kernel)), rfl⟩
def wl_m_takesLaw_32 : List Nat := [0, 40, 16, 16, 42, 180, 1, 29, 104, 28, 96, 42, 180, 0, 40, 16, 32, 28, 96, 46, 79, 42, 180, 0, 43, 16, 16, 42, 180, 1, 29, 104, 28, 96, 42, 180, 0, 43]
theorem wi_m_takesLaw_32 : oC tm_takesLaw.2.1 32 wl_m_takesLaw_32 = true := by decide +kernel
theorem dm_takesLaw_34 : dn tm_takesLaw 34 (.bipush 16) 2 36 := ⟨o_16 16 16 (oWd (K := 32) (r := 2) wi_m_takesLaw_32 (by decide +kernel)), rfl⟩
theorem dm_takesLaw_36 : dl tm_takesLaw 36 .aload_n .aload 0 37 := Or.inl ⟨0, o_42 (oW (K := 32) (r := 4) wi_m_takesLaw_32 (by decide +kernel)), rfl, rfl⟩
theorem dm_takesLaw_37 : dn tm_takesLaw 37 (.getfield 285) 3 40 := ⟨o_180 1 29 285 (oWd (K := 32) (r := 5) wi_m_takesLaw_32 (by decide +kernel)), rfl⟩
theorem dm_takesLaw_40 : dn tm_takesLaw 40 (.imul) 1 41 := ⟨o_104 (oW (K := 32) (r := 8) wi_m_takesLaw_32 (by decide +kernel)), rfl⟩
theorem dm_takesLaw_41 : dl tm_takesLaw 41 .iload_n .iload 2 42 := Or.inl ⟨2, o_28 (oW (K := 32) (r := 9) wi_m_takesLaw_32 (by decide +kernel)), rfl, rfl⟩
theorem dm_takesLaw_42 : dn tm_takesLaw 42 (.iadd) 1 43 := ⟨o_96 (oW (K := 32) (r := 10) wi_m_takesLaw_32 (by decide +kernel)), rfl⟩
theorem dm_takesLaw_43 : dl tm_takesLaw 43 .aload_n .aload 0 44 := Or.inl ⟨0, o_42 (oW (K := 32) (r := 11) wi_m_takesLaw_32 (by decide +kernel)), rfl, rfl⟩
theorem dm_takesLaw_44 : dn tm_takesLaw 44 (.getfield 40) 3 47 := ⟨o_180 0 40 40 (oWd (K := 32) (r := 12) wi_m_takesLaw_32 (by decide +kernel)), rfl⟩
theorem dm_takesLaw_47 : dn tm_takesLaw 47 (.bipush 32) 2 49 := ⟨o_16 32 32 (oWd (K := 32) (r := 15) wi_m_takesLaw_32 (by decide +kernel)), rfl⟩
theorem dm_takesLaw_49 : dl tm_takesLaw 49 .iload_n .iload 2 50 := Or.inl ⟨2, o_28 (oW (K := 32) (r := 17) wi_m_takesLaw_32 (by decide +kernel)), rfl, rfl⟩
theorem dm_takesLaw_50 : dn tm_takesLaw 50 (.iadd) 1 51 := ⟨o_96 (oW (K := 32) (r := 18) wi_m_takesLaw_32 (by decide +kernel)), rfl⟩
theorem dm_takesLaw_51 : dn tm_takesLaw 51 (.iaload) 1 52 := ⟨o_46 (oW (K := 32) (r := 19) wi_m_takesLaw_32 (by decide +kernel)), rfl⟩
theorem dm_takesLaw_52 : dn tm_takesLaw 52 (.iastore) 1 53 := ⟨o_79 (oW (K := 32) (r := 20) wi_m_takesLaw_32 (by decide +kernel)), rfl⟩
theorem dm_takesLaw_53 : dl tm_takesLaw 53 .aload_n .aload 0 54 := Or.inl ⟨0, o_42 (oW (K := 32) (r := 21) wi_m_takesLaw_32 (by decide +kernel)), rfl, rfl⟩
theorem dm_takesLaw_54 : dn tm_takesLaw 54 (.getfield 43) 3 57 := ⟨o_180 0 43 43 (oWd (K := 32) (r := 22) wi_m_takesLaw_32 (by decide +kernel)), rfl⟩
theorem dm_takesLaw_57 : dn tm_takesLaw 57 (.bipush 16) 2 59 := ⟨o_16 16 16 (oWd (K := 32) (r := 25) wi_m_takesLaw_32 (by decide +kernel)), rfl⟩
theorem dm_takesLaw_59 : dl tm_takesLaw 59 .aload_n .aload 0 60 := Or.inl ⟨0, o_42 (oW (K := 32) (r := 27) wi_m_takesLaw_32 (by decide +kernel)), rfl, rfl⟩
theorem dm_takesLaw_60 : dn tm_takesLaw 60 (.getfield 285) 3 63 := ⟨o_180 1 29 285 (oWd (K := 32) (r := 28) wi_m_takesLaw_32 (by decide +kernel)), rfl⟩
theorem dm_takesLaw_63 : dn tm_takesLaw 63 (.imul) 1 64 := ⟨o_104 (oW (K := 32) (r := 31) wi_m_takesLaw_32 (by decide +kernel)), rfl⟩
def wl_m_takesLaw_64 : List Nat := [28, 96, 42, 180, 0, 43, 16, 32, 28, 96, 46, 79, 42, 180, 0, 46, 16, 16, 42, 180, 1, 29, 104, 28, 96, 42, 180, 0, 46, 16, 32, 28, 96, 46, 79, 132, 2, 1]
theorem wi_m_takesLaw_64 : oC tm_takesLaw.2.1 64 wl_m_takesLaw_64 = true := by decide +kernel
theorem dm_takesLaw_64 : dl tm_takesLaw 64 .iload_n .iload 2 65 := Or.inl ⟨2, o_28 (oW (K := 64) (r := 0) wi_m_takesLaw_64 (by decide +kernel)), rfl, rfl⟩
theorem dm_takesLaw_65 : dn tm_takesLaw 65 (.iadd) 1 66 := ⟨o_96 (oW (K := 64) (r := 1) wi_m_takesLaw_64 (by decide +kernel)), rfl⟩
theorem dm_takesLaw_66 : dl tm_takesLaw 66 .aload_n .aload 0 67 := Or.inl ⟨0, o_42 (oW (K := 64) (r := 2) wi_m_takesLaw_64 (by decide +kernel)), rfl, rfl⟩
theorem dm_takesLaw_67 : dn tm_takesLaw 67 (.getfield 43) 3 70 := ⟨o_180 0 43 43 (oWd (K := 64) (r := 3) wi_m_takesLaw_64 (by decide +kernel)), rfl⟩
theorem dm_takesLaw_70 : dn tm_takesLaw 70 (.bipush 32) 2 72 := ⟨o_16 32 32 (oWd (K := 64) (r := 6) wi_m_takesLaw_64 (by decide +kernel)), rfl⟩
theorem dm_takesLaw_72 : dl tm_takesLaw 72 .iload_n .iload 2 73 := Or.inl ⟨2, o_28 (oW (K := 64) (r := 8) wi_m_takesLaw_64 (by decide +kernel)), rfl, rfl⟩
theorem dm_takesLaw_73 : dn tm_takesLaw 73 (.iadd) 1 74 := ⟨o_96 (oW (K := 64) (r := 9) wi_m_takesLaw_64 (by decide +kernel)), rfl⟩
theorem dm_takesLaw_74 : dn tm_takesLaw 74 (.iaload) 1 75 := ⟨o_46 (oW (K := 64) (r := 10) wi_m_takesLaw_64 (by decide +kernel)), rfl⟩
theorem dm_takesLaw_75 : dn tm_takesLaw 75 (.iastore) 1 76 := ⟨o_79 (oW (K := 64) (r := 11) wi_m_takesLaw_64 (by decide +kernel)), rfl⟩
theorem dm_takesLaw_76 : dl tm_takesLaw 76 .aload_n .aload 0 77 := Or.inl ⟨0, o_42 (oW (K := 64) (r := 12) wi_m_takesLaw_64 (by decide +kernel)), rfl, rfl⟩
theorem dm_takesLaw_77 : dn tm_takesLaw 77 (.getfield 46) 3 80 := ⟨o_180 0 46 46 (oWd (K := 64) (r := 13) wi_m_takesLaw_64 (by decide +kernel)), rfl⟩
theorem dm_takesLaw_80 : dn tm_takesLaw 80 (.bipush 16) 2 82 := ⟨o_16 16 16 (oWd (K := 64) (r := 16) wi_m_takesLaw_64 (by decide +kernel)), rfl⟩
theorem dm_takesLaw_82 : dl tm_takesLaw 82 .aload_n .aload 0 83 := Or.inl ⟨0, o_42 (oW (K := 64) (r := 18) wi_m_takesLaw_64 (by decide +kernel)), rfl, rfl⟩
theorem dm_takesLaw_83 : dn tm_takesLaw 83 (.getfield 285) 3 86 := ⟨o_180 1 29 285 (oWd (K := 64) (r := 19) wi_m_takesLaw_64 (by decide +kernel)), rfl⟩
theorem dm_takesLaw_86 : dn tm_takesLaw 86 (.imul) 1 87 := ⟨o_104 (oW (K := 64) (r := 22) wi_m_takesLaw_64 (by decide +kernel)), rfl⟩
theorem dm_takesLaw_87 : dl tm_takesLaw 87 .iload_n .iload 2 88 := Or.inl ⟨2, o_28 (oW (K := 64) (r := 23) wi_m_takesLaw_64 (by decide +kernel)), rfl, rfl⟩
theorem dm_takesLaw_88 : dn tm_takesLaw 88 (.iadd) 1 89 := ⟨o_96 (oW (K := 64) (r := 24) wi_m_takesLaw_64 (by decide +kernel)), rfl⟩
theorem dm_takesLaw_89 : dl tm_takesLaw 89 .aload_n .aload 0 90 := Or.inl ⟨0, o_42 (oW (K := 64) (r := 25) wi_m_takesLaw_64 (by decide +kernel)), rfl, rfl⟩
theorem dm_takesLaw_90 : dn tm_takesLaw 90 (.getfield 46) 3 93 := ⟨o_180 0 46 46 (oWd (K := 64) (r := 26) wi_m_takesLaw_64 (by decide +kernel)), rfl⟩
theorem dm_takesLaw_93 : dn tm_takesLaw 93 (.bipush 32) 2 95 := ⟨o_16 32 32 (oWd (K := 64) (r := 29) wi_m_takesLaw_64 (by decide +kernel)), rfl⟩
theorem dm_takesLaw_95 : dl tm_takesLaw 95 .iload_n .iload 2 96 := Or.inl ⟨2, o_28 (oW (K := 64) (r := 31) wi_m_takesLaw_64 (by decide +kernel)), rfl, rfl⟩
def wl_m_takesLaw_96 : List Nat := [96, 46, 79, 132, 2, 1, 167, 255, 156, 3, 61, 28, 42, 180, 0, 231, 162, 0, 59, 42, 180, 0, 49, 17, 1, 144, 42, 180, 1, 29, 104, 28, 96, 42, 180, 0, 49, 17]
theorem wi_m_takesLaw_96 : oC tm_takesLaw.2.1 96 wl_m_takesLaw_96 = true := by decide +kernel
theorem dm_takesLaw_96 : dn tm_takesLaw 96 (.iadd) 1 97 := ⟨o_96 (oW (K := 96) (r := 0) wi_m_takesLaw_96 (by decide +kernel)), rfl⟩
theorem dm_takesLaw_97 : dn tm_takesLaw 97 (.iaload) 1 98 := ⟨o_46 (oW (K := 96) (r := 1) wi_m_takesLaw_96 (by decide +kernel)), rfl⟩
theorem dm_takesLaw_98 : dn tm_takesLaw 98 (.iastore) 1 99 := ⟨o_79 (oW (K := 96) (r := 2) wi_m_takesLaw_96 (by decide +kernel)), rfl⟩
theorem dm_takesLaw_99 : dn tm_takesLaw 99 (.iinc 2 1) 3 102 := ⟨o_132 2 1 1 (oWd (K := 96) (r := 3) wi_m_takesLaw_96 (by decide +kernel)), rfl⟩
theorem dm_takesLaw_102 : db tm_takesLaw 102 .goto 2 105 := ⟨-100, o_167 255 156 (-100) (oWd (K := 96) (r := 6) wi_m_takesLaw_96 (by decide +kernel)), rfl, rfl⟩
theorem dm_takesLaw_105 : dn tm_takesLaw 105 (.iconst 0) 1 106 := ⟨o_3 (oW (K := 96) (r := 9) wi_m_takesLaw_96 (by decide +kernel)), rfl⟩
theorem dm_takesLaw_106 : dl tm_takesLaw 106 .istore_n .istore 2 107 := Or.inl ⟨2, o_61 (oW (K := 96) (r := 10) wi_m_takesLaw_96 (by decide +kernel)), rfl, rfl⟩
theorem dm_takesLaw_107 : dl tm_takesLaw 107 .iload_n .iload 2 108 := Or.inl ⟨2, o_28 (oW (K := 96) (r := 11) wi_m_takesLaw_96 (by decide +kernel)), rfl, rfl⟩
theorem dm_takesLaw_108 : dl tm_takesLaw 108 .aload_n .aload 0 109 := Or.inl ⟨0, o_42 (oW (K := 96) (r := 12) wi_m_takesLaw_96 (by decide +kernel)), rfl, rfl⟩
theorem dm_takesLaw_109 : dn tm_takesLaw 109 (.getfield 231) 3 112 := ⟨o_180 0 231 231 (oWd (K := 96) (r := 13) wi_m_takesLaw_96 (by decide +kernel)), rfl⟩
theorem dm_takesLaw_112 : db tm_takesLaw 112 (.if_icmp .ge) 171 115 := ⟨59, o_162 0 59 59 (oWd (K := 96) (r := 16) wi_m_takesLaw_96 (by decide +kernel)), rfl, rfl⟩
theorem dm_takesLaw_115 : dl tm_takesLaw 115 .aload_n .aload 0 116 := Or.inl ⟨0, o_42 (oW (K := 96) (r := 19) wi_m_takesLaw_96 (by decide +kernel)), rfl, rfl⟩
theorem dm_takesLaw_116 : dn tm_takesLaw 116 (.getfield 49) 3 119 := ⟨o_180 0 49 49 (oWd (K := 96) (r := 20) wi_m_takesLaw_96 (by decide +kernel)), rfl⟩
theorem dm_takesLaw_119 : dn tm_takesLaw 119 (.sipush 400) 3 122 := ⟨o_17 1 144 400 (oWd (K := 96) (r := 23) wi_m_takesLaw_96 (by decide +kernel)), rfl⟩
theorem dm_takesLaw_122 : dl tm_takesLaw 122 .aload_n .aload 0 123 := Or.inl ⟨0, o_42 (oW (K := 96) (r := 26) wi_m_takesLaw_96 (by decide +kernel)), rfl, rfl⟩
theorem dm_takesLaw_123 : dn tm_takesLaw 123 (.getfield 285) 3 126 := ⟨o_180 1 29 285 (oWd (K := 96) (r := 27) wi_m_takesLaw_96 (by decide +kernel)), rfl⟩
theorem dm_takesLaw_126 : dn tm_takesLaw 126 (.imul) 1 127 := ⟨o_104 (oW (K := 96) (r := 30) wi_m_takesLaw_96 (by decide +kernel)), rfl⟩
theorem dm_takesLaw_127 : dl tm_takesLaw 127 .iload_n .iload 2 128 := Or.inl ⟨2, o_28 (oW (K := 96) (r := 31) wi_m_takesLaw_96 (by decide +kernel)), rfl, rfl⟩
def wl_m_takesLaw_128 : List Nat := [96, 42, 180, 0, 49, 17, 3, 32, 28, 96, 46, 79, 42, 180, 0, 52, 17, 1, 144, 42, 180, 1, 29, 104, 28, 96, 42, 180, 0, 52, 17, 3, 32, 28, 96, 46, 79, 132]
theorem wi_m_takesLaw_128 : oC tm_takesLaw.2.1 128 wl_m_takesLaw_128 = true := by decide +kernel
theorem dm_takesLaw_128 : dn tm_takesLaw 128 (.iadd) 1 129 := ⟨o_96 (oW (K := 128) (r := 0) wi_m_takesLaw_128 (by decide +kernel)), rfl⟩
theorem dm_takesLaw_129 : dl tm_takesLaw 129 .aload_n .aload 0 130 := Or.inl ⟨0, o_42 (oW (K := 128) (r := 1) wi_m_takesLaw_128 (by decide +kernel)), rfl, rfl⟩
theorem dm_takesLaw_130 : dn tm_takesLaw 130 (.getfield 49) 3 133 := ⟨o_180 0 49 49 (oWd (K := 128) (r := 2) wi_m_takesLaw_128 (by decide +kernel)), rfl⟩
theorem dm_takesLaw_133 : dn tm_takesLaw 133 (.sipush 800) 3 136 := ⟨o_17 3 32 800 (oWd (K := 128) (r := 5) wi_m_takesLaw_128 (by decide +kernel)), rfl⟩
theorem dm_takesLaw_136 : dl tm_takesLaw 136 .iload_n .iload 2 137 := Or.inl ⟨2, o_28 (oW (K := 128) (r := 8) wi_m_takesLaw_128 (by decide +kernel)), rfl, rfl⟩
theorem dm_takesLaw_137 : dn tm_takesLaw 137 (.iadd) 1 138 := ⟨o_96 (oW (K := 128) (r := 9) wi_m_takesLaw_128 (by decide +kernel)), rfl⟩
theorem dm_takesLaw_138 : dn tm_takesLaw 138 (.iaload) 1 139 := ⟨o_46 (oW (K := 128) (r := 10) wi_m_takesLaw_128 (by decide +kernel)), rfl⟩
theorem dm_takesLaw_139 : dn tm_takesLaw 139 (.iastore) 1 140 := ⟨o_79 (oW (K := 128) (r := 11) wi_m_takesLaw_128 (by decide +kernel)), rfl⟩
theorem dm_takesLaw_140 : dl tm_takesLaw 140 .aload_n .aload 0 141 := Or.inl ⟨0, o_42 (oW (K := 128) (r := 12) wi_m_takesLaw_128 (by decide +kernel)), rfl, rfl⟩
theorem dm_takesLaw_141 : dn tm_takesLaw 141 (.getfield 52) 3 144 := ⟨o_180 0 52 52 (oWd (K := 128) (r := 13) wi_m_takesLaw_128 (by decide +kernel)), rfl⟩
theorem dm_takesLaw_144 : dn tm_takesLaw 144 (.sipush 400) 3 147 := ⟨o_17 1 144 400 (oWd (K := 128) (r := 16) wi_m_takesLaw_128 (by decide +kernel)), rfl⟩
theorem dm_takesLaw_147 : dl tm_takesLaw 147 .aload_n .aload 0 148 := Or.inl ⟨0, o_42 (oW (K := 128) (r := 19) wi_m_takesLaw_128 (by decide +kernel)), rfl, rfl⟩
theorem dm_takesLaw_148 : dn tm_takesLaw 148 (.getfield 285) 3 151 := ⟨o_180 1 29 285 (oWd (K := 128) (r := 20) wi_m_takesLaw_128 (by decide +kernel)), rfl⟩
theorem dm_takesLaw_151 : dn tm_takesLaw 151 (.imul) 1 152 := ⟨o_104 (oW (K := 128) (r := 23) wi_m_takesLaw_128 (by decide +kernel)), rfl⟩
theorem dm_takesLaw_152 : dl tm_takesLaw 152 .iload_n .iload 2 153 := Or.inl ⟨2, o_28 (oW (K := 128) (r := 24) wi_m_takesLaw_128 (by decide +kernel)), rfl, rfl⟩
theorem dm_takesLaw_153 : dn tm_takesLaw 153 (.iadd) 1 154 := ⟨o_96 (oW (K := 128) (r := 25) wi_m_takesLaw_128 (by decide +kernel)), rfl⟩
theorem dm_takesLaw_154 : dl tm_takesLaw 154 .aload_n .aload 0 155 := Or.inl ⟨0, o_42 (oW (K := 128) (r := 26) wi_m_takesLaw_128 (by decide +kernel)), rfl, rfl⟩
theorem dm_takesLaw_155 : dn tm_takesLaw 155 (.getfield 52) 3 158 := ⟨o_180 0 52 52 (oWd (K := 128) (r := 27) wi_m_takesLaw_128 (by decide +kernel)), rfl⟩
theorem dm_takesLaw_158 : dn tm_takesLaw 158 (.sipush 800) 3 161 := ⟨o_17 3 32 800 (oWd (K := 128) (r := 30) wi_m_takesLaw_128 (by decide +kernel)), rfl⟩
def wl_m_takesLaw_160 : List Nat := [32, 28, 96, 46, 79, 132, 2, 1, 167, 255, 195, 42, 180, 0, 34, 42, 180, 1, 29, 27, 79, 177]
theorem wi_m_takesLaw_160 : oC tm_takesLaw.2.1 160 wl_m_takesLaw_160 = true := by decide +kernel
theorem dm_takesLaw_161 : dl tm_takesLaw 161 .iload_n .iload 2 162 := Or.inl ⟨2, o_28 (oW (K := 160) (r := 1) wi_m_takesLaw_160 (by decide +kernel)), rfl, rfl⟩
theorem dm_takesLaw_162 : dn tm_takesLaw 162 (.iadd) 1 163 := ⟨o_96 (oW (K := 160) (r := 2) wi_m_takesLaw_160 (by decide +kernel)), rfl⟩
theorem dm_takesLaw_163 : dn tm_takesLaw 163 (.iaload) 1 164 := ⟨o_46 (oW (K := 160) (r := 3) wi_m_takesLaw_160 (by decide +kernel)), rfl⟩
theorem dm_takesLaw_164 : dn tm_takesLaw 164 (.iastore) 1 165 := ⟨o_79 (oW (K := 160) (r := 4) wi_m_takesLaw_160 (by decide +kernel)), rfl⟩
theorem dm_takesLaw_165 : dn tm_takesLaw 165 (.iinc 2 1) 3 168 := ⟨o_132 2 1 1 (oWd (K := 160) (r := 5) wi_m_takesLaw_160 (by decide +kernel)), rfl⟩
theorem dm_takesLaw_168 : db tm_takesLaw 168 .goto 107 171 := ⟨-61, o_167 255 195 (-61) (oWd (K := 160) (r := 8) wi_m_takesLaw_160 (by decide +kernel)), rfl, rfl⟩
theorem dm_takesLaw_171 : dl tm_takesLaw 171 .aload_n .aload 0 172 := Or.inl ⟨0, o_42 (oW (K := 160) (r := 11) wi_m_takesLaw_160 (by decide +kernel)), rfl, rfl⟩
theorem dm_takesLaw_172 : dn tm_takesLaw 172 (.getfield 34) 3 175 := ⟨o_180 0 34 34 (oWd (K := 160) (r := 12) wi_m_takesLaw_160 (by decide +kernel)), rfl⟩
theorem dm_takesLaw_175 : dl tm_takesLaw 175 .aload_n .aload 0 176 := Or.inl ⟨0, o_42 (oW (K := 160) (r := 15) wi_m_takesLaw_160 (by decide +kernel)), rfl, rfl⟩
theorem dm_takesLaw_176 : dn tm_takesLaw 176 (.getfield 285) 3 179 := ⟨o_180 1 29 285 (oWd (K := 160) (r := 16) wi_m_takesLaw_160 (by decide +kernel)), rfl⟩
theorem dm_takesLaw_179 : dl tm_takesLaw 179 .iload_n .iload 1 180 := Or.inl ⟨1, o_27 (oW (K := 160) (r := 19) wi_m_takesLaw_160 (by decide +kernel)), rfl, rfl⟩
theorem dm_takesLaw_180 : dn tm_takesLaw 180 (.iastore) 1 181 := ⟨o_79 (oW (K := 160) (r := 20) wi_m_takesLaw_160 (by decide +kernel)), rfl⟩
theorem dm_takesLaw_181 : dn tm_takesLaw 181 (.return_) 1 182 := ⟨o_177 (oW (K := 160) (r := 21) wi_m_takesLaw_160 (by decide +kernel)), rfl⟩
def wl_m_readNumber_0 : List Nat := [42, 180, 0, 207, 6, 159, 0, 9, 42, 4, 182, 0, 237, 172, 42, 42, 180, 0, 210, 27, 28, 182, 0, 177, 154, 0, 9, 42, 5, 182, 0, 237, 172, 42, 180, 0, 210, 62]
theorem wi_m_readNumber_0 : oC tm_readNumber.2.1 0 wl_m_readNumber_0 = true := by decide +kernel
theorem dm_readNumber_0 : dl tm_readNumber 0 .aload_n .aload 0 1 := Or.inl ⟨0, o_42 (oW (K := 0) (r := 0) wi_m_readNumber_0 (by decide +kernel)), rfl, rfl⟩
theorem dm_readNumber_1 : dn tm_readNumber 1 (.getfield 207) 3 4 := ⟨o_180 0 207 207 (oWd (K := 0) (r := 1) wi_m_readNumber_0 (by decide +kernel)), rfl⟩
theorem dm_readNumber_4 : dn tm_readNumber 4 (.iconst 3) 1 5 := ⟨o_6 (oW (K := 0) (r := 4) wi_m_readNumber_0 (by decide +kernel)), rfl⟩
theorem dm_readNumber_5 : db tm_readNumber 5 (.if_icmp .eq) 14 8 := ⟨9, o_159 0 9 9 (oWd (K := 0) (r := 5) wi_m_readNumber_0 (by decide +kernel)), rfl, rfl⟩
theorem dm_readNumber_8 : dl tm_readNumber 8 .aload_n .aload 0 9 := Or.inl ⟨0, o_42 (oW (K := 0) (r := 8) wi_m_readNumber_0 (by decide +kernel)), rfl, rfl⟩
theorem dm_readNumber_9 : dn tm_readNumber 9 (.iconst 1) 1 10 := ⟨o_4 (oW (K := 0) (r := 9) wi_m_readNumber_0 (by decide +kernel)), rfl⟩
theorem dm_readNumber_10 : dn tm_readNumber 10 (.invokevirtual 237) 3 13 := ⟨o_182 0 237 237 (oWd (K := 0) (r := 10) wi_m_readNumber_0 (by decide +kernel)), rfl⟩
theorem dm_readNumber_13 : dn tm_readNumber 13 (.ireturn) 1 14 := ⟨o_172 (oW (K := 0) (r := 13) wi_m_readNumber_0 (by decide +kernel)), rfl⟩
theorem dm_readNumber_14 : dl tm_readNumber 14 .aload_n .aload 0 15 := Or.inl ⟨0, o_42 (oW (K := 0) (r := 14) wi_m_readNumber_0 (by decide +kernel)), rfl, rfl⟩
theorem dm_readNumber_15 : dl tm_readNumber 15 .aload_n .aload 0 16 := Or.inl ⟨0, o_42 (oW (K := 0) (r := 15) wi_m_readNumber_0 (by decide +kernel)), rfl, rfl⟩
theorem dm_readNumber_16 : dn tm_readNumber 16 (.getfield 210) 3 19 := ⟨o_180 0 210 210 (oWd (K := 0) (r := 16) wi_m_readNumber_0 (by decide +kernel)), rfl⟩
theorem dm_readNumber_19 : dl tm_readNumber 19 .iload_n .iload 1 20 := Or.inl ⟨1, o_27 (oW (K := 0) (r := 19) wi_m_readNumber_0 (by decide +kernel)), rfl, rfl⟩
theorem dm_readNumber_20 : dl tm_readNumber 20 .iload_n .iload 2 21 := Or.inl ⟨2, o_28 (oW (K := 0) (r := 20) wi_m_readNumber_0 (by decide +kernel)), rfl, rfl⟩
theorem dm_readNumber_21 : dn tm_readNumber 21 (.invokevirtual 177) 3 24 := ⟨o_182 0 177 177 (oWd (K := 0) (r := 21) wi_m_readNumber_0 (by decide +kernel)), rfl⟩
theorem dm_readNumber_24 : db tm_readNumber 24 (.ifCond .ne) 33 27 := ⟨9, o_154 0 9 9 (oWd (K := 0) (r := 24) wi_m_readNumber_0 (by decide +kernel)), rfl, rfl⟩
theorem dm_readNumber_27 : dl tm_readNumber 27 .aload_n .aload 0 28 := Or.inl ⟨0, o_42 (oW (K := 0) (r := 27) wi_m_readNumber_0 (by decide +kernel)), rfl, rfl⟩
theorem dm_readNumber_28 : dn tm_readNumber 28 (.iconst 2) 1 29 := ⟨o_5 (oW (K := 0) (r := 28) wi_m_readNumber_0 (by decide +kernel)), rfl⟩
theorem dm_readNumber_29 : dn tm_readNumber 29 (.invokevirtual 237) 3 32 := ⟨o_182 0 237 237 (oWd (K := 0) (r := 29) wi_m_readNumber_0 (by decide +kernel)), rfl⟩
def wl_m_readNumber_32 : List Nat := [172, 42, 180, 0, 210, 62, 42, 182, 0, 244, 29, 172]
theorem wi_m_readNumber_32 : oC tm_readNumber.2.1 32 wl_m_readNumber_32 = true := by decide +kernel
theorem dm_readNumber_32 : dn tm_readNumber 32 (.ireturn) 1 33 := ⟨o_172 (oW (K := 32) (r := 0) wi_m_readNumber_32 (by decide +kernel)), rfl⟩
theorem dm_readNumber_33 : dl tm_readNumber 33 .aload_n .aload 0 34 := Or.inl ⟨0, o_42 (oW (K := 32) (r := 1) wi_m_readNumber_32 (by decide +kernel)), rfl, rfl⟩
theorem dm_readNumber_34 : dn tm_readNumber 34 (.getfield 210) 3 37 := ⟨o_180 0 210 210 (oWd (K := 32) (r := 2) wi_m_readNumber_32 (by decide +kernel)), rfl⟩
theorem dm_readNumber_37 : dl tm_readNumber 37 .istore_n .istore 3 38 := Or.inl ⟨3, o_62 (oW (K := 32) (r := 5) wi_m_readNumber_32 (by decide +kernel)), rfl, rfl⟩
theorem dm_readNumber_38 : dl tm_readNumber 38 .aload_n .aload 0 39 := Or.inl ⟨0, o_42 (oW (K := 32) (r := 6) wi_m_readNumber_32 (by decide +kernel)), rfl, rfl⟩
theorem dm_readNumber_39 : dn tm_readNumber 39 (.invokevirtual 244) 3 42 := ⟨o_182 0 244 244 (oWd (K := 32) (r := 7) wi_m_readNumber_32 (by decide +kernel)), rfl⟩
theorem dm_readNumber_42 : dl tm_readNumber 42 .iload_n .iload 3 43 := Or.inl ⟨3, o_29 (oW (K := 32) (r := 10) wi_m_readNumber_32 (by decide +kernel)), rfl, rfl⟩
theorem dm_readNumber_43 : dn tm_readNumber 43 (.ireturn) 1 44 := ⟨o_172 (oW (K := 32) (r := 11) wi_m_readNumber_32 (by decide +kernel)), rfl⟩
def wl_m_readMark_0 : List Nat := [42, 27, 182, 0, 251, 154, 0, 9, 42, 4, 182, 0, 237, 172, 42, 182, 0, 244, 3, 172]
theorem wi_m_readMark_0 : oC tm_readMark.2.1 0 wl_m_readMark_0 = true := by decide +kernel
theorem dm_readMark_0 : dl tm_readMark 0 .aload_n .aload 0 1 := Or.inl ⟨0, o_42 (oW (K := 0) (r := 0) wi_m_readMark_0 (by decide +kernel)), rfl, rfl⟩
theorem dm_readMark_1 : dl tm_readMark 1 .iload_n .iload 1 2 := Or.inl ⟨1, o_27 (oW (K := 0) (r := 1) wi_m_readMark_0 (by decide +kernel)), rfl, rfl⟩
theorem dm_readMark_2 : dn tm_readMark 2 (.invokevirtual 251) 3 5 := ⟨o_182 0 251 251 (oWd (K := 0) (r := 2) wi_m_readMark_0 (by decide +kernel)), rfl⟩
theorem dm_readMark_5 : db tm_readMark 5 (.ifCond .ne) 14 8 := ⟨9, o_154 0 9 9 (oWd (K := 0) (r := 5) wi_m_readMark_0 (by decide +kernel)), rfl, rfl⟩
theorem dm_readMark_8 : dl tm_readMark 8 .aload_n .aload 0 9 := Or.inl ⟨0, o_42 (oW (K := 0) (r := 8) wi_m_readMark_0 (by decide +kernel)), rfl, rfl⟩
theorem dm_readMark_9 : dn tm_readMark 9 (.iconst 1) 1 10 := ⟨o_4 (oW (K := 0) (r := 9) wi_m_readMark_0 (by decide +kernel)), rfl⟩
theorem dm_readMark_10 : dn tm_readMark 10 (.invokevirtual 237) 3 13 := ⟨o_182 0 237 237 (oWd (K := 0) (r := 10) wi_m_readMark_0 (by decide +kernel)), rfl⟩
theorem dm_readMark_13 : dn tm_readMark 13 (.ireturn) 1 14 := ⟨o_172 (oW (K := 0) (r := 13) wi_m_readMark_0 (by decide +kernel)), rfl⟩
theorem dm_readMark_14 : dl tm_readMark 14 .aload_n .aload 0 15 := Or.inl ⟨0, o_42 (oW (K := 0) (r := 14) wi_m_readMark_0 (by decide +kernel)), rfl, rfl⟩
theorem dm_readMark_15 : dn tm_readMark 15 (.invokevirtual 244) 3 18 := ⟨o_182 0 244 244 (oWd (K := 0) (r := 15) wi_m_readMark_0 (by decide +kernel)), rfl⟩
theorem dm_readMark_18 : dn tm_readMark 18 (.iconst 0) 1 19 := ⟨o_3 (oW (K := 0) (r := 18) wi_m_readMark_0 (by decide +kernel)), rfl⟩
theorem dm_readMark_19 : dn tm_readMark 19 (.ireturn) 1 20 := ⟨o_172 (oW (K := 0) (r := 19) wi_m_readMark_0 (by decide +kernel)), rfl⟩
def wl_m_readTold_0 : List Nat := [42, 27, 182, 1, 10, 154, 0, 9, 42, 4, 182, 0, 237, 172, 42, 182, 0, 244, 42, 28, 29, 182, 1, 32, 172]
theorem wi_m_readTold_0 : oC tm_readTold.2.1 0 wl_m_readTold_0 = true := by decide +kernel
theorem dm_readTold_0 : dl tm_readTold 0 .aload_n .aload 0 1 := Or.inl ⟨0, o_42 (oW (K := 0) (r := 0) wi_m_readTold_0 (by decide +kernel)), rfl, rfl⟩
theorem dm_readTold_1 : dl tm_readTold 1 .iload_n .iload 1 2 := Or.inl ⟨1, o_27 (oW (K := 0) (r := 1) wi_m_readTold_0 (by decide +kernel)), rfl, rfl⟩
theorem dm_readTold_2 : dn tm_readTold 2 (.invokevirtual 266) 3 5 := ⟨o_182 1 10 266 (oWd (K := 0) (r := 2) wi_m_readTold_0 (by decide +kernel)), rfl⟩
theorem dm_readTold_5 : db tm_readTold 5 (.ifCond .ne) 14 8 := ⟨9, o_154 0 9 9 (oWd (K := 0) (r := 5) wi_m_readTold_0 (by decide +kernel)), rfl, rfl⟩
theorem dm_readTold_8 : dl tm_readTold 8 .aload_n .aload 0 9 := Or.inl ⟨0, o_42 (oW (K := 0) (r := 8) wi_m_readTold_0 (by decide +kernel)), rfl, rfl⟩
theorem dm_readTold_9 : dn tm_readTold 9 (.iconst 1) 1 10 := ⟨o_4 (oW (K := 0) (r := 9) wi_m_readTold_0 (by decide +kernel)), rfl⟩
theorem dm_readTold_10 : dn tm_readTold 10 (.invokevirtual 237) 3 13 := ⟨o_182 0 237 237 (oWd (K := 0) (r := 10) wi_m_readTold_0 (by decide +kernel)), rfl⟩
theorem dm_readTold_13 : dn tm_readTold 13 (.ireturn) 1 14 := ⟨o_172 (oW (K := 0) (r := 13) wi_m_readTold_0 (by decide +kernel)), rfl⟩
theorem dm_readTold_14 : dl tm_readTold 14 .aload_n .aload 0 15 := Or.inl ⟨0, o_42 (oW (K := 0) (r := 14) wi_m_readTold_0 (by decide +kernel)), rfl, rfl⟩
theorem dm_readTold_15 : dn tm_readTold 15 (.invokevirtual 244) 3 18 := ⟨o_182 0 244 244 (oWd (K := 0) (r := 15) wi_m_readTold_0 (by decide +kernel)), rfl⟩
theorem dm_readTold_18 : dl tm_readTold 18 .aload_n .aload 0 19 := Or.inl ⟨0, o_42 (oW (K := 0) (r := 18) wi_m_readTold_0 (by decide +kernel)), rfl, rfl⟩
theorem dm_readTold_19 : dl tm_readTold 19 .iload_n .iload 2 20 := Or.inl ⟨2, o_28 (oW (K := 0) (r := 19) wi_m_readTold_0 (by decide +kernel)), rfl, rfl⟩
theorem dm_readTold_20 : dl tm_readTold 20 .iload_n .iload 3 21 := Or.inl ⟨3, o_29 (oW (K := 0) (r := 20) wi_m_readTold_0 (by decide +kernel)), rfl, rfl⟩
theorem dm_readTold_21 : dn tm_readTold 21 (.invokevirtual 288) 3 24 := ⟨o_182 1 32 288 (oWd (K := 0) (r := 21) wi_m_readTold_0 (by decide +kernel)), rfl⟩
theorem dm_readTold_24 : dn tm_readTold 24 (.ireturn) 1 25 := ⟨o_172 (oW (K := 0) (r := 24) wi_m_readTold_0 (by decide +kernel)), rfl⟩
def wl_m_readSkyLine_0 : List Nat := [42, 180, 0, 62, 27, 42, 16, 19, 3, 17, 3, 231, 182, 1, 35, 79, 42, 180, 0, 62, 27, 46, 2, 160, 0, 5, 2, 172, 42, 16, 16, 182, 1, 10, 153, 0, 7, 3]
theorem wi_m_readSkyLine_0 : oC tm_readSkyLine.2.1 0 wl_m_readSkyLine_0 = true := by decide +kernel
theorem dm_readSkyLine_0 : dl tm_readSkyLine 0 .aload_n .aload 0 1 := Or.inl ⟨0, o_42 (oW (K := 0) (r := 0) wi_m_readSkyLine_0 (by decide +kernel)), rfl, rfl⟩
theorem dm_readSkyLine_1 : dn tm_readSkyLine 1 (.getfield 62) 3 4 := ⟨o_180 0 62 62 (oWd (K := 0) (r := 1) wi_m_readSkyLine_0 (by decide +kernel)), rfl⟩
theorem dm_readSkyLine_4 : dl tm_readSkyLine 4 .iload_n .iload 1 5 := Or.inl ⟨1, o_27 (oW (K := 0) (r := 4) wi_m_readSkyLine_0 (by decide +kernel)), rfl, rfl⟩
theorem dm_readSkyLine_5 : dl tm_readSkyLine 5 .aload_n .aload 0 6 := Or.inl ⟨0, o_42 (oW (K := 0) (r := 5) wi_m_readSkyLine_0 (by decide +kernel)), rfl, rfl⟩
theorem dm_readSkyLine_6 : dn tm_readSkyLine 6 (.bipush 19) 2 8 := ⟨o_16 19 19 (oWd (K := 0) (r := 6) wi_m_readSkyLine_0 (by decide +kernel)), rfl⟩
theorem dm_readSkyLine_8 : dn tm_readSkyLine 8 (.iconst 0) 1 9 := ⟨o_3 (oW (K := 0) (r := 8) wi_m_readSkyLine_0 (by decide +kernel)), rfl⟩
theorem dm_readSkyLine_9 : dn tm_readSkyLine 9 (.sipush 999) 3 12 := ⟨o_17 3 231 999 (oWd (K := 0) (r := 9) wi_m_readSkyLine_0 (by decide +kernel)), rfl⟩
theorem dm_readSkyLine_12 : dn tm_readSkyLine 12 (.invokevirtual 291) 3 15 := ⟨o_182 1 35 291 (oWd (K := 0) (r := 12) wi_m_readSkyLine_0 (by decide +kernel)), rfl⟩
theorem dm_readSkyLine_15 : dn tm_readSkyLine 15 (.iastore) 1 16 := ⟨o_79 (oW (K := 0) (r := 15) wi_m_readSkyLine_0 (by decide +kernel)), rfl⟩
theorem dm_readSkyLine_16 : dl tm_readSkyLine 16 .aload_n .aload 0 17 := Or.inl ⟨0, o_42 (oW (K := 0) (r := 16) wi_m_readSkyLine_0 (by decide +kernel)), rfl, rfl⟩
theorem dm_readSkyLine_17 : dn tm_readSkyLine 17 (.getfield 62) 3 20 := ⟨o_180 0 62 62 (oWd (K := 0) (r := 17) wi_m_readSkyLine_0 (by decide +kernel)), rfl⟩
theorem dm_readSkyLine_20 : dl tm_readSkyLine 20 .iload_n .iload 1 21 := Or.inl ⟨1, o_27 (oW (K := 0) (r := 20) wi_m_readSkyLine_0 (by decide +kernel)), rfl, rfl⟩
theorem dm_readSkyLine_21 : dn tm_readSkyLine 21 (.iaload) 1 22 := ⟨o_46 (oW (K := 0) (r := 21) wi_m_readSkyLine_0 (by decide +kernel)), rfl⟩
theorem dm_readSkyLine_22 : dn tm_readSkyLine 22 (.iconst (-1)) 1 23 := ⟨o_2 (oW (K := 0) (r := 22) wi_m_readSkyLine_0 (by decide +kernel)), rfl⟩
theorem dm_readSkyLine_23 : db tm_readSkyLine 23 (.if_icmp .ne) 28 26 := ⟨5, o_160 0 5 5 (oWd (K := 0) (r := 23) wi_m_readSkyLine_0 (by decide +kernel)), rfl, rfl⟩
theorem dm_readSkyLine_26 : dn tm_readSkyLine 26 (.iconst (-1)) 1 27 := ⟨o_2 (oW (K := 0) (r := 26) wi_m_readSkyLine_0 (by decide +kernel)), rfl⟩
theorem dm_readSkyLine_27 : dn tm_readSkyLine 27 (.ireturn) 1 28 := ⟨o_172 (oW (K := 0) (r := 27) wi_m_readSkyLine_0 (by decide +kernel)), rfl⟩
theorem dm_readSkyLine_28 : dl tm_readSkyLine 28 .aload_n .aload 0 29 := Or.inl ⟨0, o_42 (oW (K := 0) (r := 28) wi_m_readSkyLine_0 (by decide +kernel)), rfl, rfl⟩
theorem dm_readSkyLine_29 : dn tm_readSkyLine 29 (.bipush 16) 2 31 := ⟨o_16 16 16 (oWd (K := 0) (r := 29) wi_m_readSkyLine_0 (by decide +kernel)), rfl⟩
theorem dm_readSkyLine_31 : dn tm_readSkyLine 31 (.invokevirtual 266) 3 34 := ⟨o_182 1 10 266 (oWd (K := 0) (r := 31) wi_m_readSkyLine_0 (by decide +kernel)), rfl⟩
def wl_m_readSkyLine_32 : List Nat := [1, 10, 153, 0, 7, 3, 167, 0, 30, 42, 16, 17, 182, 1, 10, 153, 0, 7, 4, 167, 0, 17, 42, 16, 20, 182, 1, 10, 153, 0, 7, 5, 167, 0, 4, 2, 61, 28]
theorem wi_m_readSkyLine_32 : oC tm_readSkyLine.2.1 32 wl_m_readSkyLine_32 = true := by decide +kernel
theorem dm_readSkyLine_34 : db tm_readSkyLine 34 (.ifCond .eq) 41 37 := ⟨7, o_153 0 7 7 (oWd (K := 32) (r := 2) wi_m_readSkyLine_32 (by decide +kernel)), rfl, rfl⟩
theorem dm_readSkyLine_37 : dn tm_readSkyLine 37 (.iconst 0) 1 38 := ⟨o_3 (oW (K := 32) (r := 5) wi_m_readSkyLine_32 (by decide +kernel)), rfl⟩
theorem dm_readSkyLine_38 : db tm_readSkyLine 38 .goto 68 41 := ⟨30, o_167 0 30 30 (oWd (K := 32) (r := 6) wi_m_readSkyLine_32 (by decide +kernel)), rfl, rfl⟩
theorem dm_readSkyLine_41 : dl tm_readSkyLine 41 .aload_n .aload 0 42 := Or.inl ⟨0, o_42 (oW (K := 32) (r := 9) wi_m_readSkyLine_32 (by decide +kernel)), rfl, rfl⟩
theorem dm_readSkyLine_42 : dn tm_readSkyLine 42 (.bipush 17) 2 44 := ⟨o_16 17 17 (oWd (K := 32) (r := 10) wi_m_readSkyLine_32 (by decide +kernel)), rfl⟩
theorem dm_readSkyLine_44 : dn tm_readSkyLine 44 (.invokevirtual 266) 3 47 := ⟨o_182 1 10 266 (oWd (K := 32) (r := 12) wi_m_readSkyLine_32 (by decide +kernel)), rfl⟩
theorem dm_readSkyLine_47 : db tm_readSkyLine 47 (.ifCond .eq) 54 50 := ⟨7, o_153 0 7 7 (oWd (K := 32) (r := 15) wi_m_readSkyLine_32 (by decide +kernel)), rfl, rfl⟩
theorem dm_readSkyLine_50 : dn tm_readSkyLine 50 (.iconst 1) 1 51 := ⟨o_4 (oW (K := 32) (r := 18) wi_m_readSkyLine_32 (by decide +kernel)), rfl⟩
theorem dm_readSkyLine_51 : db tm_readSkyLine 51 .goto 68 54 := ⟨17, o_167 0 17 17 (oWd (K := 32) (r := 19) wi_m_readSkyLine_32 (by decide +kernel)), rfl, rfl⟩
theorem dm_readSkyLine_54 : dl tm_readSkyLine 54 .aload_n .aload 0 55 := Or.inl ⟨0, o_42 (oW (K := 32) (r := 22) wi_m_readSkyLine_32 (by decide +kernel)), rfl, rfl⟩
theorem dm_readSkyLine_55 : dn tm_readSkyLine 55 (.bipush 20) 2 57 := ⟨o_16 20 20 (oWd (K := 32) (r := 23) wi_m_readSkyLine_32 (by decide +kernel)), rfl⟩
theorem dm_readSkyLine_57 : dn tm_readSkyLine 57 (.invokevirtual 266) 3 60 := ⟨o_182 1 10 266 (oWd (K := 32) (r := 25) wi_m_readSkyLine_32 (by decide +kernel)), rfl⟩
theorem dm_readSkyLine_60 : db tm_readSkyLine 60 (.ifCond .eq) 67 63 := ⟨7, o_153 0 7 7 (oWd (K := 32) (r := 28) wi_m_readSkyLine_32 (by decide +kernel)), rfl, rfl⟩
theorem dm_readSkyLine_63 : dn tm_readSkyLine 63 (.iconst 2) 1 64 := ⟨o_5 (oW (K := 32) (r := 31) wi_m_readSkyLine_32 (by decide +kernel)), rfl⟩
def wl_m_readSkyLine_64 : List Nat := [167, 0, 4, 2, 61, 28, 2, 160, 0, 9, 42, 4, 182, 0, 237, 172, 42, 182, 0, 244, 42, 180, 0, 62, 27, 4, 96, 28, 79, 42, 180, 0, 62, 27, 5, 96, 28, 154]
theorem wi_m_readSkyLine_64 : oC tm_readSkyLine.2.1 64 wl_m_readSkyLine_64 = true := by decide +kernel
theorem dm_readSkyLine_64 : db tm_readSkyLine 64 .goto 68 67 := ⟨4, o_167 0 4 4 (oWd (K := 64) (r := 0) wi_m_readSkyLine_64 (by decide +kernel)), rfl, rfl⟩
theorem dm_readSkyLine_67 : dn tm_readSkyLine 67 (.iconst (-1)) 1 68 := ⟨o_2 (oW (K := 64) (r := 3) wi_m_readSkyLine_64 (by decide +kernel)), rfl⟩
theorem dm_readSkyLine_68 : dl tm_readSkyLine 68 .istore_n .istore 2 69 := Or.inl ⟨2, o_61 (oW (K := 64) (r := 4) wi_m_readSkyLine_64 (by decide +kernel)), rfl, rfl⟩
theorem dm_readSkyLine_69 : dl tm_readSkyLine 69 .iload_n .iload 2 70 := Or.inl ⟨2, o_28 (oW (K := 64) (r := 5) wi_m_readSkyLine_64 (by decide +kernel)), rfl, rfl⟩
theorem dm_readSkyLine_70 : dn tm_readSkyLine 70 (.iconst (-1)) 1 71 := ⟨o_2 (oW (K := 64) (r := 6) wi_m_readSkyLine_64 (by decide +kernel)), rfl⟩
theorem dm_readSkyLine_71 : db tm_readSkyLine 71 (.if_icmp .ne) 80 74 := ⟨9, o_160 0 9 9 (oWd (K := 64) (r := 7) wi_m_readSkyLine_64 (by decide +kernel)), rfl, rfl⟩
theorem dm_readSkyLine_74 : dl tm_readSkyLine 74 .aload_n .aload 0 75 := Or.inl ⟨0, o_42 (oW (K := 64) (r := 10) wi_m_readSkyLine_64 (by decide +kernel)), rfl, rfl⟩
theorem dm_readSkyLine_75 : dn tm_readSkyLine 75 (.iconst 1) 1 76 := ⟨o_4 (oW (K := 64) (r := 11) wi_m_readSkyLine_64 (by decide +kernel)), rfl⟩
theorem dm_readSkyLine_76 : dn tm_readSkyLine 76 (.invokevirtual 237) 3 79 := ⟨o_182 0 237 237 (oWd (K := 64) (r := 12) wi_m_readSkyLine_64 (by decide +kernel)), rfl⟩
theorem dm_readSkyLine_79 : dn tm_readSkyLine 79 (.ireturn) 1 80 := ⟨o_172 (oW (K := 64) (r := 15) wi_m_readSkyLine_64 (by decide +kernel)), rfl⟩
theorem dm_readSkyLine_80 : dl tm_readSkyLine 80 .aload_n .aload 0 81 := Or.inl ⟨0, o_42 (oW (K := 64) (r := 16) wi_m_readSkyLine_64 (by decide +kernel)), rfl, rfl⟩
theorem dm_readSkyLine_81 : dn tm_readSkyLine 81 (.invokevirtual 244) 3 84 := ⟨o_182 0 244 244 (oWd (K := 64) (r := 17) wi_m_readSkyLine_64 (by decide +kernel)), rfl⟩
theorem dm_readSkyLine_84 : dl tm_readSkyLine 84 .aload_n .aload 0 85 := Or.inl ⟨0, o_42 (oW (K := 64) (r := 20) wi_m_readSkyLine_64 (by decide +kernel)), rfl, rfl⟩
theorem dm_readSkyLine_85 : dn tm_readSkyLine 85 (.getfield 62) 3 88 := ⟨o_180 0 62 62 (oWd (K := 64) (r := 21) wi_m_readSkyLine_64 (by decide +kernel)), rfl⟩
theorem dm_readSkyLine_88 : dl tm_readSkyLine 88 .iload_n .iload 1 89 := Or.inl ⟨1, o_27 (oW (K := 64) (r := 24) wi_m_readSkyLine_64 (by decide +kernel)), rfl, rfl⟩
theorem dm_readSkyLine_89 : dn tm_readSkyLine 89 (.iconst 1) 1 90 := ⟨o_4 (oW (K := 64) (r := 25) wi_m_readSkyLine_64 (by decide +kernel)), rfl⟩
theorem dm_readSkyLine_90 : dn tm_readSkyLine 90 (.iadd) 1 91 := ⟨o_96 (oW (K := 64) (r := 26) wi_m_readSkyLine_64 (by decide +kernel)), rfl⟩
theorem dm_readSkyLine_91 : dl tm_readSkyLine 91 .iload_n .iload 2 92 := Or.inl ⟨2, o_28 (oW (K := 64) (r := 27) wi_m_readSkyLine_64 (by decide +kernel)), rfl, rfl⟩
theorem dm_readSkyLine_92 : dn tm_readSkyLine 92 (.iastore) 1 93 := ⟨o_79 (oW (K := 64) (r := 28) wi_m_readSkyLine_64 (by decide +kernel)), rfl⟩
theorem dm_readSkyLine_93 : dl tm_readSkyLine 93 .aload_n .aload 0 94 := Or.inl ⟨0, o_42 (oW (K := 64) (r := 29) wi_m_readSkyLine_64 (by decide +kernel)), rfl, rfl⟩
theorem dm_readSkyLine_94 : dn tm_readSkyLine 94 (.getfield 62) 3 97 := ⟨o_180 0 62 62 (oWd (K := 64) (r := 30) wi_m_readSkyLine_64 (by decide +kernel)), rfl⟩
def wl_m_readSkyLine_96 : List Nat := [62, 27, 5, 96, 28, 154, 0, 13, 42, 3, 16, 9, 182, 1, 32, 167, 0, 4, 3, 79, 42, 180, 0, 62, 27, 5, 96, 46, 2, 160, 0, 7, 2, 167, 0, 9, 42, 16]
theorem wi_m_readSkyLine_96 : oC tm_readSkyLine.2.1 96 wl_m_readSkyLine_96 = true := by decide +kernel
theorem dm_readSkyLine_97 : dl tm_readSkyLine 97 .iload_n .iload 1 98 := Or.inl ⟨1, o_27 (oW (K := 96) (r := 1) wi_m_readSkyLine_96 (by decide +kernel)), rfl, rfl⟩
theorem dm_readSkyLine_98 : dn tm_readSkyLine 98 (.iconst 2) 1 99 := ⟨o_5 (oW (K := 96) (r := 2) wi_m_readSkyLine_96 (by decide +kernel)), rfl⟩
theorem dm_readSkyLine_99 : dn tm_readSkyLine 99 (.iadd) 1 100 := ⟨o_96 (oW (K := 96) (r := 3) wi_m_readSkyLine_96 (by decide +kernel)), rfl⟩
theorem dm_readSkyLine_100 : dl tm_readSkyLine 100 .iload_n .iload 2 101 := Or.inl ⟨2, o_28 (oW (K := 96) (r := 4) wi_m_readSkyLine_96 (by decide +kernel)), rfl, rfl⟩
theorem dm_readSkyLine_101 : db tm_readSkyLine 101 (.ifCond .ne) 114 104 := ⟨13, o_154 0 13 13 (oWd (K := 96) (r := 5) wi_m_readSkyLine_96 (by decide +kernel)), rfl, rfl⟩
theorem dm_readSkyLine_104 : dl tm_readSkyLine 104 .aload_n .aload 0 105 := Or.inl ⟨0, o_42 (oW (K := 96) (r := 8) wi_m_readSkyLine_96 (by decide +kernel)), rfl, rfl⟩
theorem dm_readSkyLine_105 : dn tm_readSkyLine 105 (.iconst 0) 1 106 := ⟨o_3 (oW (K := 96) (r := 9) wi_m_readSkyLine_96 (by decide +kernel)), rfl⟩
theorem dm_readSkyLine_106 : dn tm_readSkyLine 106 (.bipush 9) 2 108 := ⟨o_16 9 9 (oWd (K := 96) (r := 10) wi_m_readSkyLine_96 (by decide +kernel)), rfl⟩
theorem dm_readSkyLine_108 : dn tm_readSkyLine 108 (.invokevirtual 288) 3 111 := ⟨o_182 1 32 288 (oWd (K := 96) (r := 12) wi_m_readSkyLine_96 (by decide +kernel)), rfl⟩
theorem dm_readSkyLine_111 : db tm_readSkyLine 111 .goto 115 114 := ⟨4, o_167 0 4 4 (oWd (K := 96) (r := 15) wi_m_readSkyLine_96 (by decide +kernel)), rfl, rfl⟩
theorem dm_readSkyLine_114 : dn tm_readSkyLine 114 (.iconst 0) 1 115 := ⟨o_3 (oW (K := 96) (r := 18) wi_m_readSkyLine_96 (by decide +kernel)), rfl⟩
theorem dm_readSkyLine_115 : dn tm_readSkyLine 115 (.iastore) 1 116 := ⟨o_79 (oW (K := 96) (r := 19) wi_m_readSkyLine_96 (by decide +kernel)), rfl⟩
theorem dm_readSkyLine_116 : dl tm_readSkyLine 116 .aload_n .aload 0 117 := Or.inl ⟨0, o_42 (oW (K := 96) (r := 20) wi_m_readSkyLine_96 (by decide +kernel)), rfl, rfl⟩
theorem dm_readSkyLine_117 : dn tm_readSkyLine 117 (.getfield 62) 3 120 := ⟨o_180 0 62 62 (oWd (K := 96) (r := 21) wi_m_readSkyLine_96 (by decide +kernel)), rfl⟩
theorem dm_readSkyLine_120 : dl tm_readSkyLine 120 .iload_n .iload 1 121 := Or.inl ⟨1, o_27 (oW (K := 96) (r := 24) wi_m_readSkyLine_96 (by decide +kernel)), rfl, rfl⟩
theorem dm_readSkyLine_121 : dn tm_readSkyLine 121 (.iconst 2) 1 122 := ⟨o_5 (oW (K := 96) (r := 25) wi_m_readSkyLine_96 (by decide +kernel)), rfl⟩
theorem dm_readSkyLine_122 : dn tm_readSkyLine 122 (.iadd) 1 123 := ⟨o_96 (oW (K := 96) (r := 26) wi_m_readSkyLine_96 (by decide +kernel)), rfl⟩
theorem dm_readSkyLine_123 : dn tm_readSkyLine 123 (.iaload) 1 124 := ⟨o_46 (oW (K := 96) (r := 27) wi_m_readSkyLine_96 (by decide +kernel)), rfl⟩
theorem dm_readSkyLine_124 : dn tm_readSkyLine 124 (.iconst (-1)) 1 125 := ⟨o_2 (oW (K := 96) (r := 28) wi_m_readSkyLine_96 (by decide +kernel)), rfl⟩
theorem dm_readSkyLine_125 : db tm_readSkyLine 125 (.if_icmp .ne) 132 128 := ⟨7, o_160 0 7 7 (oWd (K := 96) (r := 29) wi_m_readSkyLine_96 (by decide +kernel)), rfl, rfl⟩
def wl_m_readSkyLine_128 : List Nat := [2, 167, 0, 9, 42, 16, 59, 182, 1, 38, 172]
theorem wi_m_readSkyLine_128 : oC tm_readSkyLine.2.1 128 wl_m_readSkyLine_128 = true := by decide +kernel
theorem dm_readSkyLine_128 : dn tm_readSkyLine 128 (.iconst (-1)) 1 129 := ⟨o_2 (oW (K := 128) (r := 0) wi_m_readSkyLine_128 (by decide +kernel)), rfl⟩
theorem dm_readSkyLine_129 : db tm_readSkyLine 129 .goto 138 132 := ⟨9, o_167 0 9 9 (oWd (K := 128) (r := 1) wi_m_readSkyLine_128 (by decide +kernel)), rfl, rfl⟩
theorem dm_readSkyLine_132 : dl tm_readSkyLine 132 .aload_n .aload 0 133 := Or.inl ⟨0, o_42 (oW (K := 128) (r := 4) wi_m_readSkyLine_128 (by decide +kernel)), rfl, rfl⟩
theorem dm_readSkyLine_133 : dn tm_readSkyLine 133 (.bipush 59) 2 135 := ⟨o_16 59 59 (oWd (K := 128) (r := 5) wi_m_readSkyLine_128 (by decide +kernel)), rfl⟩
theorem dm_readSkyLine_135 : dn tm_readSkyLine 135 (.invokevirtual 294) 3 138 := ⟨o_182 1 38 294 (oWd (K := 128) (r := 7) wi_m_readSkyLine_128 (by decide +kernel)), rfl⟩
theorem dm_readSkyLine_138 : dn tm_readSkyLine 138 (.ireturn) 1 139 := ⟨o_172 (oW (K := 128) (r := 10) wi_m_readSkyLine_128 (by decide +kernel)), rfl⟩
def wl_m_readSky_0 : List Nat := [3, 60, 42, 16, 19, 182, 1, 10, 153, 0, 38, 27, 16, 16, 160, 0, 9, 42, 6, 182, 0, 237, 172, 42, 16, 48, 6, 27, 104, 96, 182, 1, 41, 2, 160, 0, 5, 2]
theorem wi_m_readSky_0 : oC tm_readSky.2.1 0 wl_m_readSky_0 = true := by decide +kernel
theorem dm_readSky_0 : dn tm_readSky 0 (.iconst 0) 1 1 := ⟨o_3 (oW (K := 0) (r := 0) wi_m_readSky_0 (by decide +kernel)), rfl⟩
theorem dm_readSky_1 : dl tm_readSky 1 .istore_n .istore 1 2 := Or.inl ⟨1, o_60 (oW (K := 0) (r := 1) wi_m_readSky_0 (by decide +kernel)), rfl, rfl⟩
theorem dm_readSky_2 : dl tm_readSky 2 .aload_n .aload 0 3 := Or.inl ⟨0, o_42 (oW (K := 0) (r := 2) wi_m_readSky_0 (by decide +kernel)), rfl, rfl⟩
theorem dm_readSky_3 : dn tm_readSky 3 (.bipush 19) 2 5 := ⟨o_16 19 19 (oWd (K := 0) (r := 3) wi_m_readSky_0 (by decide +kernel)), rfl⟩
theorem dm_readSky_5 : dn tm_readSky 5 (.invokevirtual 266) 3 8 := ⟨o_182 1 10 266 (oWd (K := 0) (r := 5) wi_m_readSky_0 (by decide +kernel)), rfl⟩
theorem dm_readSky_8 : db tm_readSky 8 (.ifCond .eq) 46 11 := ⟨38, o_153 0 38 38 (oWd (K := 0) (r := 8) wi_m_readSky_0 (by decide +kernel)), rfl, rfl⟩
theorem dm_readSky_11 : dl tm_readSky 11 .iload_n .iload 1 12 := Or.inl ⟨1, o_27 (oW (K := 0) (r := 11) wi_m_readSky_0 (by decide +kernel)), rfl, rfl⟩
theorem dm_readSky_12 : dn tm_readSky 12 (.bipush 16) 2 14 := ⟨o_16 16 16 (oWd (K := 0) (r := 12) wi_m_readSky_0 (by decide +kernel)), rfl⟩
theorem dm_readSky_14 : db tm_readSky 14 (.if_icmp .ne) 23 17 := ⟨9, o_160 0 9 9 (oWd (K := 0) (r := 14) wi_m_readSky_0 (by decide +kernel)), rfl, rfl⟩
theorem dm_readSky_17 : dl tm_readSky 17 .aload_n .aload 0 18 := Or.inl ⟨0, o_42 (oW (K := 0) (r := 17) wi_m_readSky_0 (by decide +kernel)), rfl, rfl⟩
theorem dm_readSky_18 : dn tm_readSky 18 (.iconst 3) 1 19 := ⟨o_6 (oW (K := 0) (r := 18) wi_m_readSky_0 (by decide +kernel)), rfl⟩
theorem dm_readSky_19 : dn tm_readSky 19 (.invokevirtual 237) 3 22 := ⟨o_182 0 237 237 (oWd (K := 0) (r := 19) wi_m_readSky_0 (by decide +kernel)), rfl⟩
theorem dm_readSky_22 : dn tm_readSky 22 (.ireturn) 1 23 := ⟨o_172 (oW (K := 0) (r := 22) wi_m_readSky_0 (by decide +kernel)), rfl⟩
theorem dm_readSky_23 : dl tm_readSky 23 .aload_n .aload 0 24 := Or.inl ⟨0, o_42 (oW (K := 0) (r := 23) wi_m_readSky_0 (by decide +kernel)), rfl, rfl⟩
theorem dm_readSky_24 : dn tm_readSky 24 (.bipush 48) 2 26 := ⟨o_16 48 48 (oWd (K := 0) (r := 24) wi_m_readSky_0 (by decide +kernel)), rfl⟩
theorem dm_readSky_26 : dn tm_readSky 26 (.iconst 3) 1 27 := ⟨o_6 (oW (K := 0) (r := 26) wi_m_readSky_0 (by decide +kernel)), rfl⟩
theorem dm_readSky_27 : dl tm_readSky 27 .iload_n .iload 1 28 := Or.inl ⟨1, o_27 (oW (K := 0) (r := 27) wi_m_readSky_0 (by decide +kernel)), rfl, rfl⟩
theorem dm_readSky_28 : dn tm_readSky 28 (.imul) 1 29 := ⟨o_104 (oW (K := 0) (r := 28) wi_m_readSky_0 (by decide +kernel)), rfl⟩
theorem dm_readSky_29 : dn tm_readSky 29 (.iadd) 1 30 := ⟨o_96 (oW (K := 0) (r := 29) wi_m_readSky_0 (by decide +kernel)), rfl⟩
theorem dm_readSky_30 : dn tm_readSky 30 (.invokevirtual 297) 3 33 := ⟨o_182 1 41 297 (oWd (K := 0) (r := 30) wi_m_readSky_0 (by decide +kernel)), rfl⟩
def wl_m_readSky_32 : List Nat := [41, 2, 160, 0, 5, 2, 172, 27, 4, 96, 60, 167, 255, 215, 42, 180, 0, 207, 154, 0, 7, 27, 167, 0, 8, 42, 4, 182, 0, 237, 172]
theorem wi_m_readSky_32 : oC tm_readSky.2.1 32 wl_m_readSky_32 = true := by decide +kernel
theorem dm_readSky_33 : dn tm_readSky 33 (.iconst (-1)) 1 34 := ⟨o_2 (oW (K := 32) (r := 1) wi_m_readSky_32 (by decide +kernel)), rfl⟩
theorem dm_readSky_34 : db tm_readSky 34 (.if_icmp .ne) 39 37 := ⟨5, o_160 0 5 5 (oWd (K := 32) (r := 2) wi_m_readSky_32 (by decide +kernel)), rfl, rfl⟩
theorem dm_readSky_37 : dn tm_readSky 37 (.iconst (-1)) 1 38 := ⟨o_2 (oW (K := 32) (r := 5) wi_m_readSky_32 (by decide +kernel)), rfl⟩
theorem dm_readSky_38 : dn tm_readSky 38 (.ireturn) 1 39 := ⟨o_172 (oW (K := 32) (r := 6) wi_m_readSky_32 (by decide +kernel)), rfl⟩
theorem dm_readSky_39 : dl tm_readSky 39 .iload_n .iload 1 40 := Or.inl ⟨1, o_27 (oW (K := 32) (r := 7) wi_m_readSky_32 (by decide +kernel)), rfl, rfl⟩
theorem dm_readSky_40 : dn tm_readSky 40 (.iconst 1) 1 41 := ⟨o_4 (oW (K := 32) (r := 8) wi_m_readSky_32 (by decide +kernel)), rfl⟩
theorem dm_readSky_41 : dn tm_readSky 41 (.iadd) 1 42 := ⟨o_96 (oW (K := 32) (r := 9) wi_m_readSky_32 (by decide +kernel)), rfl⟩
theorem dm_readSky_42 : dl tm_readSky 42 .istore_n .istore 1 43 := Or.inl ⟨1, o_60 (oW (K := 32) (r := 10) wi_m_readSky_32 (by decide +kernel)), rfl, rfl⟩
theorem dm_readSky_43 : db tm_readSky 43 .goto 2 46 := ⟨-41, o_167 255 215 (-41) (oWd (K := 32) (r := 11) wi_m_readSky_32 (by decide +kernel)), rfl, rfl⟩
theorem dm_readSky_46 : dl tm_readSky 46 .aload_n .aload 0 47 := Or.inl ⟨0, o_42 (oW (K := 32) (r := 14) wi_m_readSky_32 (by decide +kernel)), rfl, rfl⟩
theorem dm_readSky_47 : dn tm_readSky 47 (.getfield 207) 3 50 := ⟨o_180 0 207 207 (oWd (K := 32) (r := 15) wi_m_readSky_32 (by decide +kernel)), rfl⟩
theorem dm_readSky_50 : db tm_readSky 50 (.ifCond .ne) 57 53 := ⟨7, o_154 0 7 7 (oWd (K := 32) (r := 18) wi_m_readSky_32 (by decide +kernel)), rfl, rfl⟩
theorem dm_readSky_53 : dl tm_readSky 53 .iload_n .iload 1 54 := Or.inl ⟨1, o_27 (oW (K := 32) (r := 21) wi_m_readSky_32 (by decide +kernel)), rfl, rfl⟩
theorem dm_readSky_54 : db tm_readSky 54 .goto 62 57 := ⟨8, o_167 0 8 8 (oWd (K := 32) (r := 22) wi_m_readSky_32 (by decide +kernel)), rfl, rfl⟩
theorem dm_readSky_57 : dl tm_readSky 57 .aload_n .aload 0 58 := Or.inl ⟨0, o_42 (oW (K := 32) (r := 25) wi_m_readSky_32 (by decide +kernel)), rfl, rfl⟩
theorem dm_readSky_58 : dn tm_readSky 58 (.iconst 1) 1 59 := ⟨o_4 (oW (K := 32) (r := 26) wi_m_readSky_32 (by decide +kernel)), rfl⟩
theorem dm_readSky_59 : dn tm_readSky 59 (.invokevirtual 237) 3 62 := ⟨o_182 0 237 237 (oWd (K := 32) (r := 27) wi_m_readSky_32 (by decide +kernel)), rfl⟩
theorem dm_readSky_62 : dn tm_readSky 62 (.ireturn) 1 63 := ⟨o_172 (oW (K := 32) (r := 30) wi_m_readSky_32 (by decide +kernel)), rfl⟩
def wl_m_readDeed_0 : List Nat := [42, 180, 0, 65, 27, 42, 16, 19, 3, 17, 3, 231, 182, 1, 35, 79, 42, 180, 0, 65, 27, 46, 2, 160, 0, 5, 2, 172, 42, 180, 0, 207, 5, 160, 0, 18, 42, 42]
theorem wi_m_readDeed_0 : oC tm_readDeed.2.1 0 wl_m_readDeed_0 = true := by decide +kernel
theorem dm_readDeed_0 : dl tm_readDeed 0 .aload_n .aload 0 1 := Or.inl ⟨0, o_42 (oW (K := 0) (r := 0) wi_m_readDeed_0 (by decide +kernel)), rfl, rfl⟩
theorem dm_readDeed_1 : dn tm_readDeed 1 (.getfield 65) 3 4 := ⟨o_180 0 65 65 (oWd (K := 0) (r := 1) wi_m_readDeed_0 (by decide +kernel)), rfl⟩
theorem dm_readDeed_4 : dl tm_readDeed 4 .iload_n .iload 1 5 := Or.inl ⟨1, o_27 (oW (K := 0) (r := 4) wi_m_readDeed_0 (by decide +kernel)), rfl, rfl⟩
theorem dm_readDeed_5 : dl tm_readDeed 5 .aload_n .aload 0 6 := Or.inl ⟨0, o_42 (oW (K := 0) (r := 5) wi_m_readDeed_0 (by decide +kernel)), rfl, rfl⟩
theorem dm_readDeed_6 : dn tm_readDeed 6 (.bipush 19) 2 8 := ⟨o_16 19 19 (oWd (K := 0) (r := 6) wi_m_readDeed_0 (by decide +kernel)), rfl⟩
theorem dm_readDeed_8 : dn tm_readDeed 8 (.iconst 0) 1 9 := ⟨o_3 (oW (K := 0) (r := 8) wi_m_readDeed_0 (by decide +kernel)), rfl⟩
theorem dm_readDeed_9 : dn tm_readDeed 9 (.sipush 999) 3 12 := ⟨o_17 3 231 999 (oWd (K := 0) (r := 9) wi_m_readDeed_0 (by decide +kernel)), rfl⟩
theorem dm_readDeed_12 : dn tm_readDeed 12 (.invokevirtual 291) 3 15 := ⟨o_182 1 35 291 (oWd (K := 0) (r := 12) wi_m_readDeed_0 (by decide +kernel)), rfl⟩
theorem dm_readDeed_15 : dn tm_readDeed 15 (.iastore) 1 16 := ⟨o_79 (oW (K := 0) (r := 15) wi_m_readDeed_0 (by decide +kernel)), rfl⟩
theorem dm_readDeed_16 : dl tm_readDeed 16 .aload_n .aload 0 17 := Or.inl ⟨0, o_42 (oW (K := 0) (r := 16) wi_m_readDeed_0 (by decide +kernel)), rfl, rfl⟩
theorem dm_readDeed_17 : dn tm_readDeed 17 (.getfield 65) 3 20 := ⟨o_180 0 65 65 (oWd (K := 0) (r := 17) wi_m_readDeed_0 (by decide +kernel)), rfl⟩
theorem dm_readDeed_20 : dl tm_readDeed 20 .iload_n .iload 1 21 := Or.inl ⟨1, o_27 (oW (K := 0) (r := 20) wi_m_readDeed_0 (by decide +kernel)), rfl, rfl⟩
theorem dm_readDeed_21 : dn tm_readDeed 21 (.iaload) 1 22 := ⟨o_46 (oW (K := 0) (r := 21) wi_m_readDeed_0 (by decide +kernel)), rfl⟩
theorem dm_readDeed_22 : dn tm_readDeed 22 (.iconst (-1)) 1 23 := ⟨o_2 (oW (K := 0) (r := 22) wi_m_readDeed_0 (by decide +kernel)), rfl⟩
theorem dm_readDeed_23 : db tm_readDeed 23 (.if_icmp .ne) 28 26 := ⟨5, o_160 0 5 5 (oWd (K := 0) (r := 23) wi_m_readDeed_0 (by decide +kernel)), rfl, rfl⟩
theorem dm_readDeed_26 : dn tm_readDeed 26 (.iconst (-1)) 1 27 := ⟨o_2 (oW (K := 0) (r := 26) wi_m_readDeed_0 (by decide +kernel)), rfl⟩
theorem dm_readDeed_27 : dn tm_readDeed 27 (.ireturn) 1 28 := ⟨o_172 (oW (K := 0) (r := 27) wi_m_readDeed_0 (by decide +kernel)), rfl⟩
theorem dm_readDeed_28 : dl tm_readDeed 28 .aload_n .aload 0 29 := Or.inl ⟨0, o_42 (oW (K := 0) (r := 28) wi_m_readDeed_0 (by decide +kernel)), rfl, rfl⟩
theorem dm_readDeed_29 : dn tm_readDeed 29 (.getfield 207) 3 32 := ⟨o_180 0 207 207 (oWd (K := 0) (r := 29) wi_m_readDeed_0 (by decide +kernel)), rfl⟩
def wl_m_readDeed_32 : List Nat := [5, 160, 0, 18, 42, 42, 180, 0, 210, 16, 21, 16, 24, 182, 0, 177, 154, 0, 9, 42, 4, 182, 0, 237, 172, 42, 180, 0, 210, 16, 21, 100, 61, 42, 182, 0, 244, 42]
theorem wi_m_readDeed_32 : oC tm_readDeed.2.1 32 wl_m_readDeed_32 = true := by decide +kernel
theorem dm_readDeed_32 : dn tm_readDeed 32 (.iconst 2) 1 33 := ⟨o_5 (oW (K := 32) (r := 0) wi_m_readDeed_32 (by decide +kernel)), rfl⟩
theorem dm_readDeed_33 : db tm_readDeed 33 (.if_icmp .ne) 51 36 := ⟨18, o_160 0 18 18 (oWd (K := 32) (r := 1) wi_m_readDeed_32 (by decide +kernel)), rfl, rfl⟩
theorem dm_readDeed_36 : dl tm_readDeed 36 .aload_n .aload 0 37 := Or.inl ⟨0, o_42 (oW (K := 32) (r := 4) wi_m_readDeed_32 (by decide +kernel)), rfl, rfl⟩
theorem dm_readDeed_37 : dl tm_readDeed 37 .aload_n .aload 0 38 := Or.inl ⟨0, o_42 (oW (K := 32) (r := 5) wi_m_readDeed_32 (by decide +kernel)), rfl, rfl⟩
theorem dm_readDeed_38 : dn tm_readDeed 38 (.getfield 210) 3 41 := ⟨o_180 0 210 210 (oWd (K := 32) (r := 6) wi_m_readDeed_32 (by decide +kernel)), rfl⟩
theorem dm_readDeed_41 : dn tm_readDeed 41 (.bipush 21) 2 43 := ⟨o_16 21 21 (oWd (K := 32) (r := 9) wi_m_readDeed_32 (by decide +kernel)), rfl⟩
theorem dm_readDeed_43 : dn tm_readDeed 43 (.bipush 24) 2 45 := ⟨o_16 24 24 (oWd (K := 32) (r := 11) wi_m_readDeed_32 (by decide +kernel)), rfl⟩
theorem dm_readDeed_45 : dn tm_readDeed 45 (.invokevirtual 177) 3 48 := ⟨o_182 0 177 177 (oWd (K := 32) (r := 13) wi_m_readDeed_32 (by decide +kernel)), rfl⟩
theorem dm_readDeed_48 : db tm_readDeed 48 (.ifCond .ne) 57 51 := ⟨9, o_154 0 9 9 (oWd (K := 32) (r := 16) wi_m_readDeed_32 (by decide +kernel)), rfl, rfl⟩
theorem dm_readDeed_51 : dl tm_readDeed 51 .aload_n .aload 0 52 := Or.inl ⟨0, o_42 (oW (K := 32) (r := 19) wi_m_readDeed_32 (by decide +kernel)), rfl, rfl⟩
theorem dm_readDeed_52 : dn tm_readDeed 52 (.iconst 1) 1 53 := ⟨o_4 (oW (K := 32) (r := 20) wi_m_readDeed_32 (by decide +kernel)), rfl⟩
theorem dm_readDeed_53 : dn tm_readDeed 53 (.invokevirtual 237) 3 56 := ⟨o_182 0 237 237 (oWd (K := 32) (r := 21) wi_m_readDeed_32 (by decide +kernel)), rfl⟩
theorem dm_readDeed_56 : dn tm_readDeed 56 (.ireturn) 1 57 := ⟨o_172 (oW (K := 32) (r := 24) wi_m_readDeed_32 (by decide +kernel)), rfl⟩
theorem dm_readDeed_57 : dl tm_readDeed 57 .aload_n .aload 0 58 := Or.inl ⟨0, o_42 (oW (K := 32) (r := 25) wi_m_readDeed_32 (by decide +kernel)), rfl, rfl⟩
theorem dm_readDeed_58 : dn tm_readDeed 58 (.getfield 210) 3 61 := ⟨o_180 0 210 210 (oWd (K := 32) (r := 26) wi_m_readDeed_32 (by decide +kernel)), rfl⟩
theorem dm_readDeed_61 : dn tm_readDeed 61 (.bipush 21) 2 63 := ⟨o_16 21 21 (oWd (K := 32) (r := 29) wi_m_readDeed_32 (by decide +kernel)), rfl⟩
theorem dm_readDeed_63 : dn tm_readDeed 63 (.isub) 1 64 := ⟨o_100 (oW (K := 32) (r := 31) wi_m_readDeed_32 (by decide +kernel)), rfl⟩
def wl_m_readDeed_64 : List Nat := [61, 42, 182, 0, 244, 42, 180, 0, 65, 27, 4, 96, 28, 79, 42, 180, 0, 65, 27, 5, 96, 42, 3, 42, 180, 0, 158, 4, 100, 182, 1, 32, 79, 42, 180, 0, 65, 27]
theorem wi_m_readDeed_64 : oC tm_readDeed.2.1 64 wl_m_readDeed_64 = true := by decide +kernel
theorem dm_readDeed_64 : dl tm_readDeed 64 .istore_n .istore 2 65 := Or.inl ⟨2, o_61 (oW (K := 64) (r := 0) wi_m_readDeed_64 (by decide +kernel)), rfl, rfl⟩
theorem dm_readDeed_65 : dl tm_readDeed 65 .aload_n .aload 0 66 := Or.inl ⟨0, o_42 (oW (K := 64) (r := 1) wi_m_readDeed_64 (by decide +kernel)), rfl, rfl⟩
theorem dm_readDeed_66 : dn tm_readDeed 66 (.invokevirtual 244) 3 69 := ⟨o_182 0 244 244 (oWd (K := 64) (r := 2) wi_m_readDeed_64 (by decide +kernel)), rfl⟩
theorem dm_readDeed_69 : dl tm_readDeed 69 .aload_n .aload 0 70 := Or.inl ⟨0, o_42 (oW (K := 64) (r := 5) wi_m_readDeed_64 (by decide +kernel)), rfl, rfl⟩
theorem dm_readDeed_70 : dn tm_readDeed 70 (.getfield 65) 3 73 := ⟨o_180 0 65 65 (oWd (K := 64) (r := 6) wi_m_readDeed_64 (by decide +kernel)), rfl⟩
theorem dm_readDeed_73 : dl tm_readDeed 73 .iload_n .iload 1 74 := Or.inl ⟨1, o_27 (oW (K := 64) (r := 9) wi_m_readDeed_64 (by decide +kernel)), rfl, rfl⟩
theorem dm_readDeed_74 : dn tm_readDeed 74 (.iconst 1) 1 75 := ⟨o_4 (oW (K := 64) (r := 10) wi_m_readDeed_64 (by decide +kernel)), rfl⟩
theorem dm_readDeed_75 : dn tm_readDeed 75 (.iadd) 1 76 := ⟨o_96 (oW (K := 64) (r := 11) wi_m_readDeed_64 (by decide +kernel)), rfl⟩
theorem dm_readDeed_76 : dl tm_readDeed 76 .iload_n .iload 2 77 := Or.inl ⟨2, o_28 (oW (K := 64) (r := 12) wi_m_readDeed_64 (by decide +kernel)), rfl, rfl⟩
theorem dm_readDeed_77 : dn tm_readDeed 77 (.iastore) 1 78 := ⟨o_79 (oW (K := 64) (r := 13) wi_m_readDeed_64 (by decide +kernel)), rfl⟩
theorem dm_readDeed_78 : dl tm_readDeed 78 .aload_n .aload 0 79 := Or.inl ⟨0, o_42 (oW (K := 64) (r := 14) wi_m_readDeed_64 (by decide +kernel)), rfl, rfl⟩
theorem dm_readDeed_79 : dn tm_readDeed 79 (.getfield 65) 3 82 := ⟨o_180 0 65 65 (oWd (K := 64) (r := 15) wi_m_readDeed_64 (by decide +kernel)), rfl⟩
theorem dm_readDeed_82 : dl tm_readDeed 82 .iload_n .iload 1 83 := Or.inl ⟨1, o_27 (oW (K := 64) (r := 18) wi_m_readDeed_64 (by decide +kernel)), rfl, rfl⟩
theorem dm_readDeed_83 : dn tm_readDeed 83 (.iconst 2) 1 84 := ⟨o_5 (oW (K := 64) (r := 19) wi_m_readDeed_64 (by decide +kernel)), rfl⟩
theorem dm_readDeed_84 : dn tm_readDeed 84 (.iadd) 1 85 := ⟨o_96 (oW (K := 64) (r := 20) wi_m_readDeed_64 (by decide +kernel)), rfl⟩
theorem dm_readDeed_85 : dl tm_readDeed 85 .aload_n .aload 0 86 := Or.inl ⟨0, o_42 (oW (K := 64) (r := 21) wi_m_readDeed_64 (by decide +kernel)), rfl, rfl⟩
theorem dm_readDeed_86 : dn tm_readDeed 86 (.iconst 0) 1 87 := ⟨o_3 (oW (K := 64) (r := 22) wi_m_readDeed_64 (by decide +kernel)), rfl⟩
theorem dm_readDeed_87 : dl tm_readDeed 87 .aload_n .aload 0 88 := Or.inl ⟨0, o_42 (oW (K := 64) (r := 23) wi_m_readDeed_64 (by decide +kernel)), rfl, rfl⟩
theorem dm_readDeed_88 : dn tm_readDeed 88 (.getfield 158) 3 91 := ⟨o_180 0 158 158 (oWd (K := 64) (r := 24) wi_m_readDeed_64 (by decide +kernel)), rfl⟩
theorem dm_readDeed_91 : dn tm_readDeed 91 (.iconst 1) 1 92 := ⟨o_4 (oW (K := 64) (r := 27) wi_m_readDeed_64 (by decide +kernel)), rfl⟩
theorem dm_readDeed_92 : dn tm_readDeed 92 (.isub) 1 93 := ⟨o_100 (oW (K := 64) (r := 28) wi_m_readDeed_64 (by decide +kernel)), rfl⟩
theorem dm_readDeed_93 : dn tm_readDeed 93 (.invokevirtual 288) 3 96 := ⟨o_182 1 32 288 (oWd (K := 64) (r := 29) wi_m_readDeed_64 (by decide +kernel)), rfl⟩
def wl_m_readDeed_96 : List Nat := [79, 42, 180, 0, 65, 27, 5, 96, 46, 2, 160, 0, 5, 2, 172, 42, 180, 0, 65, 27, 6, 96, 28, 4, 160, 0, 12, 42, 3, 6, 182, 1, 32, 167, 0, 4, 3, 79]
theorem wi_m_readDeed_96 : oC tm_readDeed.2.1 96 wl_m_readDeed_96 = true := by decide +kernel
theorem dm_readDeed_96 : dn tm_readDeed 96 (.iastore) 1 97 := ⟨o_79 (oW (K := 96) (r := 0) wi_m_readDeed_96 (by decide +kernel)), rfl⟩
theorem dm_readDeed_97 : dl tm_readDeed 97 .aload_n .aload 0 98 := Or.inl ⟨0, o_42 (oW (K := 96) (r := 1) wi_m_readDeed_96 (by decide +kernel)), rfl, rfl⟩
theorem dm_readDeed_98 : dn tm_readDeed 98 (.getfield 65) 3 101 := ⟨o_180 0 65 65 (oWd (K := 96) (r := 2) wi_m_readDeed_96 (by decide +kernel)), rfl⟩
theorem dm_readDeed_101 : dl tm_readDeed 101 .iload_n .iload 1 102 := Or.inl ⟨1, o_27 (oW (K := 96) (r := 5) wi_m_readDeed_96 (by decide +kernel)), rfl, rfl⟩
theorem dm_readDeed_102 : dn tm_readDeed 102 (.iconst 2) 1 103 := ⟨o_5 (oW (K := 96) (r := 6) wi_m_readDeed_96 (by decide +kernel)), rfl⟩
theorem dm_readDeed_103 : dn tm_readDeed 103 (.iadd) 1 104 := ⟨o_96 (oW (K := 96) (r := 7) wi_m_readDeed_96 (by decide +kernel)), rfl⟩
theorem dm_readDeed_104 : dn tm_readDeed 104 (.iaload) 1 105 := ⟨o_46 (oW (K := 96) (r := 8) wi_m_readDeed_96 (by decide +kernel)), rfl⟩
theorem dm_readDeed_105 : dn tm_readDeed 105 (.iconst (-1)) 1 106 := ⟨o_2 (oW (K := 96) (r := 9) wi_m_readDeed_96 (by decide +kernel)), rfl⟩
theorem dm_readDeed_106 : db tm_readDeed 106 (.if_icmp .ne) 111 109 := ⟨5, o_160 0 5 5 (oWd (K := 96) (r := 10) wi_m_readDeed_96 (by decide +kernel)), rfl, rfl⟩
theorem dm_readDeed_109 : dn tm_readDeed 109 (.iconst (-1)) 1 110 := ⟨o_2 (oW (K := 96) (r := 13) wi_m_readDeed_96 (by decide +kernel)), rfl⟩
theorem dm_readDeed_110 : dn tm_readDeed 110 (.ireturn) 1 111 := ⟨o_172 (oW (K := 96) (r := 14) wi_m_readDeed_96 (by decide +kernel)), rfl⟩
theorem dm_readDeed_111 : dl tm_readDeed 111 .aload_n .aload 0 112 := Or.inl ⟨0, o_42 (oW (K := 96) (r := 15) wi_m_readDeed_96 (by decide +kernel)), rfl, rfl⟩
theorem dm_readDeed_112 : dn tm_readDeed 112 (.getfield 65) 3 115 := ⟨o_180 0 65 65 (oWd (K := 96) (r := 16) wi_m_readDeed_96 (by decide +kernel)), rfl⟩
theorem dm_readDeed_115 : dl tm_readDeed 115 .iload_n .iload 1 116 := Or.inl ⟨1, o_27 (oW (K := 96) (r := 19) wi_m_readDeed_96 (by decide +kernel)), rfl, rfl⟩
theorem dm_readDeed_116 : dn tm_readDeed 116 (.iconst 3) 1 117 := ⟨o_6 (oW (K := 96) (r := 20) wi_m_readDeed_96 (by decide +kernel)), rfl⟩
theorem dm_readDeed_117 : dn tm_readDeed 117 (.iadd) 1 118 := ⟨o_96 (oW (K := 96) (r := 21) wi_m_readDeed_96 (by decide +kernel)), rfl⟩
theorem dm_readDeed_118 : dl tm_readDeed 118 .iload_n .iload 2 119 := Or.inl ⟨2, o_28 (oW (K := 96) (r := 22) wi_m_readDeed_96 (by decide +kernel)), rfl, rfl⟩
theorem dm_readDeed_119 : dn tm_readDeed 119 (.iconst 1) 1 120 := ⟨o_4 (oW (K := 96) (r := 23) wi_m_readDeed_96 (by decide +kernel)), rfl⟩
theorem dm_readDeed_120 : db tm_readDeed 120 (.if_icmp .ne) 132 123 := ⟨12, o_160 0 12 12 (oWd (K := 96) (r := 24) wi_m_readDeed_96 (by decide +kernel)), rfl, rfl⟩
theorem dm_readDeed_123 : dl tm_readDeed 123 .aload_n .aload 0 124 := Or.inl ⟨0, o_42 (oW (K := 96) (r := 27) wi_m_readDeed_96 (by decide +kernel)), rfl, rfl⟩
theorem dm_readDeed_124 : dn tm_readDeed 124 (.iconst 0) 1 125 := ⟨o_3 (oW (K := 96) (r := 28) wi_m_readDeed_96 (by decide +kernel)), rfl⟩
theorem dm_readDeed_125 : dn tm_readDeed 125 (.iconst 3) 1 126 := ⟨o_6 (oW (K := 96) (r := 29) wi_m_readDeed_96 (by decide +kernel)), rfl⟩
theorem dm_readDeed_126 : dn tm_readDeed 126 (.invokevirtual 288) 3 129 := ⟨o_182 1 32 288 (oWd (K := 96) (r := 30) wi_m_readDeed_96 (by decide +kernel)), rfl⟩
def wl_m_readDeed_128 : List Nat := [32, 167, 0, 4, 3, 79, 42, 180, 0, 65, 27, 6, 96, 46, 2, 160, 0, 5, 2, 172, 42, 180, 0, 65, 27, 7, 96, 28, 153, 0, 8, 28, 4, 160, 0, 13, 42, 4]
theorem wi_m_readDeed_128 : oC tm_readDeed.2.1 128 wl_m_readDeed_128 = true := by decide +kernel
theorem dm_readDeed_129 : db tm_readDeed 129 .goto 133 132 := ⟨4, o_167 0 4 4 (oWd (K := 128) (r := 1) wi_m_readDeed_128 (by decide +kernel)), rfl, rfl⟩
theorem dm_readDeed_132 : dn tm_readDeed 132 (.iconst 0) 1 133 := ⟨o_3 (oW (K := 128) (r := 4) wi_m_readDeed_128 (by decide +kernel)), rfl⟩
theorem dm_readDeed_133 : dn tm_readDeed 133 (.iastore) 1 134 := ⟨o_79 (oW (K := 128) (r := 5) wi_m_readDeed_128 (by decide +kernel)), rfl⟩
theorem dm_readDeed_134 : dl tm_readDeed 134 .aload_n .aload 0 135 := Or.inl ⟨0, o_42 (oW (K := 128) (r := 6) wi_m_readDeed_128 (by decide +kernel)), rfl, rfl⟩
theorem dm_readDeed_135 : dn tm_readDeed 135 (.getfield 65) 3 138 := ⟨o_180 0 65 65 (oWd (K := 128) (r := 7) wi_m_readDeed_128 (by decide +kernel)), rfl⟩
theorem dm_readDeed_138 : dl tm_readDeed 138 .iload_n .iload 1 139 := Or.inl ⟨1, o_27 (oW (K := 128) (r := 10) wi_m_readDeed_128 (by decide +kernel)), rfl, rfl⟩
theorem dm_readDeed_139 : dn tm_readDeed 139 (.iconst 3) 1 140 := ⟨o_6 (oW (K := 128) (r := 11) wi_m_readDeed_128 (by decide +kernel)), rfl⟩
theorem dm_readDeed_140 : dn tm_readDeed 140 (.iadd) 1 141 := ⟨o_96 (oW (K := 128) (r := 12) wi_m_readDeed_128 (by decide +kernel)), rfl⟩
theorem dm_readDeed_141 : dn tm_readDeed 141 (.iaload) 1 142 := ⟨o_46 (oW (K := 128) (r := 13) wi_m_readDeed_128 (by decide +kernel)), rfl⟩
theorem dm_readDeed_142 : dn tm_readDeed 142 (.iconst (-1)) 1 143 := ⟨o_2 (oW (K := 128) (r := 14) wi_m_readDeed_128 (by decide +kernel)), rfl⟩
theorem dm_readDeed_143 : db tm_readDeed 143 (.if_icmp .ne) 148 146 := ⟨5, o_160 0 5 5 (oWd (K := 128) (r := 15) wi_m_readDeed_128 (by decide +kernel)), rfl, rfl⟩
theorem dm_readDeed_146 : dn tm_readDeed 146 (.iconst (-1)) 1 147 := ⟨o_2 (oW (K := 128) (r := 18) wi_m_readDeed_128 (by decide +kernel)), rfl⟩
theorem dm_readDeed_147 : dn tm_readDeed 147 (.ireturn) 1 148 := ⟨o_172 (oW (K := 128) (r := 19) wi_m_readDeed_128 (by decide +kernel)), rfl⟩
theorem dm_readDeed_148 : dl tm_readDeed 148 .aload_n .aload 0 149 := Or.inl ⟨0, o_42 (oW (K := 128) (r := 20) wi_m_readDeed_128 (by decide +kernel)), rfl, rfl⟩
theorem dm_readDeed_149 : dn tm_readDeed 149 (.getfield 65) 3 152 := ⟨o_180 0 65 65 (oWd (K := 128) (r := 21) wi_m_readDeed_128 (by decide +kernel)), rfl⟩
theorem dm_readDeed_152 : dl tm_readDeed 152 .iload_n .iload 1 153 := Or.inl ⟨1, o_27 (oW (K := 128) (r := 24) wi_m_readDeed_128 (by decide +kernel)), rfl, rfl⟩
theorem dm_readDeed_153 : dn tm_readDeed 153 (.iconst 4) 1 154 := ⟨o_7 (oW (K := 128) (r := 25) wi_m_readDeed_128 (by decide +kernel)), rfl⟩
theorem dm_readDeed_154 : dn tm_readDeed 154 (.iadd) 1 155 := ⟨o_96 (oW (K := 128) (r := 26) wi_m_readDeed_128 (by decide +kernel)), rfl⟩
theorem dm_readDeed_155 : dl tm_readDeed 155 .iload_n .iload 2 156 := Or.inl ⟨2, o_28 (oW (K := 128) (r := 27) wi_m_readDeed_128 (by decide +kernel)), rfl, rfl⟩
theorem dm_readDeed_156 : db tm_readDeed 156 (.ifCond .eq) 164 159 := ⟨8, o_153 0 8 8 (oWd (K := 128) (r := 28) wi_m_readDeed_128 (by decide +kernel)), rfl, rfl⟩
theorem dm_readDeed_159 : dl tm_readDeed 159 .iload_n .iload 2 160 := Or.inl ⟨2, o_28 (oW (K := 128) (r := 31) wi_m_readDeed_128 (by decide +kernel)), rfl, rfl⟩
def wl_m_readDeed_160 : List Nat := [4, 160, 0, 13, 42, 4, 16, 99, 182, 1, 32, 167, 0, 4, 3, 79, 42, 180, 0, 65, 27, 7, 96, 46, 2, 160, 0, 7, 2, 167, 0, 9, 42, 16, 59, 182, 1, 38]
theorem wi_m_readDeed_160 : oC tm_readDeed.2.1 160 wl_m_readDeed_160 = true := by decide +kernel
theorem dm_readDeed_160 : dn tm_readDeed 160 (.iconst 1) 1 161 := ⟨o_4 (oW (K := 160) (r := 0) wi_m_readDeed_160 (by decide +kernel)), rfl⟩
theorem dm_readDeed_161 : db tm_readDeed 161 (.if_icmp .ne) 174 164 := ⟨13, o_160 0 13 13 (oWd (K := 160) (r := 1) wi_m_readDeed_160 (by decide +kernel)), rfl, rfl⟩
theorem dm_readDeed_164 : dl tm_readDeed 164 .aload_n .aload 0 165 := Or.inl ⟨0, o_42 (oW (K := 160) (r := 4) wi_m_readDeed_160 (by decide +kernel)), rfl, rfl⟩
theorem dm_readDeed_165 : dn tm_readDeed 165 (.iconst 1) 1 166 := ⟨o_4 (oW (K := 160) (r := 5) wi_m_readDeed_160 (by decide +kernel)), rfl⟩
theorem dm_readDeed_166 : dn tm_readDeed 166 (.bipush 99) 2 168 := ⟨o_16 99 99 (oWd (K := 160) (r := 6) wi_m_readDeed_160 (by decide +kernel)), rfl⟩
theorem dm_readDeed_168 : dn tm_readDeed 168 (.invokevirtual 288) 3 171 := ⟨o_182 1 32 288 (oWd (K := 160) (r := 8) wi_m_readDeed_160 (by decide +kernel)), rfl⟩
theorem dm_readDeed_171 : db tm_readDeed 171 .goto 175 174 := ⟨4, o_167 0 4 4 (oWd (K := 160) (r := 11) wi_m_readDeed_160 (by decide +kernel)), rfl, rfl⟩
theorem dm_readDeed_174 : dn tm_readDeed 174 (.iconst 0) 1 175 := ⟨o_3 (oW (K := 160) (r := 14) wi_m_readDeed_160 (by decide +kernel)), rfl⟩
theorem dm_readDeed_175 : dn tm_readDeed 175 (.iastore) 1 176 := ⟨o_79 (oW (K := 160) (r := 15) wi_m_readDeed_160 (by decide +kernel)), rfl⟩
theorem dm_readDeed_176 : dl tm_readDeed 176 .aload_n .aload 0 177 := Or.inl ⟨0, o_42 (oW (K := 160) (r := 16) wi_m_readDeed_160 (by decide +kernel)), rfl, rfl⟩
theorem dm_readDeed_177 : dn tm_readDeed 177 (.getfield 65) 3 180 := ⟨o_180 0 65 65 (oWd (K := 160) (r := 17) wi_m_readDeed_160 (by decide +kernel)), rfl⟩
theorem dm_readDeed_180 : dl tm_readDeed 180 .iload_n .iload 1 181 := Or.inl ⟨1, o_27 (oW (K := 160) (r := 20) wi_m_readDeed_160 (by decide +kernel)), rfl, rfl⟩
theorem dm_readDeed_181 : dn tm_readDeed 181 (.iconst 4) 1 182 := ⟨o_7 (oW (K := 160) (r := 21) wi_m_readDeed_160 (by decide +kernel)), rfl⟩
theorem dm_readDeed_182 : dn tm_readDeed 182 (.iadd) 1 183 := ⟨o_96 (oW (K := 160) (r := 22) wi_m_readDeed_160 (by decide +kernel)), rfl⟩
theorem dm_readDeed_183 : dn tm_readDeed 183 (.iaload) 1 184 := ⟨o_46 (oW (K := 160) (r := 23) wi_m_readDeed_160 (by decide +kernel)), rfl⟩
theorem dm_readDeed_184 : dn tm_readDeed 184 (.iconst (-1)) 1 185 := ⟨o_2 (oW (K := 160) (r := 24) wi_m_readDeed_160 (by decide +kernel)), rfl⟩
theorem dm_readDeed_185 : db tm_readDeed 185 (.if_icmp .ne) 192 188 := ⟨7, o_160 0 7 7 (oWd (K := 160) (r := 25) wi_m_readDeed_160 (by decide +kernel)), rfl, rfl⟩
theorem dm_readDeed_188 : dn tm_readDeed 188 (.iconst (-1)) 1 189 := ⟨o_2 (oW (K := 160) (r := 28) wi_m_readDeed_160 (by decide +kernel)), rfl⟩
theorem dm_readDeed_189 : db tm_readDeed 189 .goto 198 192 := ⟨9, o_167 0 9 9 (oWd (K := 160) (r := 29) wi_m_readDeed_160 (by decide +kernel)), rfl, rfl⟩
def wl_m_readDeed_192 : List Nat := [42, 16, 59, 182, 1, 38, 172]
theorem wi_m_readDeed_192 : oC tm_readDeed.2.1 192 wl_m_readDeed_192 = true := by decide +kernel
theorem dm_readDeed_192 : dl tm_readDeed 192 .aload_n .aload 0 193 := Or.inl ⟨0, o_42 (oW (K := 192) (r := 0) wi_m_readDeed_192 (by decide +kernel)), rfl, rfl⟩
theorem dm_readDeed_193 : dn tm_readDeed 193 (.bipush 59) 2 195 := ⟨o_16 59 59 (oWd (K := 192) (r := 1) wi_m_readDeed_192 (by decide +kernel)), rfl⟩
theorem dm_readDeed_195 : dn tm_readDeed 195 (.invokevirtual 294) 3 198 := ⟨o_182 1 38 294 (oWd (K := 192) (r := 3) wi_m_readDeed_192 (by decide +kernel)), rfl⟩
theorem dm_readDeed_198 : dn tm_readDeed 198 (.ireturn) 1 199 := ⟨o_172 (oW (K := 192) (r := 6) wi_m_readDeed_192 (by decide +kernel)), rfl⟩
def wl_m_readOffice_0 : List Nat := [3, 60, 42, 16, 19, 182, 1, 10, 153, 0, 38, 27, 16, 16, 160, 0, 9, 42, 6, 182, 0, 237, 172, 42, 16, 80, 8, 27, 104, 96, 182, 1, 44, 2, 160, 0, 5, 2]
theorem wi_m_readOffice_0 : oC tm_readOffice.2.1 0 wl_m_readOffice_0 = true := by decide +kernel
theorem dm_readOffice_0 : dn tm_readOffice 0 (.iconst 0) 1 1 := ⟨o_3 (oW (K := 0) (r := 0) wi_m_readOffice_0 (by decide +kernel)), rfl⟩
theorem dm_readOffice_1 : dl tm_readOffice 1 .istore_n .istore 1 2 := Or.inl ⟨1, o_60 (oW (K := 0) (r := 1) wi_m_readOffice_0 (by decide +kernel)), rfl, rfl⟩
theorem dm_readOffice_2 : dl tm_readOffice 2 .aload_n .aload 0 3 := Or.inl ⟨0, o_42 (oW (K := 0) (r := 2) wi_m_readOffice_0 (by decide +kernel)), rfl, rfl⟩
theorem dm_readOffice_3 : dn tm_readOffice 3 (.bipush 19) 2 5 := ⟨o_16 19 19 (oWd (K := 0) (r := 3) wi_m_readOffice_0 (by decide +kernel)), rfl⟩
theorem dm_readOffice_5 : dn tm_readOffice 5 (.invokevirtual 266) 3 8 := ⟨o_182 1 10 266 (oWd (K := 0) (r := 5) wi_m_readOffice_0 (by decide +kernel)), rfl⟩
theorem dm_readOffice_8 : db tm_readOffice 8 (.ifCond .eq) 46 11 := ⟨38, o_153 0 38 38 (oWd (K := 0) (r := 8) wi_m_readOffice_0 (by decide +kernel)), rfl, rfl⟩
theorem dm_readOffice_11 : dl tm_readOffice 11 .iload_n .iload 1 12 := Or.inl ⟨1, o_27 (oW (K := 0) (r := 11) wi_m_readOffice_0 (by decide +kernel)), rfl, rfl⟩
theorem dm_readOffice_12 : dn tm_readOffice 12 (.bipush 16) 2 14 := ⟨o_16 16 16 (oWd (K := 0) (r := 12) wi_m_readOffice_0 (by decide +kernel)), rfl⟩
theorem dm_readOffice_14 : db tm_readOffice 14 (.if_icmp .ne) 23 17 := ⟨9, o_160 0 9 9 (oWd (K := 0) (r := 14) wi_m_readOffice_0 (by decide +kernel)), rfl, rfl⟩
theorem dm_readOffice_17 : dl tm_readOffice 17 .aload_n .aload 0 18 := Or.inl ⟨0, o_42 (oW (K := 0) (r := 17) wi_m_readOffice_0 (by decide +kernel)), rfl, rfl⟩
theorem dm_readOffice_18 : dn tm_readOffice 18 (.iconst 3) 1 19 := ⟨o_6 (oW (K := 0) (r := 18) wi_m_readOffice_0 (by decide +kernel)), rfl⟩
theorem dm_readOffice_19 : dn tm_readOffice 19 (.invokevirtual 237) 3 22 := ⟨o_182 0 237 237 (oWd (K := 0) (r := 19) wi_m_readOffice_0 (by decide +kernel)), rfl⟩
theorem dm_readOffice_22 : dn tm_readOffice 22 (.ireturn) 1 23 := ⟨o_172 (oW (K := 0) (r := 22) wi_m_readOffice_0 (by decide +kernel)), rfl⟩
theorem dm_readOffice_23 : dl tm_readOffice 23 .aload_n .aload 0 24 := Or.inl ⟨0, o_42 (oW (K := 0) (r := 23) wi_m_readOffice_0 (by decide +kernel)), rfl, rfl⟩
theorem dm_readOffice_24 : dn tm_readOffice 24 (.bipush 80) 2 26 := ⟨o_16 80 80 (oWd (K := 0) (r := 24) wi_m_readOffice_0 (by decide +kernel)), rfl⟩
theorem dm_readOffice_26 : dn tm_readOffice 26 (.iconst 5) 1 27 := ⟨o_8 (oW (K := 0) (r := 26) wi_m_readOffice_0 (by decide +kernel)), rfl⟩
theorem dm_readOffice_27 : dl tm_readOffice 27 .iload_n .iload 1 28 := Or.inl ⟨1, o_27 (oW (K := 0) (r := 27) wi_m_readOffice_0 (by decide +kernel)), rfl, rfl⟩
theorem dm_readOffice_28 : dn tm_readOffice 28 (.imul) 1 29 := ⟨o_104 (oW (K := 0) (r := 28) wi_m_readOffice_0 (by decide +kernel)), rfl⟩
theorem dm_readOffice_29 : dn tm_readOffice 29 (.iadd) 1 30 := ⟨o_96 (oW (K := 0) (r := 29) wi_m_readOffice_0 (by decide +kernel)), rfl⟩
theorem dm_readOffice_30 : dn tm_readOffice 30 (.invokevirtual 300) 3 33 := ⟨o_182 1 44 300 (oWd (K := 0) (r := 30) wi_m_readOffice_0 (by decide +kernel)), rfl⟩
def wl_m_readOffice_32 : List Nat := [44, 2, 160, 0, 5, 2, 172, 27, 4, 96, 60, 167, 255, 215, 42, 180, 0, 207, 154, 0, 7, 27, 167, 0, 8, 42, 4, 182, 0, 237, 172]
theorem wi_m_readOffice_32 : oC tm_readOffice.2.1 32 wl_m_readOffice_32 = true := by decide +kernel
theorem dm_readOffice_33 : dn tm_readOffice 33 (.iconst (-1)) 1 34 := ⟨o_2 (oW (K := 32) (r := 1) wi_m_readOffice_32 (by decide +kernel)), rfl⟩
theorem dm_readOffice_34 : db tm_readOffice 34 (.if_icmp .ne) 39 37 := ⟨5, o_160 0 5 5 (oWd (K := 32) (r := 2) wi_m_readOffice_32 (by decide +kernel)), rfl, rfl⟩
theorem dm_readOffice_37 : dn tm_readOffice 37 (.iconst (-1)) 1 38 := ⟨o_2 (oW (K := 32) (r := 5) wi_m_readOffice_32 (by decide +kernel)), rfl⟩
theorem dm_readOffice_38 : dn tm_readOffice 38 (.ireturn) 1 39 := ⟨o_172 (oW (K := 32) (r := 6) wi_m_readOffice_32 (by decide +kernel)), rfl⟩
theorem dm_readOffice_39 : dl tm_readOffice 39 .iload_n .iload 1 40 := Or.inl ⟨1, o_27 (oW (K := 32) (r := 7) wi_m_readOffice_32 (by decide +kernel)), rfl, rfl⟩
theorem dm_readOffice_40 : dn tm_readOffice 40 (.iconst 1) 1 41 := ⟨o_4 (oW (K := 32) (r := 8) wi_m_readOffice_32 (by decide +kernel)), rfl⟩
theorem dm_readOffice_41 : dn tm_readOffice 41 (.iadd) 1 42 := ⟨o_96 (oW (K := 32) (r := 9) wi_m_readOffice_32 (by decide +kernel)), rfl⟩
theorem dm_readOffice_42 : dl tm_readOffice 42 .istore_n .istore 1 43 := Or.inl ⟨1, o_60 (oW (K := 32) (r := 10) wi_m_readOffice_32 (by decide +kernel)), rfl, rfl⟩
theorem dm_readOffice_43 : db tm_readOffice 43 .goto 2 46 := ⟨-41, o_167 255 215 (-41) (oWd (K := 32) (r := 11) wi_m_readOffice_32 (by decide +kernel)), rfl, rfl⟩
theorem dm_readOffice_46 : dl tm_readOffice 46 .aload_n .aload 0 47 := Or.inl ⟨0, o_42 (oW (K := 32) (r := 14) wi_m_readOffice_32 (by decide +kernel)), rfl, rfl⟩
theorem dm_readOffice_47 : dn tm_readOffice 47 (.getfield 207) 3 50 := ⟨o_180 0 207 207 (oWd (K := 32) (r := 15) wi_m_readOffice_32 (by decide +kernel)), rfl⟩
theorem dm_readOffice_50 : db tm_readOffice 50 (.ifCond .ne) 57 53 := ⟨7, o_154 0 7 7 (oWd (K := 32) (r := 18) wi_m_readOffice_32 (by decide +kernel)), rfl, rfl⟩
theorem dm_readOffice_53 : dl tm_readOffice 53 .iload_n .iload 1 54 := Or.inl ⟨1, o_27 (oW (K := 32) (r := 21) wi_m_readOffice_32 (by decide +kernel)), rfl, rfl⟩
theorem dm_readOffice_54 : db tm_readOffice 54 .goto 62 57 := ⟨8, o_167 0 8 8 (oWd (K := 32) (r := 22) wi_m_readOffice_32 (by decide +kernel)), rfl, rfl⟩
theorem dm_readOffice_57 : dl tm_readOffice 57 .aload_n .aload 0 58 := Or.inl ⟨0, o_42 (oW (K := 32) (r := 25) wi_m_readOffice_32 (by decide +kernel)), rfl, rfl⟩
theorem dm_readOffice_58 : dn tm_readOffice 58 (.iconst 1) 1 59 := ⟨o_4 (oW (K := 32) (r := 26) wi_m_readOffice_32 (by decide +kernel)), rfl⟩
theorem dm_readOffice_59 : dn tm_readOffice 59 (.invokevirtual 237) 3 62 := ⟨o_182 0 237 237 (oWd (K := 32) (r := 27) wi_m_readOffice_32 (by decide +kernel)), rfl⟩
theorem dm_readOffice_62 : dn tm_readOffice 62 (.ireturn) 1 63 := ⟨o_172 (oW (K := 32) (r := 30) wi_m_readOffice_32 (by decide +kernel)), rfl⟩
def wl_m_readNext_0 : List Nat := [42, 16, 25, 3, 42, 180, 0, 158, 4, 100, 182, 1, 35, 60, 27, 2, 160, 0, 5, 2, 172, 42, 16, 26, 182, 1, 10, 154, 0, 9, 42, 4, 182, 0, 237, 172, 42, 182]
theorem wi_m_readNext_0 : oC tm_readNext.2.1 0 wl_m_readNext_0 = true := by decide +kernel
theorem dm_readNext_0 : dl tm_readNext 0 .aload_n .aload 0 1 := Or.inl ⟨0, o_42 (oW (K := 0) (r := 0) wi_m_readNext_0 (by decide +kernel)), rfl, rfl⟩
theorem dm_readNext_1 : dn tm_readNext 1 (.bipush 25) 2 3 := ⟨o_16 25 25 (oWd (K := 0) (r := 1) wi_m_readNext_0 (by decide +kernel)), rfl⟩
theorem dm_readNext_3 : dn tm_readNext 3 (.iconst 0) 1 4 := ⟨o_3 (oW (K := 0) (r := 3) wi_m_readNext_0 (by decide +kernel)), rfl⟩
theorem dm_readNext_4 : dl tm_readNext 4 .aload_n .aload 0 5 := Or.inl ⟨0, o_42 (oW (K := 0) (r := 4) wi_m_readNext_0 (by decide +kernel)), rfl, rfl⟩
theorem dm_readNext_5 : dn tm_readNext 5 (.getfield 158) 3 8 := ⟨o_180 0 158 158 (oWd (K := 0) (r := 5) wi_m_readNext_0 (by decide +kernel)), rfl⟩
theorem dm_readNext_8 : dn tm_readNext 8 (.iconst 1) 1 9 := ⟨o_4 (oW (K := 0) (r := 8) wi_m_readNext_0 (by decide +kernel)), rfl⟩
theorem dm_readNext_9 : dn tm_readNext 9 (.isub) 1 10 := ⟨o_100 (oW (K := 0) (r := 9) wi_m_readNext_0 (by decide +kernel)), rfl⟩
theorem dm_readNext_10 : dn tm_readNext 10 (.invokevirtual 291) 3 13 := ⟨o_182 1 35 291 (oWd (K := 0) (r := 10) wi_m_readNext_0 (by decide +kernel)), rfl⟩
theorem dm_readNext_13 : dl tm_readNext 13 .istore_n .istore 1 14 := Or.inl ⟨1, o_60 (oW (K := 0) (r := 13) wi_m_readNext_0 (by decide +kernel)), rfl, rfl⟩
theorem dm_readNext_14 : dl tm_readNext 14 .iload_n .iload 1 15 := Or.inl ⟨1, o_27 (oW (K := 0) (r := 14) wi_m_readNext_0 (by decide +kernel)), rfl, rfl⟩
theorem dm_readNext_15 : dn tm_readNext 15 (.iconst (-1)) 1 16 := ⟨o_2 (oW (K := 0) (r := 15) wi_m_readNext_0 (by decide +kernel)), rfl⟩
theorem dm_readNext_16 : db tm_readNext 16 (.if_icmp .ne) 21 19 := ⟨5, o_160 0 5 5 (oWd (K := 0) (r := 16) wi_m_readNext_0 (by decide +kernel)), rfl, rfl⟩
theorem dm_readNext_19 : dn tm_readNext 19 (.iconst (-1)) 1 20 := ⟨o_2 (oW (K := 0) (r := 19) wi_m_readNext_0 (by decide +kernel)), rfl⟩
theorem dm_readNext_20 : dn tm_readNext 20 (.ireturn) 1 21 := ⟨o_172 (oW (K := 0) (r := 20) wi_m_readNext_0 (by decide +kernel)), rfl⟩
theorem dm_readNext_21 : dl tm_readNext 21 .aload_n .aload 0 22 := Or.inl ⟨0, o_42 (oW (K := 0) (r := 21) wi_m_readNext_0 (by decide +kernel)), rfl, rfl⟩
theorem dm_readNext_22 : dn tm_readNext 22 (.bipush 26) 2 24 := ⟨o_16 26 26 (oWd (K := 0) (r := 22) wi_m_readNext_0 (by decide +kernel)), rfl⟩
theorem dm_readNext_24 : dn tm_readNext 24 (.invokevirtual 266) 3 27 := ⟨o_182 1 10 266 (oWd (K := 0) (r := 24) wi_m_readNext_0 (by decide +kernel)), rfl⟩
theorem dm_readNext_27 : db tm_readNext 27 (.ifCond .ne) 36 30 := ⟨9, o_154 0 9 9 (oWd (K := 0) (r := 27) wi_m_readNext_0 (by decide +kernel)), rfl, rfl⟩
theorem dm_readNext_30 : dl tm_readNext 30 .aload_n .aload 0 31 := Or.inl ⟨0, o_42 (oW (K := 0) (r := 30) wi_m_readNext_0 (by decide +kernel)), rfl, rfl⟩
theorem dm_readNext_31 : dn tm_readNext 31 (.iconst 1) 1 32 := ⟨o_4 (oW (K := 0) (r := 31) wi_m_readNext_0 (by decide +kernel)), rfl⟩
def wl_m_readNext_32 : List Nat := [182, 0, 237, 172, 42, 182, 0, 244, 42, 180, 0, 207, 6, 160, 0, 17, 42, 180, 0, 210, 27, 160, 0, 9, 42, 5, 182, 0, 237, 172, 42, 3, 42, 180, 0, 158, 4, 100]
theorem wi_m_readNext_32 : oC tm_readNext.2.1 32 wl_m_readNext_32 = true := by decide +kernel
theorem dm_readNext_32 : dn tm_readNext 32 (.invokevirtual 237) 3 35 := ⟨o_182 0 237 237 (oWd (K := 32) (r := 0) wi_m_readNext_32 (by decide +kernel)), rfl⟩
theorem dm_readNext_35 : dn tm_readNext 35 (.ireturn) 1 36 := ⟨o_172 (oW (K := 32) (r := 3) wi_m_readNext_32 (by decide +kernel)), rfl⟩
theorem dm_readNext_36 : dl tm_readNext 36 .aload_n .aload 0 37 := Or.inl ⟨0, o_42 (oW (K := 32) (r := 4) wi_m_readNext_32 (by decide +kernel)), rfl, rfl⟩
theorem dm_readNext_37 : dn tm_readNext 37 (.invokevirtual 244) 3 40 := ⟨o_182 0 244 244 (oWd (K := 32) (r := 5) wi_m_readNext_32 (by decide +kernel)), rfl⟩
theorem dm_readNext_40 : dl tm_readNext 40 .aload_n .aload 0 41 := Or.inl ⟨0, o_42 (oW (K := 32) (r := 8) wi_m_readNext_32 (by decide +kernel)), rfl, rfl⟩
theorem dm_readNext_41 : dn tm_readNext 41 (.getfield 207) 3 44 := ⟨o_180 0 207 207 (oWd (K := 32) (r := 9) wi_m_readNext_32 (by decide +kernel)), rfl⟩
theorem dm_readNext_44 : dn tm_readNext 44 (.iconst 3) 1 45 := ⟨o_6 (oW (K := 32) (r := 12) wi_m_readNext_32 (by decide +kernel)), rfl⟩
theorem dm_readNext_45 : db tm_readNext 45 (.if_icmp .ne) 62 48 := ⟨17, o_160 0 17 17 (oWd (K := 32) (r := 13) wi_m_readNext_32 (by decide +kernel)), rfl, rfl⟩
theorem dm_readNext_48 : dl tm_readNext 48 .aload_n .aload 0 49 := Or.inl ⟨0, o_42 (oW (K := 32) (r := 16) wi_m_readNext_32 (by decide +kernel)), rfl, rfl⟩
theorem dm_readNext_49 : dn tm_readNext 49 (.getfield 210) 3 52 := ⟨o_180 0 210 210 (oWd (K := 32) (r := 17) wi_m_readNext_32 (by decide +kernel)), rfl⟩
theorem dm_readNext_52 : dl tm_readNext 52 .iload_n .iload 1 53 := Or.inl ⟨1, o_27 (oW (K := 32) (r := 20) wi_m_readNext_32 (by decide +kernel)), rfl, rfl⟩
theorem dm_readNext_53 : db tm_readNext 53 (.if_icmp .ne) 62 56 := ⟨9, o_160 0 9 9 (oWd (K := 32) (r := 21) wi_m_readNext_32 (by decide +kernel)), rfl, rfl⟩
theorem dm_readNext_56 : dl tm_readNext 56 .aload_n .aload 0 57 := Or.inl ⟨0, o_42 (oW (K := 32) (r := 24) wi_m_readNext_32 (by decide +kernel)), rfl, rfl⟩
theorem dm_readNext_57 : dn tm_readNext 57 (.iconst 2) 1 58 := ⟨o_5 (oW (K := 32) (r := 25) wi_m_readNext_32 (by decide +kernel)), rfl⟩
theorem dm_readNext_58 : dn tm_readNext 58 (.invokevirtual 237) 3 61 := ⟨o_182 0 237 237 (oWd (K := 32) (r := 26) wi_m_readNext_32 (by decide +kernel)), rfl⟩
theorem dm_readNext_61 : dn tm_readNext 61 (.ireturn) 1 62 := ⟨o_172 (oW (K := 32) (r := 29) wi_m_readNext_32 (by decide +kernel)), rfl⟩
theorem dm_readNext_62 : dl tm_readNext 62 .aload_n .aload 0 63 := Or.inl ⟨0, o_42 (oW (K := 32) (r := 30) wi_m_readNext_32 (by decide +kernel)), rfl, rfl⟩
theorem dm_readNext_63 : dn tm_readNext 63 (.iconst 0) 1 64 := ⟨o_3 (oW (K := 32) (r := 31) wi_m_readNext_32 (by decide +kernel)), rfl⟩
def wl_m_readNext_64 : List Nat := [42, 180, 0, 158, 4, 100, 182, 1, 32, 61, 28, 2, 160, 0, 5, 2, 172, 42, 180, 0, 68, 16, 12, 27, 96, 42, 180, 0, 68, 16, 12, 27, 96, 46, 4, 28, 120, 128]
theorem wi_m_readNext_64 : oC tm_readNext.2.1 64 wl_m_readNext_64 = true := by decide +kernel
theorem dm_readNext_64 : dl tm_readNext 64 .aload_n .aload 0 65 := Or.inl ⟨0, o_42 (oW (K := 64) (r := 0) wi_m_readNext_64 (by decide +kernel)), rfl, rfl⟩
theorem dm_readNext_65 : dn tm_readNext 65 (.getfield 158) 3 68 := ⟨o_180 0 158 158 (oWd (K := 64) (r := 1) wi_m_readNext_64 (by decide +kernel)), rfl⟩
theorem dm_readNext_68 : dn tm_readNext 68 (.iconst 1) 1 69 := ⟨o_4 (oW (K := 64) (r := 4) wi_m_readNext_64 (by decide +kernel)), rfl⟩
theorem dm_readNext_69 : dn tm_readNext 69 (.isub) 1 70 := ⟨o_100 (oW (K := 64) (r := 5) wi_m_readNext_64 (by decide +kernel)), rfl⟩
theorem dm_readNext_70 : dn tm_readNext 70 (.invokevirtual 288) 3 73 := ⟨o_182 1 32 288 (oWd (K := 64) (r := 6) wi_m_readNext_64 (by decide +kernel)), rfl⟩
theorem dm_readNext_73 : dl tm_readNext 73 .istore_n .istore 2 74 := Or.inl ⟨2, o_61 (oW (K := 64) (r := 9) wi_m_readNext_64 (by decide +kernel)), rfl, rfl⟩
theorem dm_readNext_74 : dl tm_readNext 74 .iload_n .iload 2 75 := Or.inl ⟨2, o_28 (oW (K := 64) (r := 10) wi_m_readNext_64 (by decide +kernel)), rfl, rfl⟩
theorem dm_readNext_75 : dn tm_readNext 75 (.iconst (-1)) 1 76 := ⟨o_2 (oW (K := 64) (r := 11) wi_m_readNext_64 (by decide +kernel)), rfl⟩
theorem dm_readNext_76 : db tm_readNext 76 (.if_icmp .ne) 81 79 := ⟨5, o_160 0 5 5 (oWd (K := 64) (r := 12) wi_m_readNext_64 (by decide +kernel)), rfl, rfl⟩
theorem dm_readNext_79 : dn tm_readNext 79 (.iconst (-1)) 1 80 := ⟨o_2 (oW (K := 64) (r := 15) wi_m_readNext_64 (by decide +kernel)), rfl⟩
theorem dm_readNext_80 : dn tm_readNext 80 (.ireturn) 1 81 := ⟨o_172 (oW (K := 64) (r := 16) wi_m_readNext_64 (by decide +kernel)), rfl⟩
theorem dm_readNext_81 : dl tm_readNext 81 .aload_n .aload 0 82 := Or.inl ⟨0, o_42 (oW (K := 64) (r := 17) wi_m_readNext_64 (by decide +kernel)), rfl, rfl⟩
theorem dm_readNext_82 : dn tm_readNext 82 (.getfield 68) 3 85 := ⟨o_180 0 68 68 (oWd (K := 64) (r := 18) wi_m_readNext_64 (by decide +kernel)), rfl⟩
theorem dm_readNext_85 : dn tm_readNext 85 (.bipush 12) 2 87 := ⟨o_16 12 12 (oWd (K := 64) (r := 21) wi_m_readNext_64 (by decide +kernel)), rfl⟩
theorem dm_readNext_87 : dl tm_readNext 87 .iload_n .iload 1 88 := Or.inl ⟨1, o_27 (oW (K := 64) (r := 23) wi_m_readNext_64 (by decide +kernel)), rfl, rfl⟩
theorem dm_readNext_88 : dn tm_readNext 88 (.iadd) 1 89 := ⟨o_96 (oW (K := 64) (r := 24) wi_m_readNext_64 (by decide +kernel)), rfl⟩
theorem dm_readNext_89 : dl tm_readNext 89 .aload_n .aload 0 90 := Or.inl ⟨0, o_42 (oW (K := 64) (r := 25) wi_m_readNext_64 (by decide +kernel)), rfl, rfl⟩
theorem dm_readNext_90 : dn tm_readNext 90 (.getfield 68) 3 93 := ⟨o_180 0 68 68 (oWd (K := 64) (r := 26) wi_m_readNext_64 (by decide +kernel)), rfl⟩
theorem dm_readNext_93 : dn tm_readNext 93 (.bipush 12) 2 95 := ⟨o_16 12 12 (oWd (K := 64) (r := 29) wi_m_readNext_64 (by decide +kernel)), rfl⟩
theorem dm_readNext_95 : dl tm_readNext 95 .iload_n .iload 1 96 := Or.inl ⟨1, o_27 (oW (K := 64) (r := 31) wi_m_readNext_64 (by decide +kernel)), rfl, rfl⟩
def wl_m_readNext_96 : List Nat := [96, 46, 4, 28, 120, 128, 79, 42, 180, 0, 68, 16, 12, 28, 96, 42, 180, 0, 68, 16, 12, 28, 96, 46, 4, 27, 120, 128, 79, 42, 16, 59, 182, 1, 38, 172]
theorem wi_m_readNext_96 : oC tm_readNext.2.1 96 wl_m_readNext_96 = true := by decide +kernel
theorem dm_readNext_96 : dn tm_readNext 96 (.iadd) 1 97 := ⟨o_96 (oW (K := 96) (r := 0) wi_m_readNext_96 (by decide +kernel)), rfl⟩
theorem dm_readNext_97 : dn tm_readNext 97 (.iaload) 1 98 := ⟨o_46 (oW (K := 96) (r := 1) wi_m_readNext_96 (by decide +kernel)), rfl⟩
theorem dm_readNext_98 : dn tm_readNext 98 (.iconst 1) 1 99 := ⟨o_4 (oW (K := 96) (r := 2) wi_m_readNext_96 (by decide +kernel)), rfl⟩
theorem dm_readNext_99 : dl tm_readNext 99 .iload_n .iload 2 100 := Or.inl ⟨2, o_28 (oW (K := 96) (r := 3) wi_m_readNext_96 (by decide +kernel)), rfl, rfl⟩
theorem dm_readNext_100 : dn tm_readNext 100 (.ishl) 1 101 := ⟨o_120 (oW (K := 96) (r := 4) wi_m_readNext_96 (by decide +kernel)), rfl⟩
theorem dm_readNext_101 : dn tm_readNext 101 (.ior) 1 102 := ⟨o_128 (oW (K := 96) (r := 5) wi_m_readNext_96 (by decide +kernel)), rfl⟩
theorem dm_readNext_102 : dn tm_readNext 102 (.iastore) 1 103 := ⟨o_79 (oW (K := 96) (r := 6) wi_m_readNext_96 (by decide +kernel)), rfl⟩
theorem dm_readNext_103 : dl tm_readNext 103 .aload_n .aload 0 104 := Or.inl ⟨0, o_42 (oW (K := 96) (r := 7) wi_m_readNext_96 (by decide +kernel)), rfl, rfl⟩
theorem dm_readNext_104 : dn tm_readNext 104 (.getfield 68) 3 107 := ⟨o_180 0 68 68 (oWd (K := 96) (r := 8) wi_m_readNext_96 (by decide +kernel)), rfl⟩
theorem dm_readNext_107 : dn tm_readNext 107 (.bipush 12) 2 109 := ⟨o_16 12 12 (oWd (K := 96) (r := 11) wi_m_readNext_96 (by decide +kernel)), rfl⟩
theorem dm_readNext_109 : dl tm_readNext 109 .iload_n .iload 2 110 := Or.inl ⟨2, o_28 (oW (K := 96) (r := 13) wi_m_readNext_96 (by decide +kernel)), rfl, rfl⟩
theorem dm_readNext_110 : dn tm_readNext 110 (.iadd) 1 111 := ⟨o_96 (oW (K := 96) (r := 14) wi_m_readNext_96 (by decide +kernel)), rfl⟩
theorem dm_readNext_111 : dl tm_readNext 111 .aload_n .aload 0 112 := Or.inl ⟨0, o_42 (oW (K := 96) (r := 15) wi_m_readNext_96 (by decide +kernel)), rfl, rfl⟩
theorem dm_readNext_112 : dn tm_readNext 112 (.getfield 68) 3 115 := ⟨o_180 0 68 68 (oWd (K := 96) (r := 16) wi_m_readNext_96 (by decide +kernel)), rfl⟩
theorem dm_readNext_115 : dn tm_readNext 115 (.bipush 12) 2 117 := ⟨o_16 12 12 (oWd (K := 96) (r := 19) wi_m_readNext_96 (by decide +kernel)), rfl⟩
theorem dm_readNext_117 : dl tm_readNext 117 .iload_n .iload 2 118 := Or.inl ⟨2, o_28 (oW (K := 96) (r := 21) wi_m_readNext_96 (by decide +kernel)), rfl, rfl⟩
theorem dm_readNext_118 : dn tm_readNext 118 (.iadd) 1 119 := ⟨o_96 (oW (K := 96) (r := 22) wi_m_readNext_96 (by decide +kernel)), rfl⟩
theorem dm_readNext_119 : dn tm_readNext 119 (.iaload) 1 120 := ⟨o_46 (oW (K := 96) (r := 23) wi_m_readNext_96 (by decide +kernel)), rfl⟩
theorem dm_readNext_120 : dn tm_readNext 120 (.iconst 1) 1 121 := ⟨o_4 (oW (K := 96) (r := 24) wi_m_readNext_96 (by decide +kernel)), rfl⟩
theorem dm_readNext_121 : dl tm_readNext 121 .iload_n .iload 1 122 := Or.inl ⟨1, o_27 (oW (K := 96) (r := 25) wi_m_readNext_96 (by decide +kernel)), rfl, rfl⟩
theorem dm_readNext_122 : dn tm_readNext 122 (.ishl) 1 123 := ⟨o_120 (oW (K := 96) (r := 26) wi_m_readNext_96 (by decide +kernel)), rfl⟩
theorem dm_readNext_123 : dn tm_readNext 123 (.ior) 1 124 := ⟨o_128 (oW (K := 96) (r := 27) wi_m_readNext_96 (by decide +kernel)), rfl⟩
theorem dm_readNext_124 : dn tm_readNext 124 (.iastore) 1 125 := ⟨o_79 (oW (K := 96) (r := 28) wi_m_readNext_96 (by decide +kernel)), rfl⟩
theorem dm_readNext_125 : dl tm_readNext 125 .aload_n .aload 0 126 := Or.inl ⟨0, o_42 (oW (K := 96) (r := 29) wi_m_readNext_96 (by decide +kernel)), rfl, rfl⟩
theorem dm_readNext_126 : dn tm_readNext 126 (.bipush 59) 2 128 := ⟨o_16 59 59 (oWd (K := 96) (r := 30) wi_m_readNext_96 (by decide +kernel)), rfl⟩
def wl_m_readNext_128 : List Nat := [182, 1, 38, 172]
theorem wi_m_readNext_128 : oC tm_readNext.2.1 128 wl_m_readNext_128 = true := by decide +kernel
theorem dm_readNext_128 : dn tm_readNext 128 (.invokevirtual 294) 3 131 := ⟨o_182 1 38 294 (oWd (K := 128) (r := 0) wi_m_readNext_128 (by decide +kernel)), rfl⟩
theorem dm_readNext_131 : dn tm_readNext 131 (.ireturn) 1 132 := ⟨o_172 (oW (K := 128) (r := 3) wi_m_readNext_128 (by decide +kernel)), rfl⟩
def wl_m_readNexts_0 : List Nat := [3, 60, 27, 16, 12, 162, 0, 19, 42, 180, 0, 68, 16, 12, 27, 96, 3, 79, 132, 1, 1, 167, 255, 237, 3, 60, 42, 16, 25, 182, 1, 10, 153, 0, 32, 27, 16, 16]
theorem wi_m_readNexts_0 : oC tm_readNexts.2.1 0 wl_m_readNexts_0 = true := by decide +kernel
theorem dm_readNexts_0 : dn tm_readNexts 0 (.iconst 0) 1 1 := ⟨o_3 (oW (K := 0) (r := 0) wi_m_readNexts_0 (by decide +kernel)), rfl⟩
theorem dm_readNexts_1 : dl tm_readNexts 1 .istore_n .istore 1 2 := Or.inl ⟨1, o_60 (oW (K := 0) (r := 1) wi_m_readNexts_0 (by decide +kernel)), rfl, rfl⟩
theorem dm_readNexts_2 : dl tm_readNexts 2 .iload_n .iload 1 3 := Or.inl ⟨1, o_27 (oW (K := 0) (r := 2) wi_m_readNexts_0 (by decide +kernel)), rfl, rfl⟩
theorem dm_readNexts_3 : dn tm_readNexts 3 (.bipush 12) 2 5 := ⟨o_16 12 12 (oWd (K := 0) (r := 3) wi_m_readNexts_0 (by decide +kernel)), rfl⟩
theorem dm_readNexts_5 : db tm_readNexts 5 (.if_icmp .ge) 24 8 := ⟨19, o_162 0 19 19 (oWd (K := 0) (r := 5) wi_m_readNexts_0 (by decide +kernel)), rfl, rfl⟩
theorem dm_readNexts_8 : dl tm_readNexts 8 .aload_n .aload 0 9 := Or.inl ⟨0, o_42 (oW (K := 0) (r := 8) wi_m_readNexts_0 (by decide +kernel)), rfl, rfl⟩
theorem dm_readNexts_9 : dn tm_readNexts 9 (.getfield 68) 3 12 := ⟨o_180 0 68 68 (oWd (K := 0) (r := 9) wi_m_readNexts_0 (by decide +kernel)), rfl⟩
theorem dm_readNexts_12 : dn tm_readNexts 12 (.bipush 12) 2 14 := ⟨o_16 12 12 (oWd (K := 0) (r := 12) wi_m_readNexts_0 (by decide +kernel)), rfl⟩
theorem dm_readNexts_14 : dl tm_readNexts 14 .iload_n .iload 1 15 := Or.inl ⟨1, o_27 (oW (K := 0) (r := 14) wi_m_readNexts_0 (by decide +kernel)), rfl, rfl⟩
theorem dm_readNexts_15 : dn tm_readNexts 15 (.iadd) 1 16 := ⟨o_96 (oW (K := 0) (r := 15) wi_m_readNexts_0 (by decide +kernel)), rfl⟩
theorem dm_readNexts_16 : dn tm_readNexts 16 (.iconst 0) 1 17 := ⟨o_3 (oW (K := 0) (r := 16) wi_m_readNexts_0 (by decide +kernel)), rfl⟩
theorem dm_readNexts_17 : dn tm_readNexts 17 (.iastore) 1 18 := ⟨o_79 (oW (K := 0) (r := 17) wi_m_readNexts_0 (by decide +kernel)), rfl⟩
theorem dm_readNexts_18 : dn tm_readNexts 18 (.iinc 1 1) 3 21 := ⟨o_132 1 1 1 (oWd (K := 0) (r := 18) wi_m_readNexts_0 (by decide +kernel)), rfl⟩
theorem dm_readNexts_21 : db tm_readNexts 21 .goto 2 24 := ⟨-19, o_167 255 237 (-19) (oWd (K := 0) (r := 21) wi_m_readNexts_0 (by decide +kernel)), rfl, rfl⟩
theorem dm_readNexts_24 : dn tm_readNexts 24 (.iconst 0) 1 25 := ⟨o_3 (oW (K := 0) (r := 24) wi_m_readNexts_0 (by decide +kernel)), rfl⟩
theorem dm_readNexts_25 : dl tm_readNexts 25 .istore_n .istore 1 26 := Or.inl ⟨1, o_60 (oW (K := 0) (r := 25) wi_m_readNexts_0 (by decide +kernel)), rfl, rfl⟩
theorem dm_readNexts_26 : dl tm_readNexts 26 .aload_n .aload 0 27 := Or.inl ⟨0, o_42 (oW (K := 0) (r := 26) wi_m_readNexts_0 (by decide +kernel)), rfl, rfl⟩
theorem dm_readNexts_27 : dn tm_readNexts 27 (.bipush 25) 2 29 := ⟨o_16 25 25 (oWd (K := 0) (r := 27) wi_m_readNexts_0 (by decide +kernel)), rfl⟩
theorem dm_readNexts_29 : dn tm_readNexts 29 (.invokevirtual 266) 3 32 := ⟨o_182 1 10 266 (oWd (K := 0) (r := 29) wi_m_readNexts_0 (by decide +kernel)), rfl⟩
def wl_m_readNexts_32 : List Nat := [153, 0, 32, 27, 16, 16, 160, 0, 9, 42, 6, 182, 0, 237, 172, 42, 182, 1, 47, 2, 160, 0, 5, 2, 172, 27, 4, 96, 60, 167, 255, 221, 42, 180, 0, 207, 154, 0]
theorem wi_m_readNexts_32 : oC tm_readNexts.2.1 32 wl_m_readNexts_32 = true := by decide +kernel
theorem dm_readNexts_32 : db tm_readNexts 32 (.ifCond .eq) 64 35 := ⟨32, o_153 0 32 32 (oWd (K := 32) (r := 0) wi_m_readNexts_32 (by decide +kernel)), rfl, rfl⟩
theorem dm_readNexts_35 : dl tm_readNexts 35 .iload_n .iload 1 36 := Or.inl ⟨1, o_27 (oW (K := 32) (r := 3) wi_m_readNexts_32 (by decide +kernel)), rfl, rfl⟩
theorem dm_readNexts_36 : dn tm_readNexts 36 (.bipush 16) 2 38 := ⟨o_16 16 16 (oWd (K := 32) (r := 4) wi_m_readNexts_32 (by decide +kernel)), rfl⟩
theorem dm_readNexts_38 : db tm_readNexts 38 (.if_icmp .ne) 47 41 := ⟨9, o_160 0 9 9 (oWd (K := 32) (r := 6) wi_m_readNexts_32 (by decide +kernel)), rfl, rfl⟩
theorem dm_readNexts_41 : dl tm_readNexts 41 .aload_n .aload 0 42 := Or.inl ⟨0, o_42 (oW (K := 32) (r := 9) wi_m_readNexts_32 (by decide +kernel)), rfl, rfl⟩
theorem dm_readNexts_42 : dn tm_readNexts 42 (.iconst 3) 1 43 := ⟨o_6 (oW (K := 32) (r := 10) wi_m_readNexts_32 (by decide +kernel)), rfl⟩
theorem dm_readNexts_43 : dn tm_readNexts 43 (.invokevirtual 237) 3 46 := ⟨o_182 0 237 237 (oWd (K := 32) (r := 11) wi_m_readNexts_32 (by decide +kernel)), rfl⟩
theorem dm_readNexts_46 : dn tm_readNexts 46 (.ireturn) 1 47 := ⟨o_172 (oW (K := 32) (r := 14) wi_m_readNexts_32 (by decide +kernel)), rfl⟩
theorem dm_readNexts_47 : dl tm_readNexts 47 .aload_n .aload 0 48 := Or.inl ⟨0, o_42 (oW (K := 32) (r := 15) wi_m_readNexts_32 (by decide +kernel)), rfl, rfl⟩
theorem dm_readNexts_48 : dn tm_readNexts 48 (.invokevirtual 303) 3 51 := ⟨o_182 1 47 303 (oWd (K := 32) (r := 16) wi_m_readNexts_32 (by decide +kernel)), rfl⟩
theorem dm_readNexts_51 : dn tm_readNexts 51 (.iconst (-1)) 1 52 := ⟨o_2 (oW (K := 32) (r := 19) wi_m_readNexts_32 (by decide +kernel)), rfl⟩
theorem dm_readNexts_52 : db tm_readNexts 52 (.if_icmp .ne) 57 55 := ⟨5, o_160 0 5 5 (oWd (K := 32) (r := 20) wi_m_readNexts_32 (by decide +kernel)), rfl, rfl⟩
theorem dm_readNexts_55 : dn tm_readNexts 55 (.iconst (-1)) 1 56 := ⟨o_2 (oW (K := 32) (r := 23) wi_m_readNexts_32 (by decide +kernel)), rfl⟩
theorem dm_readNexts_56 : dn tm_readNexts 56 (.ireturn) 1 57 := ⟨o_172 (oW (K := 32) (r := 24) wi_m_readNexts_32 (by decide +kernel)), rfl⟩
theorem dm_readNexts_57 : dl tm_readNexts 57 .iload_n .iload 1 58 := Or.inl ⟨1, o_27 (oW (K := 32) (r := 25) wi_m_readNexts_32 (by decide +kernel)), rfl, rfl⟩
theorem dm_readNexts_58 : dn tm_readNexts 58 (.iconst 1) 1 59 := ⟨o_4 (oW (K := 32) (r := 26) wi_m_readNexts_32 (by decide +kernel)), rfl⟩
theorem dm_readNexts_59 : dn tm_readNexts 59 (.iadd) 1 60 := ⟨o_96 (oW (K := 32) (r := 27) wi_m_readNexts_32 (by decide +kernel)), rfl⟩
theorem dm_readNexts_60 : dl tm_readNexts 60 .istore_n .istore 1 61 := Or.inl ⟨1, o_60 (oW (K := 32) (r := 28) wi_m_readNexts_32 (by decide +kernel)), rfl, rfl⟩
theorem dm_readNexts_61 : db tm_readNexts 61 .goto 26 64 := ⟨-35, o_167 255 221 (-35) (oWd (K := 32) (r := 29) wi_m_readNexts_32 (by decide +kernel)), rfl, rfl⟩
def wl_m_readNexts_64 : List Nat := [42, 180, 0, 207, 154, 0, 7, 27, 167, 0, 8, 42, 4, 182, 0, 237, 172]
theorem wi_m_readNexts_64 : oC tm_readNexts.2.1 64 wl_m_readNexts_64 = true := by decide +kernel
theorem dm_readNexts_64 : dl tm_readNexts 64 .aload_n .aload 0 65 := Or.inl ⟨0, o_42 (oW (K := 64) (r := 0) wi_m_readNexts_64 (by decide +kernel)), rfl, rfl⟩
theorem dm_readNexts_65 : dn tm_readNexts 65 (.getfield 207) 3 68 := ⟨o_180 0 207 207 (oWd (K := 64) (r := 1) wi_m_readNexts_64 (by decide +kernel)), rfl⟩
theorem dm_readNexts_68 : db tm_readNexts 68 (.ifCond .ne) 75 71 := ⟨7, o_154 0 7 7 (oWd (K := 64) (r := 4) wi_m_readNexts_64 (by decide +kernel)), rfl, rfl⟩
theorem dm_readNexts_71 : dl tm_readNexts 71 .iload_n .iload 1 72 := Or.inl ⟨1, o_27 (oW (K := 64) (r := 7) wi_m_readNexts_64 (by decide +kernel)), rfl, rfl⟩
theorem dm_readNexts_72 : db tm_readNexts 72 .goto 80 75 := ⟨8, o_167 0 8 8 (oWd (K := 64) (r := 8) wi_m_readNexts_64 (by decide +kernel)), rfl, rfl⟩
theorem dm_readNexts_75 : dl tm_readNexts 75 .aload_n .aload 0 76 := Or.inl ⟨0, o_42 (oW (K := 64) (r := 11) wi_m_readNexts_64 (by decide +kernel)), rfl, rfl⟩
theorem dm_readNexts_76 : dn tm_readNexts 76 (.iconst 1) 1 77 := ⟨o_4 (oW (K := 64) (r := 12) wi_m_readNexts_64 (by decide +kernel)), rfl⟩
theorem dm_readNexts_77 : dn tm_readNexts 77 (.invokevirtual 237) 3 80 := ⟨o_182 0 237 237 (oWd (K := 64) (r := 13) wi_m_readNexts_64 (by decide +kernel)), rfl⟩
theorem dm_readNexts_80 : dn tm_readNexts 80 (.ireturn) 1 81 := ⟨o_172 (oW (K := 64) (r := 16) wi_m_readNexts_64 (by decide +kernel)), rfl⟩
def wl_m_readsText_0 : List Nat := [42, 3, 181, 1, 29, 42, 182, 0, 244, 27, 4, 160, 0, 8, 42, 182, 1, 50, 172, 27, 5, 160, 0, 8, 42, 182, 1, 53, 172, 27, 6, 160, 0, 10, 42, 182, 1, 56]
theorem wi_m_readsText_0 : oC tm_readsText.2.1 0 wl_m_readsText_0 = true := by decide +kernel
theorem dm_readsText_0 : dl tm_readsText 0 .aload_n .aload 0 1 := Or.inl ⟨0, o_42 (oW (K := 0) (r := 0) wi_m_readsText_0 (by decide +kernel)), rfl, rfl⟩
theorem dm_readsText_1 : dn tm_readsText 1 (.iconst 0) 1 2 := ⟨o_3 (oW (K := 0) (r := 1) wi_m_readsText_0 (by decide +kernel)), rfl⟩
theorem dm_readsText_2 : dn tm_readsText 2 (.putfield 285) 3 5 := ⟨o_181 1 29 285 (oWd (K := 0) (r := 2) wi_m_readsText_0 (by decide +kernel)), rfl⟩
theorem dm_readsText_5 : dl tm_readsText 5 .aload_n .aload 0 6 := Or.inl ⟨0, o_42 (oW (K := 0) (r := 5) wi_m_readsText_0 (by decide +kernel)), rfl, rfl⟩
theorem dm_readsText_6 : dn tm_readsText 6 (.invokevirtual 244) 3 9 := ⟨o_182 0 244 244 (oWd (K := 0) (r := 6) wi_m_readsText_0 (by decide +kernel)), rfl⟩
theorem dm_readsText_9 : dl tm_readsText 9 .iload_n .iload 1 10 := Or.inl ⟨1, o_27 (oW (K := 0) (r := 9) wi_m_readsText_0 (by decide +kernel)), rfl, rfl⟩
theorem dm_readsText_10 : dn tm_readsText 10 (.iconst 1) 1 11 := ⟨o_4 (oW (K := 0) (r := 10) wi_m_readsText_0 (by decide +kernel)), rfl⟩
theorem dm_readsText_11 : db tm_readsText 11 (.if_icmp .ne) 19 14 := ⟨8, o_160 0 8 8 (oWd (K := 0) (r := 11) wi_m_readsText_0 (by decide +kernel)), rfl, rfl⟩
theorem dm_readsText_14 : dl tm_readsText 14 .aload_n .aload 0 15 := Or.inl ⟨0, o_42 (oW (K := 0) (r := 14) wi_m_readsText_0 (by decide +kernel)), rfl, rfl⟩
theorem dm_readsText_15 : dn tm_readsText 15 (.invokevirtual 306) 3 18 := ⟨o_182 1 50 306 (oWd (K := 0) (r := 15) wi_m_readsText_0 (by decide +kernel)), rfl⟩
theorem dm_readsText_18 : dn tm_readsText 18 (.ireturn) 1 19 := ⟨o_172 (oW (K := 0) (r := 18) wi_m_readsText_0 (by decide +kernel)), rfl⟩
theorem dm_readsText_19 : dl tm_readsText 19 .iload_n .iload 1 20 := Or.inl ⟨1, o_27 (oW (K := 0) (r := 19) wi_m_readsText_0 (by decide +kernel)), rfl, rfl⟩
theorem dm_readsText_20 : dn tm_readsText 20 (.iconst 2) 1 21 := ⟨o_5 (oW (K := 0) (r := 20) wi_m_readsText_0 (by decide +kernel)), rfl⟩
theorem dm_readsText_21 : db tm_readsText 21 (.if_icmp .ne) 29 24 := ⟨8, o_160 0 8 8 (oWd (K := 0) (r := 21) wi_m_readsText_0 (by decide +kernel)), rfl, rfl⟩
theorem dm_readsText_24 : dl tm_readsText 24 .aload_n .aload 0 25 := Or.inl ⟨0, o_42 (oW (K := 0) (r := 24) wi_m_readsText_0 (by decide +kernel)), rfl, rfl⟩
theorem dm_readsText_25 : dn tm_readsText 25 (.invokevirtual 309) 3 28 := ⟨o_182 1 53 309 (oWd (K := 0) (r := 25) wi_m_readsText_0 (by decide +kernel)), rfl⟩
theorem dm_readsText_28 : dn tm_readsText 28 (.ireturn) 1 29 := ⟨o_172 (oW (K := 0) (r := 28) wi_m_readsText_0 (by decide +kernel)), rfl⟩
theorem dm_readsText_29 : dl tm_readsText 29 .iload_n .iload 1 30 := Or.inl ⟨1, o_27 (oW (K := 0) (r := 29) wi_m_readsText_0 (by decide +kernel)), rfl, rfl⟩
theorem dm_readsText_30 : dn tm_readsText 30 (.iconst 3) 1 31 := ⟨o_6 (oW (K := 0) (r := 30) wi_m_readsText_0 (by decide +kernel)), rfl⟩
theorem dm_readsText_31 : db tm_readsText 31 (.if_icmp .ne) 41 34 := ⟨10, o_160 0 10 10 (oWd (K := 0) (r := 31) wi_m_readsText_0 (by decide +kernel)), rfl, rfl⟩
def wl_m_readsText_32 : List Nat := [0, 10, 42, 182, 1, 56, 167, 0, 7, 42, 182, 1, 59, 172]
theorem wi_m_readsText_32 : oC tm_readsText.2.1 32 wl_m_readsText_32 = true := by decide +kernel
theorem dm_readsText_34 : dl tm_readsText 34 .aload_n .aload 0 35 := Or.inl ⟨0, o_42 (oW (K := 32) (r := 2) wi_m_readsText_32 (by decide +kernel)), rfl, rfl⟩
theorem dm_readsText_35 : dn tm_readsText 35 (.invokevirtual 312) 3 38 := ⟨o_182 1 56 312 (oWd (K := 32) (r := 3) wi_m_readsText_32 (by decide +kernel)), rfl⟩
theorem dm_readsText_38 : db tm_readsText 38 .goto 45 41 := ⟨7, o_167 0 7 7 (oWd (K := 32) (r := 6) wi_m_readsText_32 (by decide +kernel)), rfl, rfl⟩
theorem dm_readsText_41 : dl tm_readsText 41 .aload_n .aload 0 42 := Or.inl ⟨0, o_42 (oW (K := 32) (r := 9) wi_m_readsText_32 (by decide +kernel)), rfl, rfl⟩
theorem dm_readsText_42 : dn tm_readsText 42 (.invokevirtual 315) 3 45 := ⟨o_182 1 59 315 (oWd (K := 32) (r := 10) wi_m_readsText_32 (by decide +kernel)), rfl⟩
theorem dm_readsText_45 : dn tm_readsText 45 (.ireturn) 1 46 := ⟨o_172 (oW (K := 32) (r := 13) wi_m_readsText_32 (by decide +kernel)), rfl⟩
def wl_m_takesOther_0 : List Nat := [27, 6, 160, 0, 38, 3, 62, 29, 16, 12, 162, 0, 24, 42, 180, 0, 68, 29, 42, 180, 0, 68, 16, 12, 29, 96, 46, 79, 132, 3, 1, 167, 255, 232, 42, 28, 181, 1]
theorem wi_m_takesOther_0 : oC tm_takesOther.2.1 0 wl_m_takesOther_0 = true := by decide +kernel
theorem dm_takesOther_0 : dl tm_takesOther 0 .iload_n .iload 1 1 := Or.inl ⟨1, o_27 (oW (K := 0) (r := 0) wi_m_takesOther_0 (by decide +kernel)), rfl, rfl⟩
theorem dm_takesOther_1 : dn tm_takesOther 1 (.iconst 3) 1 2 := ⟨o_6 (oW (K := 0) (r := 1) wi_m_takesOther_0 (by decide +kernel)), rfl⟩
theorem dm_takesOther_2 : db tm_takesOther 2 (.if_icmp .ne) 40 5 := ⟨38, o_160 0 38 38 (oWd (K := 0) (r := 2) wi_m_takesOther_0 (by decide +kernel)), rfl, rfl⟩
theorem dm_takesOther_5 : dn tm_takesOther 5 (.iconst 0) 1 6 := ⟨o_3 (oW (K := 0) (r := 5) wi_m_takesOther_0 (by decide +kernel)), rfl⟩
theorem dm_takesOther_6 : dl tm_takesOther 6 .istore_n .istore 3 7 := Or.inl ⟨3, o_62 (oW (K := 0) (r := 6) wi_m_takesOther_0 (by decide +kernel)), rfl, rfl⟩
theorem dm_takesOther_7 : dl tm_takesOther 7 .iload_n .iload 3 8 := Or.inl ⟨3, o_29 (oW (K := 0) (r := 7) wi_m_takesOther_0 (by decide +kernel)), rfl, rfl⟩
theorem dm_takesOther_8 : dn tm_takesOther 8 (.bipush 12) 2 10 := ⟨o_16 12 12 (oWd (K := 0) (r := 8) wi_m_takesOther_0 (by decide +kernel)), rfl⟩
theorem dm_takesOther_10 : db tm_takesOther 10 (.if_icmp .ge) 34 13 := ⟨24, o_162 0 24 24 (oWd (K := 0) (r := 10) wi_m_takesOther_0 (by decide +kernel)), rfl, rfl⟩
theorem dm_takesOther_13 : dl tm_takesOther 13 .aload_n .aload 0 14 := Or.inl ⟨0, o_42 (oW (K := 0) (r := 13) wi_m_takesOther_0 (by decide +kernel)), rfl, rfl⟩
theorem dm_takesOther_14 : dn tm_takesOther 14 (.getfield 68) 3 17 := ⟨o_180 0 68 68 (oWd (K := 0) (r := 14) wi_m_takesOther_0 (by decide +kernel)), rfl⟩
theorem dm_takesOther_17 : dl tm_takesOther 17 .iload_n .iload 3 18 := Or.inl ⟨3, o_29 (oW (K := 0) (r := 17) wi_m_takesOther_0 (by decide +kernel)), rfl, rfl⟩
theorem dm_takesOther_18 : dl tm_takesOther 18 .aload_n .aload 0 19 := Or.inl ⟨0, o_42 (oW (K := 0) (r := 18) wi_m_takesOther_0 (by decide +kernel)), rfl, rfl⟩
theorem dm_takesOther_19 : dn tm_takesOther 19 (.getfield 68) 3 22 := ⟨o_180 0 68 68 (oWd (K := 0) (r := 19) wi_m_takesOther_0 (by decide +kernel)), rfl⟩
theorem dm_takesOther_22 : dn tm_takesOther 22 (.bipush 12) 2 24 := ⟨o_16 12 12 (oWd (K := 0) (r := 22) wi_m_takesOther_0 (by decide +kernel)), rfl⟩
theorem dm_takesOther_24 : dl tm_takesOther 24 .iload_n .iload 3 25 := Or.inl ⟨3, o_29 (oW (K := 0) (r := 24) wi_m_takesOther_0 (by decide +kernel)), rfl, rfl⟩
theorem dm_takesOther_25 : dn tm_takesOther 25 (.iadd) 1 26 := ⟨o_96 (oW (K := 0) (r := 25) wi_m_takesOther_0 (by decide +kernel)), rfl⟩
theorem dm_takesOther_26 : dn tm_takesOther 26 (.iaload) 1 27 := ⟨o_46 (oW (K := 0) (r := 26) wi_m_takesOther_0 (by decide +kernel)), rfl⟩
theorem dm_takesOther_27 : dn tm_takesOther 27 (.iastore) 1 28 := ⟨o_79 (oW (K := 0) (r := 27) wi_m_takesOther_0 (by decide +kernel)), rfl⟩
theorem dm_takesOther_28 : dn tm_takesOther 28 (.iinc 3 1) 3 31 := ⟨o_132 3 1 1 (oWd (K := 0) (r := 28) wi_m_takesOther_0 (by decide +kernel)), rfl⟩
theorem dm_takesOther_31 : db tm_takesOther 31 .goto 7 34 := ⟨-24, o_167 255 232 (-24) (oWd (K := 0) (r := 31) wi_m_takesOther_0 (by decide +kernel)), rfl, rfl⟩
def wl_m_takesOther_32 : List Nat := [255, 232, 42, 28, 181, 1, 62, 177, 27, 4, 160, 0, 41, 3, 62, 29, 6, 28, 104, 162, 0, 24, 42, 180, 0, 62, 29, 42, 180, 0, 62, 16, 48, 29, 96, 46, 79, 132]
theorem wi_m_takesOther_32 : oC tm_takesOther.2.1 32 wl_m_takesOther_32 = true := by decide +kernel
theorem dm_takesOther_34 : dl tm_takesOther 34 .aload_n .aload 0 35 := Or.inl ⟨0, o_42 (oW (K := 32) (r := 2) wi_m_takesOther_32 (by decide +kernel)), rfl, rfl⟩
theorem dm_takesOther_35 : dl tm_takesOther 35 .iload_n .iload 2 36 := Or.inl ⟨2, o_28 (oW (K := 32) (r := 3) wi_m_takesOther_32 (by decide +kernel)), rfl, rfl⟩
theorem dm_takesOther_36 : dn tm_takesOther 36 (.putfield 318) 3 39 := ⟨o_181 1 62 318 (oWd (K := 32) (r := 4) wi_m_takesOther_32 (by decide +kernel)), rfl⟩
theorem dm_takesOther_39 : dn tm_takesOther 39 (.return_) 1 40 := ⟨o_177 (oW (K := 32) (r := 7) wi_m_takesOther_32 (by decide +kernel)), rfl⟩
theorem dm_takesOther_40 : dl tm_takesOther 40 .iload_n .iload 1 41 := Or.inl ⟨1, o_27 (oW (K := 32) (r := 8) wi_m_takesOther_32 (by decide +kernel)), rfl, rfl⟩
theorem dm_takesOther_41 : dn tm_takesOther 41 (.iconst 1) 1 42 := ⟨o_4 (oW (K := 32) (r := 9) wi_m_takesOther_32 (by decide +kernel)), rfl⟩
theorem dm_takesOther_42 : db tm_takesOther 42 (.if_icmp .ne) 83 45 := ⟨41, o_160 0 41 41 (oWd (K := 32) (r := 10) wi_m_takesOther_32 (by decide +kernel)), rfl, rfl⟩
theorem dm_takesOther_45 : dn tm_takesOther 45 (.iconst 0) 1 46 := ⟨o_3 (oW (K := 32) (r := 13) wi_m_takesOther_32 (by decide +kernel)), rfl⟩
theorem dm_takesOther_46 : dl tm_takesOther 46 .istore_n .istore 3 47 := Or.inl ⟨3, o_62 (oW (K := 32) (r := 14) wi_m_takesOther_32 (by decide +kernel)), rfl, rfl⟩
theorem dm_takesOther_47 : dl tm_takesOther 47 .iload_n .iload 3 48 := Or.inl ⟨3, o_29 (oW (K := 32) (r := 15) wi_m_takesOther_32 (by decide +kernel)), rfl, rfl⟩
theorem dm_takesOther_48 : dn tm_takesOther 48 (.iconst 3) 1 49 := ⟨o_6 (oW (K := 32) (r := 16) wi_m_takesOther_32 (by decide +kernel)), rfl⟩
theorem dm_takesOther_49 : dl tm_takesOther 49 .iload_n .iload 2 50 := Or.inl ⟨2, o_28 (oW (K := 32) (r := 17) wi_m_takesOther_32 (by decide +kernel)), rfl, rfl⟩
theorem dm_takesOther_50 : dn tm_takesOther 50 (.imul) 1 51 := ⟨o_104 (oW (K := 32) (r := 18) wi_m_takesOther_32 (by decide +kernel)), rfl⟩
theorem dm_takesOther_51 : db tm_takesOther 51 (.if_icmp .ge) 75 54 := ⟨24, o_162 0 24 24 (oWd (K := 32) (r := 19) wi_m_takesOther_32 (by decide +kernel)), rfl, rfl⟩
theorem dm_takesOther_54 : dl tm_takesOther 54 .aload_n .aload 0 55 := Or.inl ⟨0, o_42 (oW (K := 32) (r := 22) wi_m_takesOther_32 (by decide +kernel)), rfl, rfl⟩
theorem dm_takesOther_55 : dn tm_takesOther 55 (.getfield 62) 3 58 := ⟨o_180 0 62 62 (oWd (K := 32) (r := 23) wi_m_takesOther_32 (by decide +kernel)), rfl⟩
theorem dm_takesOther_58 : dl tm_takesOther 58 .iload_n .iload 3 59 := Or.inl ⟨3, o_29 (oW (K := 32) (r := 26) wi_m_takesOther_32 (by decide +kernel)), rfl, rfl⟩
theorem dm_takesOther_59 : dl tm_takesOther 59 .aload_n .aload 0 60 := Or.inl ⟨0, o_42 (oW (K := 32) (r := 27) wi_m_takesOther_32 (by decide +kernel)), rfl, rfl⟩
theorem dm_takesOther_60 : dn tm_takesOther 60 (.getfield 62) 3 63 := ⟨o_180 0 62 62 (oWd (K := 32) (r := 28) wi_m_takesOther_32 (by decide +kernel)), rfl⟩
theorem dm_takesOther_63 : dn tm_takesOther 63 (.bipush 48) 2 65 := ⟨o_16 48 48 (oWd (K := 32) (r := 31) wi_m_takesOther_32 (by decide +kernel)), rfl⟩
def wl_m_takesOther_64 : List Nat := [48, 29, 96, 46, 79, 132, 3, 1, 167, 255, 231, 42, 28, 181, 1, 65, 167, 0, 38, 3, 62, 29, 8, 28, 104, 162, 0, 24, 42, 180, 0, 65, 29, 42, 180, 0, 65, 16]
theorem wi_m_takesOther_64 : oC tm_takesOther.2.1 64 wl_m_takesOther_64 = true := by decide +kernel
theorem dm_takesOther_65 : dl tm_takesOther 65 .iload_n .iload 3 66 := Or.inl ⟨3, o_29 (oW (K := 64) (r := 1) wi_m_takesOther_64 (by decide +kernel)), rfl, rfl⟩
theorem dm_takesOther_66 : dn tm_takesOther 66 (.iadd) 1 67 := ⟨o_96 (oW (K := 64) (r := 2) wi_m_takesOther_64 (by decide +kernel)), rfl⟩
theorem dm_takesOther_67 : dn tm_takesOther 67 (.iaload) 1 68 := ⟨o_46 (oW (K := 64) (r := 3) wi_m_takesOther_64 (by decide +kernel)), rfl⟩
theorem dm_takesOther_68 : dn tm_takesOther 68 (.iastore) 1 69 := ⟨o_79 (oW (K := 64) (r := 4) wi_m_takesOther_64 (by decide +kernel)), rfl⟩
theorem dm_takesOther_69 : dn tm_takesOther 69 (.iinc 3 1) 3 72 := ⟨o_132 3 1 1 (oWd (K := 64) (r := 5) wi_m_takesOther_64 (by decide +kernel)), rfl⟩
theorem dm_takesOther_72 : db tm_takesOther 72 .goto 47 75 := ⟨-25, o_167 255 231 (-25) (oWd (K := 64) (r := 8) wi_m_takesOther_64 (by decide +kernel)), rfl, rfl⟩
theorem dm_takesOther_75 : dl tm_takesOther 75 .aload_n .aload 0 76 := Or.inl ⟨0, o_42 (oW (K := 64) (r := 11) wi_m_takesOther_64 (by decide +kernel)), rfl, rfl⟩
theorem dm_takesOther_76 : dl tm_takesOther 76 .iload_n .iload 2 77 := Or.inl ⟨2, o_28 (oW (K := 64) (r := 12) wi_m_takesOther_64 (by decide +kernel)), rfl, rfl⟩
theorem dm_takesOther_77 : dn tm_takesOther 77 (.putfield 321) 3 80 := ⟨o_181 1 65 321 (oWd (K := 64) (r := 13) wi_m_takesOther_64 (by decide +kernel)), rfl⟩
theorem dm_takesOther_80 : db tm_takesOther 80 .goto 118 83 := ⟨38, o_167 0 38 38 (oWd (K := 64) (r := 16) wi_m_takesOther_64 (by decide +kernel)), rfl, rfl⟩
theorem dm_takesOther_83 : dn tm_takesOther 83 (.iconst 0) 1 84 := ⟨o_3 (oW (K := 64) (r := 19) wi_m_takesOther_64 (by decide +kernel)), rfl⟩
theorem dm_takesOther_84 : dl tm_takesOther 84 .istore_n .istore 3 85 := Or.inl ⟨3, o_62 (oW (K := 64) (r := 20) wi_m_takesOther_64 (by decide +kernel)), rfl, rfl⟩
theorem dm_takesOther_85 : dl tm_takesOther 85 .iload_n .iload 3 86 := Or.inl ⟨3, o_29 (oW (K := 64) (r := 21) wi_m_takesOther_64 (by decide +kernel)), rfl, rfl⟩
theorem dm_takesOther_86 : dn tm_takesOther 86 (.iconst 5) 1 87 := ⟨o_8 (oW (K := 64) (r := 22) wi_m_takesOther_64 (by decide +kernel)), rfl⟩
theorem dm_takesOther_87 : dl tm_takesOther 87 .iload_n .iload 2 88 := Or.inl ⟨2, o_28 (oW (K := 64) (r := 23) wi_m_takesOther_64 (by decide +kernel)), rfl, rfl⟩
theorem dm_takesOther_88 : dn tm_takesOther 88 (.imul) 1 89 := ⟨o_104 (oW (K := 64) (r := 24) wi_m_takesOther_64 (by decide +kernel)), rfl⟩
theorem dm_takesOther_89 : db tm_takesOther 89 (.if_icmp .ge) 113 92 := ⟨24, o_162 0 24 24 (oWd (K := 64) (r := 25) wi_m_takesOther_64 (by decide +kernel)), rfl, rfl⟩
theorem dm_takesOther_92 : dl tm_takesOther 92 .aload_n .aload 0 93 := Or.inl ⟨0, o_42 (oW (K := 64) (r := 28) wi_m_takesOther_64 (by decide +kernel)), rfl, rfl⟩
theorem dm_takesOther_93 : dn tm_takesOther 93 (.getfield 65) 3 96 := ⟨o_180 0 65 65 (oWd (K := 64) (r := 29) wi_m_takesOther_64 (by decide +kernel)), rfl⟩
def wl_m_takesOther_96 : List Nat := [29, 42, 180, 0, 65, 16, 80, 29, 96, 46, 79, 132, 3, 1, 167, 255, 231, 42, 28, 181, 1, 68, 42, 3, 181, 0, 149, 177]
theorem wi_m_takesOther_96 : oC tm_takesOther.2.1 96 wl_m_takesOther_96 = true := by decide +kernel
theorem dm_takesOther_96 : dl tm_takesOther 96 .iload_n .iload 3 97 := Or.inl ⟨3, o_29 (oW (K := 96) (r := 0) wi_m_takesOther_96 (by decide +kernel)), rfl, rfl⟩
theorem dm_takesOther_97 : dl tm_takesOther 97 .aload_n .aload 0 98 := Or.inl ⟨0, o_42 (oW (K := 96) (r := 1) wi_m_takesOther_96 (by decide +kernel)), rfl, rfl⟩
theorem dm_takesOther_98 : dn tm_takesOther 98 (.getfield 65) 3 101 := ⟨o_180 0 65 65 (oWd (K := 96) (r := 2) wi_m_takesOther_96 (by decide +kernel)), rfl⟩
theorem dm_takesOther_101 : dn tm_takesOther 101 (.bipush 80) 2 103 := ⟨o_16 80 80 (oWd (K := 96) (r := 5) wi_m_takesOther_96 (by decide +kernel)), rfl⟩
theorem dm_takesOther_103 : dl tm_takesOther 103 .iload_n .iload 3 104 := Or.inl ⟨3, o_29 (oW (K := 96) (r := 7) wi_m_takesOther_96 (by decide +kernel)), rfl, rfl⟩
theorem dm_takesOther_104 : dn tm_takesOther 104 (.iadd) 1 105 := ⟨o_96 (oW (K := 96) (r := 8) wi_m_takesOther_96 (by decide +kernel)), rfl⟩
theorem dm_takesOther_105 : dn tm_takesOther 105 (.iaload) 1 106 := ⟨o_46 (oW (K := 96) (r := 9) wi_m_takesOther_96 (by decide +kernel)), rfl⟩
theorem dm_takesOther_106 : dn tm_takesOther 106 (.iastore) 1 107 := ⟨o_79 (oW (K := 96) (r := 10) wi_m_takesOther_96 (by decide +kernel)), rfl⟩
theorem dm_takesOther_107 : dn tm_takesOther 107 (.iinc 3 1) 3 110 := ⟨o_132 3 1 1 (oWd (K := 96) (r := 11) wi_m_takesOther_96 (by decide +kernel)), rfl⟩
theorem dm_takesOther_110 : db tm_takesOther 110 .goto 85 113 := ⟨-25, o_167 255 231 (-25) (oWd (K := 96) (r := 14) wi_m_takesOther_96 (by decide +kernel)), rfl, rfl⟩
theorem dm_takesOther_113 : dl tm_takesOther 113 .aload_n .aload 0 114 := Or.inl ⟨0, o_42 (oW (K := 96) (r := 17) wi_m_takesOther_96 (by decide +kernel)), rfl, rfl⟩
theorem dm_takesOther_114 : dl tm_takesOther 114 .iload_n .iload 2 115 := Or.inl ⟨2, o_28 (oW (K := 96) (r := 18) wi_m_takesOther_96 (by decide +kernel)), rfl, rfl⟩
theorem dm_takesOther_115 : dn tm_takesOther 115 (.putfield 324) 3 118 := ⟨o_181 1 68 324 (oWd (K := 96) (r := 19) wi_m_takesOther_96 (by decide +kernel)), rfl⟩
theorem dm_takesOther_118 : dl tm_takesOther 118 .aload_n .aload 0 119 := Or.inl ⟨0, o_42 (oW (K := 96) (r := 22) wi_m_takesOther_96 (by decide +kernel)), rfl, rfl⟩
theorem dm_takesOther_119 : dn tm_takesOther 119 (.iconst 0) 1 120 := ⟨o_3 (oW (K := 96) (r := 23) wi_m_takesOther_96 (by decide +kernel)), rfl⟩
theorem dm_takesOther_120 : dn tm_takesOther 120 (.putfield 149) 3 123 := ⟨o_181 0 149 149 (oWd (K := 96) (r := 24) wi_m_takesOther_96 (by decide +kernel)), rfl⟩
theorem dm_takesOther_123 : dn tm_takesOther 123 (.return_) 1 124 := ⟨o_177 (oW (K := 96) (r := 27) wi_m_takesOther_96 (by decide +kernel)), rfl⟩
def wl_m_text_0 : List Nat := [42, 3, 181, 0, 146, 42, 3, 181, 1, 71, 42, 2, 181, 0, 58, 42, 3, 181, 0, 198, 42, 3, 181, 0, 231, 42, 3, 181, 1, 7, 2, 61, 42, 27, 3, 6, 182, 0]
theorem wi_m_text_0 : oC tm_text.2.1 0 wl_m_text_0 = true := by decide +kernel
theorem dm_text_0 : dl tm_text 0 .aload_n .aload 0 1 := Or.inl ⟨0, o_42 (oW (K := 0) (r := 0) wi_m_text_0 (by decide +kernel)), rfl, rfl⟩
theorem dm_text_1 : dn tm_text 1 (.iconst 0) 1 2 := ⟨o_3 (oW (K := 0) (r := 1) wi_m_text_0 (by decide +kernel)), rfl⟩
theorem dm_text_2 : dn tm_text 2 (.putfield 146) 3 5 := ⟨o_181 0 146 146 (oWd (K := 0) (r := 2) wi_m_text_0 (by decide +kernel)), rfl⟩
theorem dm_text_5 : dl tm_text 5 .aload_n .aload 0 6 := Or.inl ⟨0, o_42 (oW (K := 0) (r := 5) wi_m_text_0 (by decide +kernel)), rfl, rfl⟩
theorem dm_text_6 : dn tm_text 6 (.iconst 0) 1 7 := ⟨o_3 (oW (K := 0) (r := 6) wi_m_text_0 (by decide +kernel)), rfl⟩
theorem dm_text_7 : dn tm_text 7 (.putfield 327) 3 10 := ⟨o_181 1 71 327 (oWd (K := 0) (r := 7) wi_m_text_0 (by decide +kernel)), rfl⟩
theorem dm_text_10 : dl tm_text 10 .aload_n .aload 0 11 := Or.inl ⟨0, o_42 (oW (K := 0) (r := 10) wi_m_text_0 (by decide +kernel)), rfl, rfl⟩
theorem dm_text_11 : dn tm_text 11 (.iconst (-1)) 1 12 := ⟨o_2 (oW (K := 0) (r := 11) wi_m_text_0 (by decide +kernel)), rfl⟩
theorem dm_text_12 : dn tm_text 12 (.putfield 58) 3 15 := ⟨o_181 0 58 58 (oWd (K := 0) (r := 12) wi_m_text_0 (by decide +kernel)), rfl⟩
theorem dm_text_15 : dl tm_text 15 .aload_n .aload 0 16 := Or.inl ⟨0, o_42 (oW (K := 0) (r := 15) wi_m_text_0 (by decide +kernel)), rfl, rfl⟩
theorem dm_text_16 : dn tm_text 16 (.iconst 0) 1 17 := ⟨o_3 (oW (K := 0) (r := 16) wi_m_text_0 (by decide +kernel)), rfl⟩
theorem dm_text_17 : dn tm_text 17 (.putfield 198) 3 20 := ⟨o_181 0 198 198 (oWd (K := 0) (r := 17) wi_m_text_0 (by decide +kernel)), rfl⟩
theorem dm_text_20 : dl tm_text 20 .aload_n .aload 0 21 := Or.inl ⟨0, o_42 (oW (K := 0) (r := 20) wi_m_text_0 (by decide +kernel)), rfl, rfl⟩
theorem dm_text_21 : dn tm_text 21 (.iconst 0) 1 22 := ⟨o_3 (oW (K := 0) (r := 21) wi_m_text_0 (by decide +kernel)), rfl⟩
theorem dm_text_22 : dn tm_text 22 (.putfield 231) 3 25 := ⟨o_181 0 231 231 (oWd (K := 0) (r := 22) wi_m_text_0 (by decide +kernel)), rfl⟩
theorem dm_text_25 : dl tm_text 25 .aload_n .aload 0 26 := Or.inl ⟨0, o_42 (oW (K := 0) (r := 25) wi_m_text_0 (by decide +kernel)), rfl, rfl⟩
theorem dm_text_26 : dn tm_text 26 (.iconst 0) 1 27 := ⟨o_3 (oW (K := 0) (r := 26) wi_m_text_0 (by decide +kernel)), rfl⟩
theorem dm_text_27 : dn tm_text 27 (.putfield 263) 3 30 := ⟨o_181 1 7 263 (oWd (K := 0) (r := 27) wi_m_text_0 (by decide +kernel)), rfl⟩
theorem dm_text_30 : dn tm_text 30 (.iconst (-1)) 1 31 := ⟨o_2 (oW (K := 0) (r := 30) wi_m_text_0 (by decide +kernel)), rfl⟩
theorem dm_text_31 : dl tm_text 31 .istore_n .istore 2 32 := Or.inl ⟨2, o_61 (oW (K := 0) (r := 31) wi_m_text_0 (by decide +kernel)), rfl, rfl⟩
def wl_m_text_32 : List Nat := [42, 27, 3, 6, 182, 0, 177, 153, 0, 30, 42, 27, 182, 1, 74, 61, 28, 2, 160, 0, 19, 42, 42, 180, 0, 225, 181, 1, 71, 42, 42, 180, 0, 228, 181, 0, 58, 42]
theorem wi_m_text_32 : oC tm_text.2.1 32 wl_m_text_32 = true := by decide +kernel
theorem dm_text_32 : dl tm_text 32 .aload_n .aload 0 33 := Or.inl ⟨0, o_42 (oW (K := 32) (r := 0) wi_m_text_32 (by decide +kernel)), rfl, rfl⟩
theorem dm_text_33 : dl tm_text 33 .iload_n .iload 1 34 := Or.inl ⟨1, o_27 (oW (K := 32) (r := 1) wi_m_text_32 (by decide +kernel)), rfl, rfl⟩
theorem dm_text_34 : dn tm_text 34 (.iconst 0) 1 35 := ⟨o_3 (oW (K := 32) (r := 2) wi_m_text_32 (by decide +kernel)), rfl⟩
theorem dm_text_35 : dn tm_text 35 (.iconst 3) 1 36 := ⟨o_6 (oW (K := 32) (r := 3) wi_m_text_32 (by decide +kernel)), rfl⟩
theorem dm_text_36 : dn tm_text 36 (.invokevirtual 177) 3 39 := ⟨o_182 0 177 177 (oWd (K := 32) (r := 4) wi_m_text_32 (by decide +kernel)), rfl⟩
theorem dm_text_39 : db tm_text 39 (.ifCond .eq) 69 42 := ⟨30, o_153 0 30 30 (oWd (K := 32) (r := 7) wi_m_text_32 (by decide +kernel)), rfl, rfl⟩
theorem dm_text_42 : dl tm_text 42 .aload_n .aload 0 43 := Or.inl ⟨0, o_42 (oW (K := 32) (r := 10) wi_m_text_32 (by decide +kernel)), rfl, rfl⟩
theorem dm_text_43 : dl tm_text 43 .iload_n .iload 1 44 := Or.inl ⟨1, o_27 (oW (K := 32) (r := 11) wi_m_text_32 (by decide +kernel)), rfl, rfl⟩
theorem dm_text_44 : dn tm_text 44 (.invokevirtual 330) 3 47 := ⟨o_182 1 74 330 (oWd (K := 32) (r := 12) wi_m_text_32 (by decide +kernel)), rfl⟩
theorem dm_text_47 : dl tm_text 47 .istore_n .istore 2 48 := Or.inl ⟨2, o_61 (oW (K := 32) (r := 15) wi_m_text_32 (by decide +kernel)), rfl, rfl⟩
theorem dm_text_48 : dl tm_text 48 .iload_n .iload 2 49 := Or.inl ⟨2, o_28 (oW (K := 32) (r := 16) wi_m_text_32 (by decide +kernel)), rfl, rfl⟩
theorem dm_text_49 : dn tm_text 49 (.iconst (-1)) 1 50 := ⟨o_2 (oW (K := 32) (r := 17) wi_m_text_32 (by decide +kernel)), rfl⟩
theorem dm_text_50 : db tm_text 50 (.if_icmp .ne) 69 53 := ⟨19, o_160 0 19 19 (oWd (K := 32) (r := 18) wi_m_text_32 (by decide +kernel)), rfl, rfl⟩
theorem dm_text_53 : dl tm_text 53 .aload_n .aload 0 54 := Or.inl ⟨0, o_42 (oW (K := 32) (r := 21) wi_m_text_32 (by decide +kernel)), rfl, rfl⟩
theorem dm_text_54 : dl tm_text 54 .aload_n .aload 0 55 := Or.inl ⟨0, o_42 (oW (K := 32) (r := 22) wi_m_text_32 (by decide +kernel)), rfl, rfl⟩
theorem dm_text_55 : dn tm_text 55 (.getfield 225) 3 58 := ⟨o_180 0 225 225 (oWd (K := 32) (r := 23) wi_m_text_32 (by decide +kernel)), rfl⟩
theorem dm_text_58 : dn tm_text 58 (.putfield 327) 3 61 := ⟨o_181 1 71 327 (oWd (K := 32) (r := 26) wi_m_text_32 (by decide +kernel)), rfl⟩
theorem dm_text_61 : dl tm_text 61 .aload_n .aload 0 62 := Or.inl ⟨0, o_42 (oW (K := 32) (r := 29) wi_m_text_32 (by decide +kernel)), rfl, rfl⟩
theorem dm_text_62 : dl tm_text 62 .aload_n .aload 0 63 := Or.inl ⟨0, o_42 (oW (K := 32) (r := 30) wi_m_text_32 (by decide +kernel)), rfl, rfl⟩
theorem dm_text_63 : dn tm_text 63 (.getfield 228) 3 66 := ⟨o_180 0 228 228 (oWd (K := 32) (r := 31) wi_m_text_32 (by decide +kernel)), rfl⟩
def wl_m_text_64 : List Nat := [0, 228, 181, 0, 58, 42, 3, 181, 0, 191, 28, 2, 160, 0, 5, 2, 172, 27, 154, 0, 11, 42, 28, 182, 1, 77, 167, 0, 9, 42, 27, 28, 182, 1, 80, 28, 172]
theorem wi_m_text_64 : oC tm_text.2.1 64 wl_m_text_64 = true := by decide +kernel
theorem dm_text_66 : dn tm_text 66 (.putfield 58) 3 69 := ⟨o_181 0 58 58 (oWd (K := 64) (r := 2) wi_m_text_64 (by decide +kernel)), rfl⟩
theorem dm_text_69 : dl tm_text 69 .aload_n .aload 0 70 := Or.inl ⟨0, o_42 (oW (K := 64) (r := 5) wi_m_text_64 (by decide +kernel)), rfl, rfl⟩
theorem dm_text_70 : dn tm_text 70 (.iconst 0) 1 71 := ⟨o_3 (oW (K := 64) (r := 6) wi_m_text_64 (by decide +kernel)), rfl⟩
theorem dm_text_71 : dn tm_text 71 (.putfield 191) 3 74 := ⟨o_181 0 191 191 (oWd (K := 64) (r := 7) wi_m_text_64 (by decide +kernel)), rfl⟩
theorem dm_text_74 : dl tm_text 74 .iload_n .iload 2 75 := Or.inl ⟨2, o_28 (oW (K := 64) (r := 10) wi_m_text_64 (by decide +kernel)), rfl, rfl⟩
theorem dm_text_75 : dn tm_text 75 (.iconst (-1)) 1 76 := ⟨o_2 (oW (K := 64) (r := 11) wi_m_text_64 (by decide +kernel)), rfl⟩
theorem dm_text_76 : db tm_text 76 (.if_icmp .ne) 81 79 := ⟨5, o_160 0 5 5 (oWd (K := 64) (r := 12) wi_m_text_64 (by decide +kernel)), rfl, rfl⟩
theorem dm_text_79 : dn tm_text 79 (.iconst (-1)) 1 80 := ⟨o_2 (oW (K := 64) (r := 15) wi_m_text_64 (by decide +kernel)), rfl⟩
theorem dm_text_80 : dn tm_text 80 (.ireturn) 1 81 := ⟨o_172 (oW (K := 64) (r := 16) wi_m_text_64 (by decide +kernel)), rfl⟩
theorem dm_text_81 : dl tm_text 81 .iload_n .iload 1 82 := Or.inl ⟨1, o_27 (oW (K := 64) (r := 17) wi_m_text_64 (by decide +kernel)), rfl, rfl⟩
theorem dm_text_82 : db tm_text 82 (.ifCond .ne) 93 85 := ⟨11, o_154 0 11 11 (oWd (K := 64) (r := 18) wi_m_text_64 (by decide +kernel)), rfl, rfl⟩
theorem dm_text_85 : dl tm_text 85 .aload_n .aload 0 86 := Or.inl ⟨0, o_42 (oW (K := 64) (r := 21) wi_m_text_64 (by decide +kernel)), rfl, rfl⟩
theorem dm_text_86 : dl tm_text 86 .iload_n .iload 2 87 := Or.inl ⟨2, o_28 (oW (K := 64) (r := 22) wi_m_text_64 (by decide +kernel)), rfl, rfl⟩
theorem dm_text_87 : dn tm_text 87 (.invokevirtual 333) 3 90 := ⟨o_182 1 77 333 (oWd (K := 64) (r := 23) wi_m_text_64 (by decide +kernel)), rfl⟩
theorem dm_text_90 : db tm_text 90 .goto 99 93 := ⟨9, o_167 0 9 9 (oWd (K := 64) (r := 26) wi_m_text_64 (by decide +kernel)), rfl, rfl⟩
theorem dm_text_93 : dl tm_text 93 .aload_n .aload 0 94 := Or.inl ⟨0, o_42 (oW (K := 64) (r := 29) wi_m_text_64 (by decide +kernel)), rfl, rfl⟩
theorem dm_text_94 : dl tm_text 94 .iload_n .iload 1 95 := Or.inl ⟨1, o_27 (oW (K := 64) (r := 30) wi_m_text_64 (by decide +kernel)), rfl, rfl⟩
theorem dm_text_95 : dl tm_text 95 .iload_n .iload 2 96 := Or.inl ⟨2, o_28 (oW (K := 64) (r := 31) wi_m_text_64 (by decide +kernel)), rfl, rfl⟩
def wl_m_text_96 : List Nat := [182, 1, 80, 28, 172]
theorem wi_m_text_96 : oC tm_text.2.1 96 wl_m_text_96 = true := by decide +kernel
theorem dm_text_96 : dn tm_text 96 (.invokevirtual 336) 3 99 := ⟨o_182 1 80 336 (oWd (K := 96) (r := 0) wi_m_text_96 (by decide +kernel)), rfl⟩
theorem dm_text_99 : dl tm_text 99 .iload_n .iload 2 100 := Or.inl ⟨2, o_28 (oW (K := 96) (r := 3) wi_m_text_96 (by decide +kernel)), rfl, rfl⟩
theorem dm_text_100 : dn tm_text 100 (.ireturn) 1 101 := ⟨o_172 (oW (K := 96) (r := 4) wi_m_text_96 (by decide +kernel)), rfl⟩
def wl_m_fault_0 : List Nat := [42, 3, 181, 0, 146, 27, 154, 0, 10, 42, 180, 1, 71, 167, 0, 16, 27, 4, 160, 0, 10, 42, 180, 0, 58, 167, 0, 4, 2, 172]
theorem wi_m_fault_0 : oC tm_fault.2.1 0 wl_m_fault_0 = true := by decide +kernel
theorem dm_fault_0 : dl tm_fault 0 .aload_n .aload 0 1 := Or.inl ⟨0, o_42 (oW (K := 0) (r := 0) wi_m_fault_0 (by decide +kernel)), rfl, rfl⟩
theorem dm_fault_1 : dn tm_fault 1 (.iconst 0) 1 2 := ⟨o_3 (oW (K := 0) (r := 1) wi_m_fault_0 (by decide +kernel)), rfl⟩
theorem dm_fault_2 : dn tm_fault 2 (.putfield 146) 3 5 := ⟨o_181 0 146 146 (oWd (K := 0) (r := 2) wi_m_fault_0 (by decide +kernel)), rfl⟩
theorem dm_fault_5 : dl tm_fault 5 .iload_n .iload 1 6 := Or.inl ⟨1, o_27 (oW (K := 0) (r := 5) wi_m_fault_0 (by decide +kernel)), rfl, rfl⟩
theorem dm_fault_6 : db tm_fault 6 (.ifCond .ne) 16 9 := ⟨10, o_154 0 10 10 (oWd (K := 0) (r := 6) wi_m_fault_0 (by decide +kernel)), rfl, rfl⟩
theorem dm_fault_9 : dl tm_fault 9 .aload_n .aload 0 10 := Or.inl ⟨0, o_42 (oW (K := 0) (r := 9) wi_m_fault_0 (by decide +kernel)), rfl, rfl⟩
theorem dm_fault_10 : dn tm_fault 10 (.getfield 327) 3 13 := ⟨o_180 1 71 327 (oWd (K := 0) (r := 10) wi_m_fault_0 (by decide +kernel)), rfl⟩
theorem dm_fault_13 : db tm_fault 13 .goto 29 16 := ⟨16, o_167 0 16 16 (oWd (K := 0) (r := 13) wi_m_fault_0 (by decide +kernel)), rfl, rfl⟩
theorem dm_fault_16 : dl tm_fault 16 .iload_n .iload 1 17 := Or.inl ⟨1, o_27 (oW (K := 0) (r := 16) wi_m_fault_0 (by decide +kernel)), rfl, rfl⟩
theorem dm_fault_17 : dn tm_fault 17 (.iconst 1) 1 18 := ⟨o_4 (oW (K := 0) (r := 17) wi_m_fault_0 (by decide +kernel)), rfl⟩
theorem dm_fault_18 : db tm_fault 18 (.if_icmp .ne) 28 21 := ⟨10, o_160 0 10 10 (oWd (K := 0) (r := 18) wi_m_fault_0 (by decide +kernel)), rfl, rfl⟩
theorem dm_fault_21 : dl tm_fault 21 .aload_n .aload 0 22 := Or.inl ⟨0, o_42 (oW (K := 0) (r := 21) wi_m_fault_0 (by decide +kernel)), rfl, rfl⟩
theorem dm_fault_22 : dn tm_fault 22 (.getfield 58) 3 25 := ⟨o_180 0 58 58 (oWd (K := 0) (r := 22) wi_m_fault_0 (by decide +kernel)), rfl⟩
theorem dm_fault_25 : db tm_fault 25 .goto 29 28 := ⟨4, o_167 0 4 4 (oWd (K := 0) (r := 25) wi_m_fault_0 (by decide +kernel)), rfl, rfl⟩
theorem dm_fault_28 : dn tm_fault 28 (.iconst (-1)) 1 29 := ⟨o_2 (oW (K := 0) (r := 28) wi_m_fault_0 (by decide +kernel)), rfl⟩
theorem dm_fault_29 : dn tm_fault 29 (.ireturn) 1 30 := ⟨o_172 (oW (K := 0) (r := 29) wi_m_fault_0 (by decide +kernel)), rfl⟩
def wl_m_twoOf_0 : List Nat := [27, 5, 160, 0, 7, 28, 29, 96, 172, 27, 6, 160, 0, 7, 28, 29, 100, 172, 27, 7, 160, 0, 7, 28, 29, 104, 172, 27, 8, 160, 0, 7, 28, 29, 108, 172, 27, 16]
theorem wi_m_twoOf_0 : oC tm_twoOf.2.1 0 wl_m_twoOf_0 = true := by decide +kernel
theorem dm_twoOf_0 : dl tm_twoOf 0 .iload_n .iload 1 1 := Or.inl ⟨1, o_27 (oW (K := 0) (r := 0) wi_m_twoOf_0 (by decide +kernel)), rfl, rfl⟩
theorem dm_twoOf_1 : dn tm_twoOf 1 (.iconst 2) 1 2 := ⟨o_5 (oW (K := 0) (r := 1) wi_m_twoOf_0 (by decide +kernel)), rfl⟩
theorem dm_twoOf_2 : db tm_twoOf 2 (.if_icmp .ne) 9 5 := ⟨7, o_160 0 7 7 (oWd (K := 0) (r := 2) wi_m_twoOf_0 (by decide +kernel)), rfl, rfl⟩
theorem dm_twoOf_5 : dl tm_twoOf 5 .iload_n .iload 2 6 := Or.inl ⟨2, o_28 (oW (K := 0) (r := 5) wi_m_twoOf_0 (by decide +kernel)), rfl, rfl⟩
theorem dm_twoOf_6 : dl tm_twoOf 6 .iload_n .iload 3 7 := Or.inl ⟨3, o_29 (oW (K := 0) (r := 6) wi_m_twoOf_0 (by decide +kernel)), rfl, rfl⟩
theorem dm_twoOf_7 : dn tm_twoOf 7 (.iadd) 1 8 := ⟨o_96 (oW (K := 0) (r := 7) wi_m_twoOf_0 (by decide +kernel)), rfl⟩
theorem dm_twoOf_8 : dn tm_twoOf 8 (.ireturn) 1 9 := ⟨o_172 (oW (K := 0) (r := 8) wi_m_twoOf_0 (by decide +kernel)), rfl⟩
theorem dm_twoOf_9 : dl tm_twoOf 9 .iload_n .iload 1 10 := Or.inl ⟨1, o_27 (oW (K := 0) (r := 9) wi_m_twoOf_0 (by decide +kernel)), rfl, rfl⟩
theorem dm_twoOf_10 : dn tm_twoOf 10 (.iconst 3) 1 11 := ⟨o_6 (oW (K := 0) (r := 10) wi_m_twoOf_0 (by decide +kernel)), rfl⟩
theorem dm_twoOf_11 : db tm_twoOf 11 (.if_icmp .ne) 18 14 := ⟨7, o_160 0 7 7 (oWd (K := 0) (r := 11) wi_m_twoOf_0 (by decide +kernel)), rfl, rfl⟩
theorem dm_twoOf_14 : dl tm_twoOf 14 .iload_n .iload 2 15 := Or.inl ⟨2, o_28 (oW (K := 0) (r := 14) wi_m_twoOf_0 (by decide +kernel)), rfl, rfl⟩
theorem dm_twoOf_15 : dl tm_twoOf 15 .iload_n .iload 3 16 := Or.inl ⟨3, o_29 (oW (K := 0) (r := 15) wi_m_twoOf_0 (by decide +kernel)), rfl, rfl⟩
theorem dm_twoOf_16 : dn tm_twoOf 16 (.isub) 1 17 := ⟨o_100 (oW (K := 0) (r := 16) wi_m_twoOf_0 (by decide +kernel)), rfl⟩
theorem dm_twoOf_17 : dn tm_twoOf 17 (.ireturn) 1 18 := ⟨o_172 (oW (K := 0) (r := 17) wi_m_twoOf_0 (by decide +kernel)), rfl⟩
theorem dm_twoOf_18 : dl tm_twoOf 18 .iload_n .iload 1 19 := Or.inl ⟨1, o_27 (oW (K := 0) (r := 18) wi_m_twoOf_0 (by decide +kernel)), rfl, rfl⟩
theorem dm_twoOf_19 : dn tm_twoOf 19 (.iconst 4) 1 20 := ⟨o_7 (oW (K := 0) (r := 19) wi_m_twoOf_0 (by decide +kernel)), rfl⟩
theorem dm_twoOf_20 : db tm_twoOf 20 (.if_icmp .ne) 27 23 := ⟨7, o_160 0 7 7 (oWd (K := 0) (r := 20) wi_m_twoOf_0 (by decide +kernel)), rfl, rfl⟩
theorem dm_twoOf_23 : dl tm_twoOf 23 .iload_n .iload 2 24 := Or.inl ⟨2, o_28 (oW (K := 0) (r := 23) wi_m_twoOf_0 (by decide +kernel)), rfl, rfl⟩
theorem dm_twoOf_24 : dl tm_twoOf 24 .iload_n .iload 3 25 := Or.inl ⟨3, o_29 (oW (K := 0) (r := 24) wi_m_twoOf_0 (by decide +kernel)), rfl, rfl⟩
theorem dm_twoOf_25 : dn tm_twoOf 25 (.imul) 1 26 := ⟨o_104 (oW (K := 0) (r := 25) wi_m_twoOf_0 (by decide +kernel)), rfl⟩
theorem dm_twoOf_26 : dn tm_twoOf 26 (.ireturn) 1 27 := ⟨o_172 (oW (K := 0) (r := 26) wi_m_twoOf_0 (by decide +kernel)), rfl⟩
theorem dm_twoOf_27 : dl tm_twoOf 27 .iload_n .iload 1 28 := Or.inl ⟨1, o_27 (oW (K := 0) (r := 27) wi_m_twoOf_0 (by decide +kernel)), rfl, rfl⟩
theorem dm_twoOf_28 : dn tm_twoOf 28 (.iconst 5) 1 29 := ⟨o_8 (oW (K := 0) (r := 28) wi_m_twoOf_0 (by decide +kernel)), rfl⟩
theorem dm_twoOf_29 : db tm_twoOf 29 (.if_icmp .ne) 36 32 := ⟨7, o_160 0 7 7 (oWd (K := 0) (r := 29) wi_m_twoOf_0 (by decide +kernel)), rfl, rfl⟩
def wl_m_twoOf_32 : List Nat := [28, 29, 108, 172, 27, 16, 6, 160, 0, 14, 28, 29, 162, 0, 7, 4, 167, 0, 4, 3, 172, 27, 16, 7, 160, 0, 14, 28, 29, 160, 0, 7, 4, 167, 0, 4, 3, 172]
theorem wi_m_twoOf_32 : oC tm_twoOf.2.1 32 wl_m_twoOf_32 = true := by decide +kernel
theorem dm_twoOf_32 : dl tm_twoOf 32 .iload_n .iload 2 33 := Or.inl ⟨2, o_28 (oW (K := 32) (r := 0) wi_m_twoOf_32 (by decide +kernel)), rfl, rfl⟩
theorem dm_twoOf_33 : dl tm_twoOf 33 .iload_n .iload 3 34 := Or.inl ⟨3, o_29 (oW (K := 32) (r := 1) wi_m_twoOf_32 (by decide +kernel)), rfl, rfl⟩
theorem dm_twoOf_34 : dn tm_twoOf 34 (.idiv) 1 35 := ⟨o_108 (oW (K := 32) (r := 2) wi_m_twoOf_32 (by decide +kernel)), rfl⟩
theorem dm_twoOf_35 : dn tm_twoOf 35 (.ireturn) 1 36 := ⟨o_172 (oW (K := 32) (r := 3) wi_m_twoOf_32 (by decide +kernel)), rfl⟩
theorem dm_twoOf_36 : dl tm_twoOf 36 .iload_n .iload 1 37 := Or.inl ⟨1, o_27 (oW (K := 32) (r := 4) wi_m_twoOf_32 (by decide +kernel)), rfl, rfl⟩
theorem dm_twoOf_37 : dn tm_twoOf 37 (.bipush 6) 2 39 := ⟨o_16 6 6 (oWd (K := 32) (r := 5) wi_m_twoOf_32 (by decide +kernel)), rfl⟩
theorem dm_twoOf_39 : db tm_twoOf 39 (.if_icmp .ne) 53 42 := ⟨14, o_160 0 14 14 (oWd (K := 32) (r := 7) wi_m_twoOf_32 (by decide +kernel)), rfl, rfl⟩
theorem dm_twoOf_42 : dl tm_twoOf 42 .iload_n .iload 2 43 := Or.inl ⟨2, o_28 (oW (K := 32) (r := 10) wi_m_twoOf_32 (by decide +kernel)), rfl, rfl⟩
theorem dm_twoOf_43 : dl tm_twoOf 43 .iload_n .iload 3 44 := Or.inl ⟨3, o_29 (oW (K := 32) (r := 11) wi_m_twoOf_32 (by decide +kernel)), rfl, rfl⟩
theorem dm_twoOf_44 : db tm_twoOf 44 (.if_icmp .ge) 51 47 := ⟨7, o_162 0 7 7 (oWd (K := 32) (r := 12) wi_m_twoOf_32 (by decide +kernel)), rfl, rfl⟩
theorem dm_twoOf_47 : dn tm_twoOf 47 (.iconst 1) 1 48 := ⟨o_4 (oW (K := 32) (r := 15) wi_m_twoOf_32 (by decide +kernel)), rfl⟩
theorem dm_twoOf_48 : db tm_twoOf 48 .goto 52 51 := ⟨4, o_167 0 4 4 (oWd (K := 32) (r := 16) wi_m_twoOf_32 (by decide +kernel)), rfl, rfl⟩
theorem dm_twoOf_51 : dn tm_twoOf 51 (.iconst 0) 1 52 := ⟨o_3 (oW (K := 32) (r := 19) wi_m_twoOf_32 (by decide +kernel)), rfl⟩
theorem dm_twoOf_52 : dn tm_twoOf 52 (.ireturn) 1 53 := ⟨o_172 (oW (K := 32) (r := 20) wi_m_twoOf_32 (by decide +kernel)), rfl⟩
theorem dm_twoOf_53 : dl tm_twoOf 53 .iload_n .iload 1 54 := Or.inl ⟨1, o_27 (oW (K := 32) (r := 21) wi_m_twoOf_32 (by decide +kernel)), rfl, rfl⟩
theorem dm_twoOf_54 : dn tm_twoOf 54 (.bipush 7) 2 56 := ⟨o_16 7 7 (oWd (K := 32) (r := 22) wi_m_twoOf_32 (by decide +kernel)), rfl⟩
theorem dm_twoOf_56 : db tm_twoOf 56 (.if_icmp .ne) 70 59 := ⟨14, o_160 0 14 14 (oWd (K := 32) (r := 24) wi_m_twoOf_32 (by decide +kernel)), rfl, rfl⟩
theorem dm_twoOf_59 : dl tm_twoOf 59 .iload_n .iload 2 60 := Or.inl ⟨2, o_28 (oW (K := 32) (r := 27) wi_m_twoOf_32 (by decide +kernel)), rfl, rfl⟩
theorem dm_twoOf_60 : dl tm_twoOf 60 .iload_n .iload 3 61 := Or.inl ⟨3, o_29 (oW (K := 32) (r := 28) wi_m_twoOf_32 (by decide +kernel)), rfl, rfl⟩
theorem dm_twoOf_61 : db tm_twoOf 61 (.if_icmp .ne) 68 64 := ⟨7, o_160 0 7 7 (oWd (K := 32) (r := 29) wi_m_twoOf_32 (by decide +kernel)), rfl, rfl⟩
def wl_m_twoOf_64 : List Nat := [4, 167, 0, 4, 3, 172, 27, 16, 8, 160, 0, 14, 28, 29, 164, 0, 7, 4, 167, 0, 4, 3, 172, 27, 16, 10, 160, 0, 9, 28, 29, 104, 167, 0, 14, 28, 29, 96]
theorem wi_m_twoOf_64 : oC tm_twoOf.2.1 64 wl_m_twoOf_64 = true := by decide +kernel
theorem dm_twoOf_64 : dn tm_twoOf 64 (.iconst 1) 1 65 := ⟨o_4 (oW (K := 64) (r := 0) wi_m_twoOf_64 (by decide +kernel)), rfl⟩
theorem dm_twoOf_65 : db tm_twoOf 65 .goto 69 68 := ⟨4, o_167 0 4 4 (oWd (K := 64) (r := 1) wi_m_twoOf_64 (by decide +kernel)), rfl, rfl⟩
theorem dm_twoOf_68 : dn tm_twoOf 68 (.iconst 0) 1 69 := ⟨o_3 (oW (K := 64) (r := 4) wi_m_twoOf_64 (by decide +kernel)), rfl⟩
theorem dm_twoOf_69 : dn tm_twoOf 69 (.ireturn) 1 70 := ⟨o_172 (oW (K := 64) (r := 5) wi_m_twoOf_64 (by decide +kernel)), rfl⟩
theorem dm_twoOf_70 : dl tm_twoOf 70 .iload_n .iload 1 71 := Or.inl ⟨1, o_27 (oW (K := 64) (r := 6) wi_m_twoOf_64 (by decide +kernel)), rfl, rfl⟩
theorem dm_twoOf_71 : dn tm_twoOf 71 (.bipush 8) 2 73 := ⟨o_16 8 8 (oWd (K := 64) (r := 7) wi_m_twoOf_64 (by decide +kernel)), rfl⟩
theorem dm_twoOf_73 : db tm_twoOf 73 (.if_icmp .ne) 87 76 := ⟨14, o_160 0 14 14 (oWd (K := 64) (r := 9) wi_m_twoOf_64 (by decide +kernel)), rfl, rfl⟩
theorem dm_twoOf_76 : dl tm_twoOf 76 .iload_n .iload 2 77 := Or.inl ⟨2, o_28 (oW (K := 64) (r := 12) wi_m_twoOf_64 (by decide +kernel)), rfl, rfl⟩
theorem dm_twoOf_77 : dl tm_twoOf 77 .iload_n .iload 3 78 := Or.inl ⟨3, o_29 (oW (K := 64) (r := 13) wi_m_twoOf_64 (by decide +kernel)), rfl, rfl⟩
theorem dm_twoOf_78 : db tm_twoOf 78 (.if_icmp .le) 85 81 := ⟨7, o_164 0 7 7 (oWd (K := 64) (r := 14) wi_m_twoOf_64 (by decide +kernel)), rfl, rfl⟩
theorem dm_twoOf_81 : dn tm_twoOf 81 (.iconst 1) 1 82 := ⟨o_4 (oW (K := 64) (r := 17) wi_m_twoOf_64 (by decide +kernel)), rfl⟩
theorem dm_twoOf_82 : db tm_twoOf 82 .goto 86 85 := ⟨4, o_167 0 4 4 (oWd (K := 64) (r := 18) wi_m_twoOf_64 (by decide +kernel)), rfl, rfl⟩
theorem dm_twoOf_85 : dn tm_twoOf 85 (.iconst 0) 1 86 := ⟨o_3 (oW (K := 64) (r := 21) wi_m_twoOf_64 (by decide +kernel)), rfl⟩
theorem dm_twoOf_86 : dn tm_twoOf 86 (.ireturn) 1 87 := ⟨o_172 (oW (K := 64) (r := 22) wi_m_twoOf_64 (by decide +kernel)), rfl⟩
theorem dm_twoOf_87 : dl tm_twoOf 87 .iload_n .iload 1 88 := Or.inl ⟨1, o_27 (oW (K := 64) (r := 23) wi_m_twoOf_64 (by decide +kernel)), rfl, rfl⟩
theorem dm_twoOf_88 : dn tm_twoOf 88 (.bipush 10) 2 90 := ⟨o_16 10 10 (oWd (K := 64) (r := 24) wi_m_twoOf_64 (by decide +kernel)), rfl⟩
theorem dm_twoOf_90 : db tm_twoOf 90 (.if_icmp .ne) 99 93 := ⟨9, o_160 0 9 9 (oWd (K := 64) (r := 26) wi_m_twoOf_64 (by decide +kernel)), rfl, rfl⟩
theorem dm_twoOf_93 : dl tm_twoOf 93 .iload_n .iload 2 94 := Or.inl ⟨2, o_28 (oW (K := 64) (r := 29) wi_m_twoOf_64 (by decide +kernel)), rfl, rfl⟩
theorem dm_twoOf_94 : dl tm_twoOf 94 .iload_n .iload 3 95 := Or.inl ⟨3, o_29 (oW (K := 64) (r := 30) wi_m_twoOf_64 (by decide +kernel)), rfl, rfl⟩
theorem dm_twoOf_95 : dn tm_twoOf 95 (.imul) 1 96 := ⟨o_104 (oW (K := 64) (r := 31) wi_m_twoOf_64 (by decide +kernel)), rfl⟩
def wl_m_twoOf_96 : List Nat := [167, 0, 14, 28, 29, 96, 158, 0, 7, 4, 167, 0, 4, 3, 172]
theorem wi_m_twoOf_96 : oC tm_twoOf.2.1 96 wl_m_twoOf_96 = true := by decide +kernel
theorem dm_twoOf_96 : db tm_twoOf 96 .goto 110 99 := ⟨14, o_167 0 14 14 (oWd (K := 96) (r := 0) wi_m_twoOf_96 (by decide +kernel)), rfl, rfl⟩
theorem dm_twoOf_99 : dl tm_twoOf 99 .iload_n .iload 2 100 := Or.inl ⟨2, o_28 (oW (K := 96) (r := 3) wi_m_twoOf_96 (by decide +kernel)), rfl, rfl⟩
theorem dm_twoOf_100 : dl tm_twoOf 100 .iload_n .iload 3 101 := Or.inl ⟨3, o_29 (oW (K := 96) (r := 4) wi_m_twoOf_96 (by decide +kernel)), rfl, rfl⟩
theorem dm_twoOf_101 : dn tm_twoOf 101 (.iadd) 1 102 := ⟨o_96 (oW (K := 96) (r := 5) wi_m_twoOf_96 (by decide +kernel)), rfl⟩
theorem dm_twoOf_102 : db tm_twoOf 102 (.ifCond .le) 109 105 := ⟨7, o_158 0 7 7 (oWd (K := 96) (r := 6) wi_m_twoOf_96 (by decide +kernel)), rfl, rfl⟩
theorem dm_twoOf_105 : dn tm_twoOf 105 (.iconst 1) 1 106 := ⟨o_4 (oW (K := 96) (r := 9) wi_m_twoOf_96 (by decide +kernel)), rfl⟩
theorem dm_twoOf_106 : db tm_twoOf 106 .goto 110 109 := ⟨4, o_167 0 4 4 (oWd (K := 96) (r := 10) wi_m_twoOf_96 (by decide +kernel)), rfl, rfl⟩
theorem dm_twoOf_109 : dn tm_twoOf 109 (.iconst 0) 1 110 := ⟨o_3 (oW (K := 96) (r := 13) wi_m_twoOf_96 (by decide +kernel)), rfl⟩
theorem dm_twoOf_110 : dn tm_twoOf 110 (.ireturn) 1 111 := ⟨o_172 (oW (K := 96) (r := 14) wi_m_twoOf_96 (by decide +kernel)), rfl⟩
def wl_m_runs_0 : List Nat := [3, 54, 4, 17, 1, 144, 27, 104, 28, 96, 54, 5, 21, 5, 17, 1, 144, 27, 104, 29, 96, 162, 0, 155, 42, 180, 0, 49, 21, 5, 46, 153, 0, 14, 42, 180, 0, 49]
theorem wi_m_runs_0 : oC tm_runs.2.1 0 wl_m_runs_0 = true := by decide +kernel
theorem dm_runs_0 : dn tm_runs 0 (.iconst 0) 1 1 := ⟨o_3 (oW (K := 0) (r := 0) wi_m_runs_0 (by decide +kernel)), rfl⟩
theorem dm_runs_1 : dl tm_runs 1 .istore_n .istore 4 3 := Or.inr ⟨o_54 4 (oW (K := 0) (r := 1) wi_m_runs_0 (by decide +kernel)), rfl⟩
theorem dm_runs_3 : dn tm_runs 3 (.sipush 400) 3 6 := ⟨o_17 1 144 400 (oWd (K := 0) (r := 3) wi_m_runs_0 (by decide +kernel)), rfl⟩
theorem dm_runs_6 : dl tm_runs 6 .iload_n .iload 1 7 := Or.inl ⟨1, o_27 (oW (K := 0) (r := 6) wi_m_runs_0 (by decide +kernel)), rfl, rfl⟩
theorem dm_runs_7 : dn tm_runs 7 (.imul) 1 8 := ⟨o_104 (oW (K := 0) (r := 7) wi_m_runs_0 (by decide +kernel)), rfl⟩
theorem dm_runs_8 : dl tm_runs 8 .iload_n .iload 2 9 := Or.inl ⟨2, o_28 (oW (K := 0) (r := 8) wi_m_runs_0 (by decide +kernel)), rfl, rfl⟩
theorem dm_runs_9 : dn tm_runs 9 (.iadd) 1 10 := ⟨o_96 (oW (K := 0) (r := 9) wi_m_runs_0 (by decide +kernel)), rfl⟩
theorem dm_runs_10 : dl tm_runs 10 .istore_n .istore 5 12 := Or.inr ⟨o_54 5 (oW (K := 0) (r := 10) wi_m_runs_0 (by decide +kernel)), rfl⟩
theorem dm_runs_12 : dl tm_runs 12 .iload_n .iload 5 14 := Or.inr ⟨o_21 5 (oW (K := 0) (r := 12) wi_m_runs_0 (by decide +kernel)), rfl⟩
theorem dm_runs_14 : dn tm_runs 14 (.sipush 400) 3 17 := ⟨o_17 1 144 400 (oWd (K := 0) (r := 14) wi_m_runs_0 (by decide +kernel)), rfl⟩
theorem dm_runs_17 : dl tm_runs 17 .iload_n .iload 1 18 := Or.inl ⟨1, o_27 (oW (K := 0) (r := 17) wi_m_runs_0 (by decide +kernel)), rfl, rfl⟩
theorem dm_runs_18 : dn tm_runs 18 (.imul) 1 19 := ⟨o_104 (oW (K := 0) (r := 18) wi_m_runs_0 (by decide +kernel)), rfl⟩
theorem dm_runs_19 : dl tm_runs 19 .iload_n .iload 3 20 := Or.inl ⟨3, o_29 (oW (K := 0) (r := 19) wi_m_runs_0 (by decide +kernel)), rfl, rfl⟩
theorem dm_runs_20 : dn tm_runs 20 (.iadd) 1 21 := ⟨o_96 (oW (K := 0) (r := 20) wi_m_runs_0 (by decide +kernel)), rfl⟩
theorem dm_runs_21 : db tm_runs 21 (.if_icmp .ge) 176 24 := ⟨155, o_162 0 155 155 (oWd (K := 0) (r := 21) wi_m_runs_0 (by decide +kernel)), rfl, rfl⟩
theorem dm_runs_24 : dl tm_runs 24 .aload_n .aload 0 25 := Or.inl ⟨0, o_42 (oW (K := 0) (r := 24) wi_m_runs_0 (by decide +kernel)), rfl, rfl⟩
theorem dm_runs_25 : dn tm_runs 25 (.getfield 49) 3 28 := ⟨o_180 0 49 49 (oWd (K := 0) (r := 25) wi_m_runs_0 (by decide +kernel)), rfl⟩
theorem dm_runs_28 : dl tm_runs 28 .iload_n .iload 5 30 := Or.inr ⟨o_21 5 (oW (K := 0) (r := 28) wi_m_runs_0 (by decide +kernel)), rfl⟩
theorem dm_runs_30 : dn tm_runs 30 (.iaload) 1 31 := ⟨o_46 (oW (K := 0) (r := 30) wi_m_runs_0 (by decide +kernel)), rfl⟩
theorem dm_runs_31 : db tm_runs 31 (.ifCond .eq) 45 34 := ⟨14, o_153 0 14 14 (oWd (K := 0) (r := 31) wi_m_runs_0 (by decide +kernel)), rfl, rfl⟩
def wl_m_runs_32 : List Nat := [0, 14, 42, 180, 0, 49, 21, 5, 46, 4, 160, 0, 51, 42, 180, 0, 74, 21, 4, 42, 180, 0, 49, 21, 5, 46, 154, 0, 13, 42, 180, 0, 52, 21, 5, 46, 167, 0]
theorem wi_m_runs_32 : oC tm_runs.2.1 32 wl_m_runs_32 = true := by decide +kernel
theorem dm_runs_34 : dl tm_runs 34 .aload_n .aload 0 35 := Or.inl ⟨0, o_42 (oW (K := 32) (r := 2) wi_m_runs_32 (by decide +kernel)), rfl, rfl⟩
theorem dm_runs_35 : dn tm_runs 35 (.getfield 49) 3 38 := ⟨o_180 0 49 49 (oWd (K := 32) (r := 3) wi_m_runs_32 (by decide +kernel)), rfl⟩
theorem dm_runs_38 : dl tm_runs 38 .iload_n .iload 5 40 := Or.inr ⟨o_21 5 (oW (K := 32) (r := 6) wi_m_runs_32 (by decide +kernel)), rfl⟩
theorem dm_runs_40 : dn tm_runs 40 (.iaload) 1 41 := ⟨o_46 (oW (K := 32) (r := 8) wi_m_runs_32 (by decide +kernel)), rfl⟩
theorem dm_runs_41 : dn tm_runs 41 (.iconst 1) 1 42 := ⟨o_4 (oW (K := 32) (r := 9) wi_m_runs_32 (by decide +kernel)), rfl⟩
theorem dm_runs_42 : db tm_runs 42 (.if_icmp .ne) 93 45 := ⟨51, o_160 0 51 51 (oWd (K := 32) (r := 10) wi_m_runs_32 (by decide +kernel)), rfl, rfl⟩
theorem dm_runs_45 : dl tm_runs 45 .aload_n .aload 0 46 := Or.inl ⟨0, o_42 (oW (K := 32) (r := 13) wi_m_runs_32 (by decide +kernel)), rfl, rfl⟩
theorem dm_runs_46 : dn tm_runs 46 (.getfield 74) 3 49 := ⟨o_180 0 74 74 (oWd (K := 32) (r := 14) wi_m_runs_32 (by decide +kernel)), rfl⟩
theorem dm_runs_49 : dl tm_runs 49 .iload_n .iload 4 51 := Or.inr ⟨o_21 4 (oW (K := 32) (r := 17) wi_m_runs_32 (by decide +kernel)), rfl⟩
theorem dm_runs_51 : dl tm_runs 51 .aload_n .aload 0 52 := Or.inl ⟨0, o_42 (oW (K := 32) (r := 19) wi_m_runs_32 (by decide +kernel)), rfl, rfl⟩
theorem dm_runs_52 : dn tm_runs 52 (.getfield 49) 3 55 := ⟨o_180 0 49 49 (oWd (K := 32) (r := 20) wi_m_runs_32 (by decide +kernel)), rfl⟩
theorem dm_runs_55 : dl tm_runs 55 .iload_n .iload 5 57 := Or.inr ⟨o_21 5 (oW (K := 32) (r := 23) wi_m_runs_32 (by decide +kernel)), rfl⟩
theorem dm_runs_57 : dn tm_runs 57 (.iaload) 1 58 := ⟨o_46 (oW (K := 32) (r := 25) wi_m_runs_32 (by decide +kernel)), rfl⟩
theorem dm_runs_58 : db tm_runs 58 (.ifCond .ne) 71 61 := ⟨13, o_154 0 13 13 (oWd (K := 32) (r := 26) wi_m_runs_32 (by decide +kernel)), rfl, rfl⟩
theorem dm_runs_61 : dl tm_runs 61 .aload_n .aload 0 62 := Or.inl ⟨0, o_42 (oW (K := 32) (r := 29) wi_m_runs_32 (by decide +kernel)), rfl, rfl⟩
theorem dm_runs_62 : dn tm_runs 62 (.getfield 52) 3 65 := ⟨o_180 0 52 52 (oWd (K := 32) (r := 30) wi_m_runs_32 (by decide +kernel)), rfl⟩
def wl_m_runs_64 : List Nat := [52, 21, 5, 46, 167, 0, 15, 42, 180, 0, 71, 42, 180, 0, 52, 21, 5, 46, 46, 79, 21, 4, 4, 96, 54, 4, 167, 0, 80, 42, 180, 0, 49, 21, 5, 46, 16, 9]
theorem wi_m_runs_64 : oC tm_runs.2.1 64 wl_m_runs_64 = true := by decide +kernel
theorem dm_runs_65 : dl tm_runs 65 .iload_n .iload 5 67 := Or.inr ⟨o_21 5 (oW (K := 64) (r := 1) wi_m_runs_64 (by decide +kernel)), rfl⟩
theorem dm_runs_67 : dn tm_runs 67 (.iaload) 1 68 := ⟨o_46 (oW (K := 64) (r := 3) wi_m_runs_64 (by decide +kernel)), rfl⟩
theorem dm_runs_68 : db tm_runs 68 .goto 83 71 := ⟨15, o_167 0 15 15 (oWd (K := 64) (r := 4) wi_m_runs_64 (by decide +kernel)), rfl, rfl⟩
theorem dm_runs_71 : dl tm_runs 71 .aload_n .aload 0 72 := Or.inl ⟨0, o_42 (oW (K := 64) (r := 7) wi_m_runs_64 (by decide +kernel)), rfl, rfl⟩
theorem dm_runs_72 : dn tm_runs 72 (.getfield 71) 3 75 := ⟨o_180 0 71 71 (oWd (K := 64) (r := 8) wi_m_runs_64 (by decide +kernel)), rfl⟩
theorem dm_runs_75 : dl tm_runs 75 .aload_n .aload 0 76 := Or.inl ⟨0, o_42 (oW (K := 64) (r := 11) wi_m_runs_64 (by decide +kernel)), rfl, rfl⟩
theorem dm_runs_76 : dn tm_runs 76 (.getfield 52) 3 79 := ⟨o_180 0 52 52 (oWd (K := 64) (r := 12) wi_m_runs_64 (by decide +kernel)), rfl⟩
theorem dm_runs_79 : dl tm_runs 79 .iload_n .iload 5 81 := Or.inr ⟨o_21 5 (oW (K := 64) (r := 15) wi_m_runs_64 (by decide +kernel)), rfl⟩
theorem dm_runs_81 : dn tm_runs 81 (.iaload) 1 82 := ⟨o_46 (oW (K := 64) (r := 17) wi_m_runs_64 (by decide +kernel)), rfl⟩
theorem dm_runs_82 : dn tm_runs 82 (.iaload) 1 83 := ⟨o_46 (oW (K := 64) (r := 18) wi_m_runs_64 (by decide +kernel)), rfl⟩
theorem dm_runs_83 : dn tm_runs 83 (.iastore) 1 84 := ⟨o_79 (oW (K := 64) (r := 19) wi_m_runs_64 (by decide +kernel)), rfl⟩
theorem dm_runs_84 : dl tm_runs 84 .iload_n .iload 4 86 := Or.inr ⟨o_21 4 (oW (K := 64) (r := 20) wi_m_runs_64 (by decide +kernel)), rfl⟩
theorem dm_runs_86 : dn tm_runs 86 (.iconst 1) 1 87 := ⟨o_4 (oW (K := 64) (r := 22) wi_m_runs_64 (by decide +kernel)), rfl⟩
theorem dm_runs_87 : dn tm_runs 87 (.iadd) 1 88 := ⟨o_96 (oW (K := 64) (r := 23) wi_m_runs_64 (by decide +kernel)), rfl⟩
theorem dm_runs_88 : dl tm_runs 88 .istore_n .istore 4 90 := Or.inr ⟨o_54 4 (oW (K := 64) (r := 24) wi_m_runs_64 (by decide +kernel)), rfl⟩
theorem dm_runs_90 : db tm_runs 90 .goto 170 93 := ⟨80, o_167 0 80 80 (oWd (K := 64) (r := 26) wi_m_runs_64 (by decide +kernel)), rfl, rfl⟩
theorem dm_runs_93 : dl tm_runs 93 .aload_n .aload 0 94 := Or.inl ⟨0, o_42 (oW (K := 64) (r := 29) wi_m_runs_64 (by decide +kernel)), rfl, rfl⟩
theorem dm_runs_94 : dn tm_runs 94 (.getfield 49) 3 97 := ⟨o_180 0 49 49 (oWd (K := 64) (r := 30) wi_m_runs_64 (by decide +kernel)), rfl⟩
def wl_m_runs_96 : List Nat := [49, 21, 5, 46, 16, 9, 160, 0, 26, 42, 180, 0, 74, 21, 4, 4, 100, 4, 42, 180, 0, 74, 21, 4, 4, 100, 46, 100, 79, 167, 0, 45, 21, 4, 4, 100, 54, 4]
theorem wi_m_runs_96 : oC tm_runs.2.1 96 wl_m_runs_96 = true := by decide +kernel
theorem dm_runs_97 : dl tm_runs 97 .iload_n .iload 5 99 := Or.inr ⟨o_21 5 (oW (K := 96) (r := 1) wi_m_runs_96 (by decide +kernel)), rfl⟩
theorem dm_runs_99 : dn tm_runs 99 (.iaload) 1 100 := ⟨o_46 (oW (K := 96) (r := 3) wi_m_runs_96 (by decide +kernel)), rfl⟩
theorem dm_runs_100 : dn tm_runs 100 (.bipush 9) 2 102 := ⟨o_16 9 9 (oWd (K := 96) (r := 4) wi_m_runs_96 (by decide +kernel)), rfl⟩
theorem dm_runs_102 : db tm_runs 102 (.if_icmp .ne) 128 105 := ⟨26, o_160 0 26 26 (oWd (K := 96) (r := 6) wi_m_runs_96 (by decide +kernel)), rfl, rfl⟩
theorem dm_runs_105 : dl tm_runs 105 .aload_n .aload 0 106 := Or.inl ⟨0, o_42 (oW (K := 96) (r := 9) wi_m_runs_96 (by decide +kernel)), rfl, rfl⟩
theorem dm_runs_106 : dn tm_runs 106 (.getfield 74) 3 109 := ⟨o_180 0 74 74 (oWd (K := 96) (r := 10) wi_m_runs_96 (by decide +kernel)), rfl⟩
theorem dm_runs_109 : dl tm_runs 109 .iload_n .iload 4 111 := Or.inr ⟨o_21 4 (oW (K := 96) (r := 13) wi_m_runs_96 (by decide +kernel)), rfl⟩
theorem dm_runs_111 : dn tm_runs 111 (.iconst 1) 1 112 := ⟨o_4 (oW (K := 96) (r := 15) wi_m_runs_96 (by decide +kernel)), rfl⟩
theorem dm_runs_112 : dn tm_runs 112 (.isub) 1 113 := ⟨o_100 (oW (K := 96) (r := 16) wi_m_runs_96 (by decide +kernel)), rfl⟩
theorem dm_runs_113 : dn tm_runs 113 (.iconst 1) 1 114 := ⟨o_4 (oW (K := 96) (r := 17) wi_m_runs_96 (by decide +kernel)), rfl⟩
theorem dm_runs_114 : dl tm_runs 114 .aload_n .aload 0 115 := Or.inl ⟨0, o_42 (oW (K := 96) (r := 18) wi_m_runs_96 (by decide +kernel)), rfl, rfl⟩
theorem dm_runs_115 : dn tm_runs 115 (.getfield 74) 3 118 := ⟨o_180 0 74 74 (oWd (K := 96) (r := 19) wi_m_runs_96 (by decide +kernel)), rfl⟩
theorem dm_runs_118 : dl tm_runs 118 .iload_n .iload 4 120 := Or.inr ⟨o_21 4 (oW (K := 96) (r := 22) wi_m_runs_96 (by decide +kernel)), rfl⟩
theorem dm_runs_120 : dn tm_runs 120 (.iconst 1) 1 121 := ⟨o_4 (oW (K := 96) (r := 24) wi_m_runs_96 (by decide +kernel)), rfl⟩
theorem dm_runs_121 : dn tm_runs 121 (.isub) 1 122 := ⟨o_100 (oW (K := 96) (r := 25) wi_m_runs_96 (by decide +kernel)), rfl⟩
theorem dm_runs_122 : dn tm_runs 122 (.iaload) 1 123 := ⟨o_46 (oW (K := 96) (r := 26) wi_m_runs_96 (by decide +kernel)), rfl⟩
theorem dm_runs_123 : dn tm_runs 123 (.isub) 1 124 := ⟨o_100 (oW (K := 96) (r := 27) wi_m_runs_96 (by decide +kernel)), rfl⟩
theorem dm_runs_124 : dn tm_runs 124 (.iastore) 1 125 := ⟨o_79 (oW (K := 96) (r := 28) wi_m_runs_96 (by decide +kernel)), rfl⟩
theorem dm_runs_125 : db tm_runs 125 .goto 170 128 := ⟨45, o_167 0 45 45 (oWd (K := 96) (r := 29) wi_m_runs_96 (by decide +kernel)), rfl, rfl⟩
def wl_m_runs_128 : List Nat := [21, 4, 4, 100, 54, 4, 42, 180, 0, 74, 21, 4, 4, 100, 42, 42, 180, 0, 49, 21, 5, 46, 42, 180, 0, 74, 21, 4, 4, 100, 46, 42, 180, 0, 74, 21, 4, 46]
theorem wi_m_runs_128 : oC tm_runs.2.1 128 wl_m_runs_128 = true := by decide +kernel
theorem dm_runs_128 : dl tm_runs 128 .iload_n .iload 4 130 := Or.inr ⟨o_21 4 (oW (K := 128) (r := 0) wi_m_runs_128 (by decide +kernel)), rfl⟩
theorem dm_runs_130 : dn tm_runs 130 (.iconst 1) 1 131 := ⟨o_4 (oW (K := 128) (r := 2) wi_m_runs_128 (by decide +kernel)), rfl⟩
theorem dm_runs_131 : dn tm_runs 131 (.isub) 1 132 := ⟨o_100 (oW (K := 128) (r := 3) wi_m_runs_128 (by decide +kernel)), rfl⟩
theorem dm_runs_132 : dl tm_runs 132 .istore_n .istore 4 134 := Or.inr ⟨o_54 4 (oW (K := 128) (r := 4) wi_m_runs_128 (by decide +kernel)), rfl⟩
theorem dm_runs_134 : dl tm_runs 134 .aload_n .aload 0 135 := Or.inl ⟨0, o_42 (oW (K := 128) (r := 6) wi_m_runs_128 (by decide +kernel)), rfl, rfl⟩
