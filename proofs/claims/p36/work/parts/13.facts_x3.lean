def wl_D_reads_32 : List Nat := [42, 2, 181, 0, 51, 42, 182, 0, 54, 3, 62, 29, 16, 16, 163, 0, 108, 42, 180, 0, 57, 154, 0, 5, 4, 172, 42, 180, 0, 57, 4, 160, 0, 19, 42, 180, 0, 60]
theorem wi_D_reads_32 : oC tD_reads.2.1 32 wl_D_reads_32 = true := by decide +kernel
theorem dD_reads_63 : db tD_reads 63 (.if_icmp .ne) 82 66 := ⟨19, o_160 0 19 19 (oWd (K := 32) (r := 31) wi_D_reads_32 rfl), rfl, rfl⟩
def wl_D_reads_64 : List Nat := [0, 19, 42, 180, 0, 60, 27, 154, 0, 7, 5, 167, 0, 4, 3, 164, 0, 9, 42, 4, 182, 0, 63, 172, 29, 16, 16, 160, 0, 9, 42, 6, 182, 0, 63, 172, 27, 154]
theorem wi_D_reads_64 : oC tD_reads.2.1 64 wl_D_reads_64 = true := by decide +kernel
theorem dD_reads_66 : dl tD_reads 66 .aload_n .aload 0 67 := Or.inl ⟨0, o_42 (oW (K := 64) (r := 2) wi_D_reads_64 rfl), rfl, rfl⟩
theorem dD_reads_67 : dn tD_reads 67 (.getfield 60) 3 70 := ⟨o_180 0 60 60 (oWd (K := 64) (r := 3) wi_D_reads_64 rfl), rfl⟩
theorem dD_reads_70 : dl tD_reads 70 .iload_n .iload 1 71 := Or.inl ⟨1, o_27 (oW (K := 64) (r := 6) wi_D_reads_64 rfl), rfl, rfl⟩
theorem dD_reads_71 : db tD_reads 71 (.ifCond .ne) 78 74 := ⟨7, o_154 0 7 7 (oWd (K := 64) (r := 7) wi_D_reads_64 rfl), rfl, rfl⟩
theorem dD_reads_74 : dn tD_reads 74 (.iconst 2) 1 75 := ⟨o_5 (oW (K := 64) (r := 10) wi_D_reads_64 rfl), rfl⟩
theorem dD_reads_75 : db tD_reads 75 .goto 79 78 := ⟨4, o_167 0 4 4 (oWd (K := 64) (r := 11) wi_D_reads_64 rfl), rfl, rfl⟩
theorem dD_reads_78 : dn tD_reads 78 (.iconst 0) 1 79 := ⟨o_3 (oW (K := 64) (r := 14) wi_D_reads_64 rfl), rfl⟩
theorem dD_reads_79 : db tD_reads 79 (.if_icmp .le) 88 82 := ⟨9, o_164 0 9 9 (oWd (K := 64) (r := 15) wi_D_reads_64 rfl), rfl, rfl⟩
theorem dD_reads_82 : dl tD_reads 82 .aload_n .aload 0 83 := Or.inl ⟨0, o_42 (oW (K := 64) (r := 18) wi_D_reads_64 rfl), rfl, rfl⟩
theorem dD_reads_83 : dn tD_reads 83 (.iconst 1) 1 84 := ⟨o_4 (oW (K := 64) (r := 19) wi_D_reads_64 rfl), rfl⟩
theorem dD_reads_84 : dn tD_reads 84 (.invokevirtual 63) 3 87 := ⟨o_182 0 63 63 (oWd (K := 64) (r := 20) wi_D_reads_64 rfl), rfl⟩
theorem dD_reads_87 : dn tD_reads 87 (.ireturn) 1 88 := ⟨o_172 (oW (K := 64) (r := 23) wi_D_reads_64 rfl), rfl⟩
theorem dD_reads_88 : dl tD_reads 88 .iload_n .iload 3 89 := Or.inl ⟨3, o_29 (oW (K := 64) (r := 24) wi_D_reads_64 rfl), rfl, rfl⟩
theorem dD_reads_89 : dn tD_reads 89 (.bipush 16) 2 91 := ⟨o_16 16 16 (oWd (K := 64) (r := 25) wi_D_reads_64 rfl), rfl⟩
theorem dD_reads_91 : db tD_reads 91 (.if_icmp .ne) 100 94 := ⟨9, o_160 0 9 9 (oWd (K := 64) (r := 27) wi_D_reads_64 rfl), rfl, rfl⟩
theorem dD_reads_94 : dl tD_reads 94 .aload_n .aload 0 95 := Or.inl ⟨0, o_42 (oW (K := 64) (r := 30) wi_D_reads_64 rfl), rfl, rfl⟩
theorem dD_reads_95 : dn tD_reads 95 (.iconst 3) 1 96 := ⟨o_6 (oW (K := 64) (r := 31) wi_D_reads_64 rfl), rfl⟩
def wl_D_reads_96 : List Nat := [182, 0, 63, 172, 27, 154, 0, 10, 42, 182, 0, 67, 167, 0, 31, 27, 4, 160, 0, 10, 42, 182, 0, 71, 167, 0, 19, 27, 5, 160, 0, 10, 42, 182, 0, 74, 167, 0]
theorem wi_D_reads_96 : oC tD_reads.2.1 96 wl_D_reads_96 = true := by decide +kernel
theorem dD_reads_96 : dn tD_reads 96 (.invokevirtual 63) 3 99 := ⟨o_182 0 63 63 (oWd (K := 96) (r := 0) wi_D_reads_96 rfl), rfl⟩
theorem dD_reads_99 : dn tD_reads 99 (.ireturn) 1 100 := ⟨o_172 (oW (K := 96) (r := 3) wi_D_reads_96 rfl), rfl⟩
theorem dD_reads_100 : dl tD_reads 100 .iload_n .iload 1 101 := Or.inl ⟨1, o_27 (oW (K := 96) (r := 4) wi_D_reads_96 rfl), rfl, rfl⟩
theorem dD_reads_101 : db tD_reads 101 (.ifCond .ne) 111 104 := ⟨10, o_154 0 10 10 (oWd (K := 96) (r := 5) wi_D_reads_96 rfl), rfl, rfl⟩
theorem dD_reads_104 : dl tD_reads 104 .aload_n .aload 0 105 := Or.inl ⟨0, o_42 (oW (K := 96) (r := 8) wi_D_reads_96 rfl), rfl, rfl⟩
theorem dD_reads_105 : dn tD_reads 105 (.invokevirtual 67) 3 108 := ⟨o_182 0 67 67 (oWd (K := 96) (r := 9) wi_D_reads_96 rfl), rfl⟩
theorem dD_reads_108 : db tD_reads 108 .goto 139 111 := ⟨31, o_167 0 31 31 (oWd (K := 96) (r := 12) wi_D_reads_96 rfl), rfl, rfl⟩
theorem dD_reads_111 : dl tD_reads 111 .iload_n .iload 1 112 := Or.inl ⟨1, o_27 (oW (K := 96) (r := 15) wi_D_reads_96 rfl), rfl, rfl⟩
theorem dD_reads_112 : dn tD_reads 112 (.iconst 1) 1 113 := ⟨o_4 (oW (K := 96) (r := 16) wi_D_reads_96 rfl), rfl⟩
theorem dD_reads_113 : db tD_reads 113 (.if_icmp .ne) 123 116 := ⟨10, o_160 0 10 10 (oWd (K := 96) (r := 17) wi_D_reads_96 rfl), rfl, rfl⟩
theorem dD_reads_116 : dl tD_reads 116 .aload_n .aload 0 117 := Or.inl ⟨0, o_42 (oW (K := 96) (r := 20) wi_D_reads_96 rfl), rfl, rfl⟩
theorem dD_reads_117 : dn tD_reads 117 (.invokevirtual 71) 3 120 := ⟨o_182 0 71 71 (oWd (K := 96) (r := 21) wi_D_reads_96 rfl), rfl⟩
theorem dD_reads_120 : db tD_reads 120 .goto 139 123 := ⟨19, o_167 0 19 19 (oWd (K := 96) (r := 24) wi_D_reads_96 rfl), rfl, rfl⟩
theorem dD_reads_123 : dl tD_reads 123 .iload_n .iload 1 124 := Or.inl ⟨1, o_27 (oW (K := 96) (r := 27) wi_D_reads_96 rfl), rfl, rfl⟩
theorem dD_reads_124 : dn tD_reads 124 (.iconst 2) 1 125 := ⟨o_5 (oW (K := 96) (r := 28) wi_D_reads_96 rfl), rfl⟩
theorem dD_reads_125 : db tD_reads 125 (.if_icmp .ne) 135 128 := ⟨10, o_160 0 10 10 (oWd (K := 96) (r := 29) wi_D_reads_96 rfl), rfl, rfl⟩
def wl_D_reads_128 : List Nat := [42, 182, 0, 74, 167, 0, 7, 42, 182, 0, 77, 54, 4, 21, 4, 154, 0, 5, 3, 172, 132, 3, 1, 167, 255, 148, 3, 172]
theorem wi_D_reads_128 : oC tD_reads.2.1 128 wl_D_reads_128 = true := by decide +kernel
theorem dD_reads_128 : dl tD_reads 128 .aload_n .aload 0 129 := Or.inl ⟨0, o_42 (oW (K := 128) (r := 0) wi_D_reads_128 rfl), rfl, rfl⟩
theorem dD_reads_129 : dn tD_reads 129 (.invokevirtual 74) 3 132 := ⟨o_182 0 74 74 (oWd (K := 128) (r := 1) wi_D_reads_128 rfl), rfl⟩
theorem dD_reads_132 : db tD_reads 132 .goto 139 135 := ⟨7, o_167 0 7 7 (oWd (K := 128) (r := 4) wi_D_reads_128 rfl), rfl, rfl⟩
theorem dD_reads_135 : dl tD_reads 135 .aload_n .aload 0 136 := Or.inl ⟨0, o_42 (oW (K := 128) (r := 7) wi_D_reads_128 rfl), rfl, rfl⟩
theorem dD_reads_136 : dn tD_reads 136 (.invokevirtual 77) 3 139 := ⟨o_182 0 77 77 (oWd (K := 128) (r := 8) wi_D_reads_128 rfl), rfl⟩
theorem dD_reads_139 : dl tD_reads 139 .istore_n .istore 4 141 := Or.inr ⟨o_54 4 (oW (K := 128) (r := 11) wi_D_reads_128 rfl), rfl⟩
theorem dD_reads_141 : dl tD_reads 141 .iload_n .iload 4 143 := Or.inr ⟨o_21 4 (oW (K := 128) (r := 13) wi_D_reads_128 rfl), rfl⟩
theorem dD_reads_143 : db tD_reads 143 (.ifCond .ne) 148 146 := ⟨5, o_154 0 5 5 (oWd (K := 128) (r := 15) wi_D_reads_128 rfl), rfl, rfl⟩
theorem dD_reads_146 : dn tD_reads 146 (.iconst 0) 1 147 := ⟨o_3 (oW (K := 128) (r := 18) wi_D_reads_128 rfl), rfl⟩
theorem dD_reads_147 : dn tD_reads 147 (.ireturn) 1 148 := ⟨o_172 (oW (K := 128) (r := 19) wi_D_reads_128 rfl), rfl⟩
theorem dD_reads_148 : dn tD_reads 148 (.iinc 3 1) 3 151 := ⟨o_132 3 1 1 (oWd (K := 128) (r := 20) wi_D_reads_128 rfl), rfl⟩
theorem dD_reads_151 : db tD_reads 151 .goto 43 154 := ⟨-108, o_167 255 148 (-108) (oWd (K := 128) (r := 23) wi_D_reads_128 rfl), rfl, rfl⟩
theorem dD_reads_154 : dn tD_reads 154 (.iconst 0) 1 155 := ⟨o_3 (oW (K := 128) (r := 26) wi_D_reads_128 rfl), rfl⟩
theorem dD_reads_155 : dn tD_reads 155 (.ireturn) 1 156 := ⟨o_172 (oW (K := 128) (r := 27) wi_D_reads_128 rfl), rfl⟩
def wl_D_wordsOf_0 : List Nat := [26, 170, 0, 0, 0, 0, 0, 36, 0, 0, 0, 0, 0, 0, 0, 2, 0, 0, 0, 27, 0, 0, 0, 30, 0, 0, 0, 33, 18, 80, 176, 18, 82, 176, 18, 84, 176, 18]
theorem wi_D_wordsOf_0 : oC tD_wordsOf.2.1 0 wl_D_wordsOf_0 = true := by decide +kernel
theorem dD_wordsOf_0 : dl tD_wordsOf 0 .iload_n .iload 0 1 := Or.inl ⟨0, o_26 (oW (K := 0) (r := 0) wi_D_wordsOf_0 rfl), rfl, rfl⟩
theorem dD_wordsOf_1 : dsw tD_wordsOf 1 [(0, 28), (1, 31), (2, 34)] 37 := dsw_t 36 0 2 #[27, 30, 33] 27 (by decide +kernel) (by decide) (by decide) (by decide +kernel)
theorem dD_wordsOf_28 : dn tD_wordsOf 28 (.ldc 80) 2 30 := ⟨o_18 80 (oW (K := 0) (r := 28) wi_D_wordsOf_0 rfl), rfl⟩
theorem dD_wordsOf_30 : dn tD_wordsOf 30 (.areturn) 1 31 := ⟨o_176 (oW (K := 0) (r := 30) wi_D_wordsOf_0 rfl), rfl⟩
theorem dD_wordsOf_31 : dn tD_wordsOf 31 (.ldc 82) 2 33 := ⟨o_18 82 (oW (K := 0) (r := 31) wi_D_wordsOf_0 rfl), rfl⟩
def wl_D_wordsOf_32 : List Nat := [82, 176, 18, 84, 176, 18, 86, 176]
theorem wi_D_wordsOf_32 : oC tD_wordsOf.2.1 32 wl_D_wordsOf_32 = true := by decide +kernel
theorem dD_wordsOf_33 : dn tD_wordsOf 33 (.areturn) 1 34 := ⟨o_176 (oW (K := 32) (r := 1) wi_D_wordsOf_32 rfl), rfl⟩
theorem dD_wordsOf_34 : dn tD_wordsOf 34 (.ldc 84) 2 36 := ⟨o_18 84 (oW (K := 32) (r := 2) wi_D_wordsOf_32 rfl), rfl⟩
theorem dD_wordsOf_36 : dn tD_wordsOf 36 (.areturn) 1 37 := ⟨o_176 (oW (K := 32) (r := 4) wi_D_wordsOf_32 rfl), rfl⟩
theorem dD_wordsOf_37 : dn tD_wordsOf 37 (.ldc 86) 2 39 := ⟨o_18 86 (oW (K := 32) (r := 5) wi_D_wordsOf_32 rfl), rfl⟩
theorem dD_wordsOf_39 : dn tD_wordsOf 39 (.areturn) 1 40 := ⟨o_176 (oW (K := 32) (r := 7) wi_D_wordsOf_32 rfl), rfl⟩
def wl_D_lawLine_0 : List Nat := [42, 180, 0, 60, 60, 42, 182, 0, 54, 42, 180, 0, 22, 180, 0, 49, 61, 42, 182, 0, 88, 154, 0, 5, 3, 172, 42, 180, 0, 22, 180, 0, 49, 62, 42, 6, 182, 0]
theorem wi_D_lawLine_0 : oC tD_lawLine.2.1 0 wl_D_lawLine_0 = true := by decide +kernel
theorem dD_lawLine_0 : dl tD_lawLine 0 .aload_n .aload 0 1 := Or.inl ⟨0, o_42 (oW (K := 0) (r := 0) wi_D_lawLine_0 rfl), rfl, rfl⟩
theorem dD_lawLine_1 : dn tD_lawLine 1 (.getfield 60) 3 4 := ⟨o_180 0 60 60 (oWd (K := 0) (r := 1) wi_D_lawLine_0 rfl), rfl⟩
theorem dD_lawLine_4 : dl tD_lawLine 4 .istore_n .istore 1 5 := Or.inl ⟨1, o_60 (oW (K := 0) (r := 4) wi_D_lawLine_0 rfl), rfl, rfl⟩
theorem dD_lawLine_5 : dl tD_lawLine 5 .aload_n .aload 0 6 := Or.inl ⟨0, o_42 (oW (K := 0) (r := 5) wi_D_lawLine_0 rfl), rfl, rfl⟩
theorem dD_lawLine_6 : dn tD_lawLine 6 (.invokevirtual 54) 3 9 := ⟨o_182 0 54 54 (oWd (K := 0) (r := 6) wi_D_lawLine_0 rfl), rfl⟩
theorem dD_lawLine_9 : dl tD_lawLine 9 .aload_n .aload 0 10 := Or.inl ⟨0, o_42 (oW (K := 0) (r := 9) wi_D_lawLine_0 rfl), rfl, rfl⟩
theorem dD_lawLine_10 : dn tD_lawLine 10 (.getfield 22) 3 13 := ⟨o_180 0 22 22 (oWd (K := 0) (r := 10) wi_D_lawLine_0 rfl), rfl⟩
theorem dD_lawLine_13 : dn tD_lawLine 13 (.getfield 49) 3 16 := ⟨o_180 0 49 49 (oWd (K := 0) (r := 13) wi_D_lawLine_0 rfl), rfl⟩
theorem dD_lawLine_16 : dl tD_lawLine 16 .istore_n .istore 2 17 := Or.inl ⟨2, o_61 (oW (K := 0) (r := 16) wi_D_lawLine_0 rfl), rfl, rfl⟩
theorem dD_lawLine_17 : dl tD_lawLine 17 .aload_n .aload 0 18 := Or.inl ⟨0, o_42 (oW (K := 0) (r := 17) wi_D_lawLine_0 rfl), rfl, rfl⟩
theorem dD_lawLine_18 : dn tD_lawLine 18 (.invokevirtual 88) 3 21 := ⟨o_182 0 88 88 (oWd (K := 0) (r := 18) wi_D_lawLine_0 rfl), rfl⟩
theorem dD_lawLine_21 : db tD_lawLine 21 (.ifCond .ne) 26 24 := ⟨5, o_154 0 5 5 (oWd (K := 0) (r := 21) wi_D_lawLine_0 rfl), rfl, rfl⟩
theorem dD_lawLine_24 : dn tD_lawLine 24 (.iconst 0) 1 25 := ⟨o_3 (oW (K := 0) (r := 24) wi_D_lawLine_0 rfl), rfl⟩
theorem dD_lawLine_25 : dn tD_lawLine 25 (.ireturn) 1 26 := ⟨o_172 (oW (K := 0) (r := 25) wi_D_lawLine_0 rfl), rfl⟩
theorem dD_lawLine_26 : dl tD_lawLine 26 .aload_n .aload 0 27 := Or.inl ⟨0, o_42 (oW (K := 0) (r := 26) wi_D_lawLine_0 rfl), rfl, rfl⟩
theorem dD_lawLine_27 : dn tD_lawLine 27 (.getfield 22) 3 30 := ⟨o_180 0 22 22 (oWd (K := 0) (r := 27) wi_D_lawLine_0 rfl), rfl⟩
theorem dD_lawLine_30 : dn tD_lawLine 30 (.getfield 49) 3 33 := ⟨o_180 0 49 49 (oWd (K := 0) (r := 30) wi_D_lawLine_0 rfl), rfl⟩
def wl_D_lawLine_32 : List Nat := [49, 62, 42, 6, 182, 0, 91, 153, 0, 17, 42, 182, 0, 54, 42, 3, 182, 0, 94, 154, 0, 5, 3, 172, 42, 16, 59, 182, 0, 97, 153, 0, 28, 42, 180, 0, 14, 27]
theorem wi_D_lawLine_32 : oC tD_lawLine.2.1 32 wl_D_lawLine_32 = true := by decide +kernel
theorem dD_lawLine_33 : dl tD_lawLine 33 .istore_n .istore 3 34 := Or.inl ⟨3, o_62 (oW (K := 32) (r := 1) wi_D_lawLine_32 rfl), rfl, rfl⟩
theorem dD_lawLine_34 : dl tD_lawLine 34 .aload_n .aload 0 35 := Or.inl ⟨0, o_42 (oW (K := 32) (r := 2) wi_D_lawLine_32 rfl), rfl, rfl⟩
theorem dD_lawLine_35 : dn tD_lawLine 35 (.iconst 3) 1 36 := ⟨o_6 (oW (K := 32) (r := 3) wi_D_lawLine_32 rfl), rfl⟩
theorem dD_lawLine_36 : dn tD_lawLine 36 (.invokevirtual 91) 3 39 := ⟨o_182 0 91 91 (oWd (K := 32) (r := 4) wi_D_lawLine_32 rfl), rfl⟩
theorem dD_lawLine_39 : db tD_lawLine 39 (.ifCond .eq) 56 42 := ⟨17, o_153 0 17 17 (oWd (K := 32) (r := 7) wi_D_lawLine_32 rfl), rfl, rfl⟩
theorem dD_lawLine_42 : dl tD_lawLine 42 .aload_n .aload 0 43 := Or.inl ⟨0, o_42 (oW (K := 32) (r := 10) wi_D_lawLine_32 rfl), rfl, rfl⟩
theorem dD_lawLine_43 : dn tD_lawLine 43 (.invokevirtual 54) 3 46 := ⟨o_182 0 54 54 (oWd (K := 32) (r := 11) wi_D_lawLine_32 rfl), rfl⟩
theorem dD_lawLine_46 : dl tD_lawLine 46 .aload_n .aload 0 47 := Or.inl ⟨0, o_42 (oW (K := 32) (r := 14) wi_D_lawLine_32 rfl), rfl, rfl⟩
theorem dD_lawLine_47 : dn tD_lawLine 47 (.iconst 0) 1 48 := ⟨o_3 (oW (K := 32) (r := 15) wi_D_lawLine_32 rfl), rfl⟩
theorem dD_lawLine_48 : dn tD_lawLine 48 (.invokevirtual 94) 3 51 := ⟨o_182 0 94 94 (oWd (K := 32) (r := 16) wi_D_lawLine_32 rfl), rfl⟩
theorem dD_lawLine_51 : db tD_lawLine 51 (.ifCond .ne) 56 54 := ⟨5, o_154 0 5 5 (oWd (K := 32) (r := 19) wi_D_lawLine_32 rfl), rfl, rfl⟩
theorem dD_lawLine_54 : dn tD_lawLine 54 (.iconst 0) 1 55 := ⟨o_3 (oW (K := 32) (r := 22) wi_D_lawLine_32 rfl), rfl⟩
theorem dD_lawLine_55 : dn tD_lawLine 55 (.ireturn) 1 56 := ⟨o_172 (oW (K := 32) (r := 23) wi_D_lawLine_32 rfl), rfl⟩
theorem dD_lawLine_56 : dl tD_lawLine 56 .aload_n .aload 0 57 := Or.inl ⟨0, o_42 (oW (K := 32) (r := 24) wi_D_lawLine_32 rfl), rfl, rfl⟩
theorem dD_lawLine_57 : dn tD_lawLine 57 (.bipush 59) 2 59 := ⟨o_16 59 59 (oWd (K := 32) (r := 25) wi_D_lawLine_32 rfl), rfl⟩
theorem dD_lawLine_59 : dn tD_lawLine 59 (.invokevirtual 97) 3 62 := ⟨o_182 0 97 97 (oWd (K := 32) (r := 27) wi_D_lawLine_32 rfl), rfl⟩
theorem dD_lawLine_62 : db tD_lawLine 62 (.ifCond .eq) 90 65 := ⟨28, o_153 0 28 28 (oWd (K := 32) (r := 30) wi_D_lawLine_32 rfl), rfl, rfl⟩
def wl_D_lawLine_64 : List Nat := [28, 42, 180, 0, 14, 27, 28, 29, 42, 180, 0, 22, 180, 0, 49, 3, 182, 0, 101, 153, 0, 7, 4, 167, 0, 4, 3, 172]
theorem wi_D_lawLine_64 : oC tD_lawLine.2.1 64 wl_D_lawLine_64 = true := by decide +kernel
theorem dD_lawLine_65 : dl tD_lawLine 65 .aload_n .aload 0 66 := Or.inl ⟨0, o_42 (oW (K := 64) (r := 1) wi_D_lawLine_64 rfl), rfl, rfl⟩
theorem dD_lawLine_66 : dn tD_lawLine 66 (.getfield 14) 3 69 := ⟨o_180 0 14 14 (oWd (K := 64) (r := 2) wi_D_lawLine_64 rfl), rfl⟩
theorem dD_lawLine_69 : dl tD_lawLine 69 .iload_n .iload 1 70 := Or.inl ⟨1, o_27 (oW (K := 64) (r := 5) wi_D_lawLine_64 rfl), rfl, rfl⟩
theorem dD_lawLine_70 : dl tD_lawLine 70 .iload_n .iload 2 71 := Or.inl ⟨2, o_28 (oW (K := 64) (r := 6) wi_D_lawLine_64 rfl), rfl, rfl⟩
theorem dD_lawLine_71 : dl tD_lawLine 71 .iload_n .iload 3 72 := Or.inl ⟨3, o_29 (oW (K := 64) (r := 7) wi_D_lawLine_64 rfl), rfl, rfl⟩
theorem dD_lawLine_72 : dl tD_lawLine 72 .aload_n .aload 0 73 := Or.inl ⟨0, o_42 (oW (K := 64) (r := 8) wi_D_lawLine_64 rfl), rfl, rfl⟩
theorem dD_lawLine_73 : dn tD_lawLine 73 (.getfield 22) 3 76 := ⟨o_180 0 22 22 (oWd (K := 64) (r := 9) wi_D_lawLine_64 rfl), rfl⟩
theorem dD_lawLine_76 : dn tD_lawLine 76 (.getfield 49) 3 79 := ⟨o_180 0 49 49 (oWd (K := 64) (r := 12) wi_D_lawLine_64 rfl), rfl⟩
theorem dD_lawLine_79 : dn tD_lawLine 79 (.iconst 0) 1 80 := ⟨o_3 (oW (K := 64) (r := 15) wi_D_lawLine_64 rfl), rfl⟩
theorem dD_lawLine_80 : dn tD_lawLine 80 (.invokevirtual 101) 3 83 := ⟨o_182 0 101 101 (oWd (K := 64) (r := 16) wi_D_lawLine_64 rfl), rfl⟩
theorem dD_lawLine_83 : db tD_lawLine 83 (.ifCond .eq) 90 86 := ⟨7, o_153 0 7 7 (oWd (K := 64) (r := 19) wi_D_lawLine_64 rfl), rfl, rfl⟩
theorem dD_lawLine_86 : dn tD_lawLine 86 (.iconst 1) 1 87 := ⟨o_4 (oW (K := 64) (r := 22) wi_D_lawLine_64 rfl), rfl⟩
theorem dD_lawLine_87 : db tD_lawLine 87 .goto 91 90 := ⟨4, o_167 0 4 4 (oWd (K := 64) (r := 23) wi_D_lawLine_64 rfl), rfl, rfl⟩
theorem dD_lawLine_90 : dn tD_lawLine 90 (.iconst 0) 1 91 := ⟨o_3 (oW (K := 64) (r := 26) wi_D_lawLine_64 rfl), rfl⟩
theorem dD_lawLine_91 : dn tD_lawLine 91 (.ireturn) 1 92 := ⟨o_172 (oW (K := 64) (r := 27) wi_D_lawLine_64 rfl), rfl⟩
def wl_D_skyLine_0 : List Nat := [42, 182, 0, 54, 42, 3, 17, 3, 231, 182, 0, 105, 154, 0, 5, 3, 172, 42, 180, 0, 109, 60, 42, 180, 0, 57, 4, 160, 0, 15, 42, 180, 0, 60, 4, 6, 184, 0]
theorem wi_D_skyLine_0 : oC tD_skyLine.2.1 0 wl_D_skyLine_0 = true := by decide +kernel
theorem dD_skyLine_0 : dl tD_skyLine 0 .aload_n .aload 0 1 := Or.inl ⟨0, o_42 (oW (K := 0) (r := 0) wi_D_skyLine_0 rfl), rfl, rfl⟩
theorem dD_skyLine_1 : dn tD_skyLine 1 (.invokevirtual 54) 3 4 := ⟨o_182 0 54 54 (oWd (K := 0) (r := 1) wi_D_skyLine_0 rfl), rfl⟩
theorem dD_skyLine_4 : dl tD_skyLine 4 .aload_n .aload 0 5 := Or.inl ⟨0, o_42 (oW (K := 0) (r := 4) wi_D_skyLine_0 rfl), rfl, rfl⟩
theorem dD_skyLine_5 : dn tD_skyLine 5 (.iconst 0) 1 6 := ⟨o_3 (oW (K := 0) (r := 5) wi_D_skyLine_0 rfl), rfl⟩
theorem dD_skyLine_6 : dn tD_skyLine 6 (.sipush 999) 3 9 := ⟨o_17 3 231 999 (oWd (K := 0) (r := 6) wi_D_skyLine_0 rfl), rfl⟩
theorem dD_skyLine_9 : dn tD_skyLine 9 (.invokevirtual 105) 3 12 := ⟨o_182 0 105 105 (oWd (K := 0) (r := 9) wi_D_skyLine_0 rfl), rfl⟩
theorem dD_skyLine_12 : db tD_skyLine 12 (.ifCond .ne) 17 15 := ⟨5, o_154 0 5 5 (oWd (K := 0) (r := 12) wi_D_skyLine_0 rfl), rfl, rfl⟩
theorem dD_skyLine_15 : dn tD_skyLine 15 (.iconst 0) 1 16 := ⟨o_3 (oW (K := 0) (r := 15) wi_D_skyLine_0 rfl), rfl⟩
theorem dD_skyLine_16 : dn tD_skyLine 16 (.ireturn) 1 17 := ⟨o_172 (oW (K := 0) (r := 16) wi_D_skyLine_0 rfl), rfl⟩
theorem dD_skyLine_17 : dl tD_skyLine 17 .aload_n .aload 0 18 := Or.inl ⟨0, o_42 (oW (K := 0) (r := 17) wi_D_skyLine_0 rfl), rfl, rfl⟩
theorem dD_skyLine_18 : dn tD_skyLine 18 (.getfield 109) 3 21 := ⟨o_180 0 109 109 (oWd (K := 0) (r := 18) wi_D_skyLine_0 rfl), rfl⟩
theorem dD_skyLine_21 : dl tD_skyLine 21 .istore_n .istore 1 22 := Or.inl ⟨1, o_60 (oW (K := 0) (r := 21) wi_D_skyLine_0 rfl), rfl, rfl⟩
theorem dD_skyLine_22 : dl tD_skyLine 22 .aload_n .aload 0 23 := Or.inl ⟨0, o_42 (oW (K := 0) (r := 22) wi_D_skyLine_0 rfl), rfl, rfl⟩
theorem dD_skyLine_23 : dn tD_skyLine 23 (.getfield 57) 3 26 := ⟨o_180 0 57 57 (oWd (K := 0) (r := 23) wi_D_skyLine_0 rfl), rfl⟩
theorem dD_skyLine_26 : dn tD_skyLine 26 (.iconst 1) 1 27 := ⟨o_4 (oW (K := 0) (r := 26) wi_D_skyLine_0 rfl), rfl⟩
theorem dD_skyLine_27 : db tD_skyLine 27 (.if_icmp .ne) 42 30 := ⟨15, o_160 0 15 15 (oWd (K := 0) (r := 27) wi_D_skyLine_0 rfl), rfl, rfl⟩
theorem dD_skyLine_30 : dl tD_skyLine 30 .aload_n .aload 0 31 := Or.inl ⟨0, o_42 (oW (K := 0) (r := 30) wi_D_skyLine_0 rfl), rfl, rfl⟩
theorem dD_skyLine_31 : dn tD_skyLine 31 (.getfield 60) 3 34 := ⟨o_180 0 60 60 (oWd (K := 0) (r := 31) wi_D_skyLine_0 rfl), rfl⟩
def wl_D_skyLine_32 : List Nat := [0, 60, 4, 6, 184, 0, 112, 154, 0, 9, 42, 4, 182, 0, 63, 172, 42, 180, 0, 60, 61, 42, 182, 0, 54, 3, 62, 28, 4, 160, 0, 20, 42, 3, 16, 9, 182, 0]
theorem wi_D_skyLine_32 : oC tD_skyLine.2.1 32 wl_D_skyLine_32 = true := by decide +kernel
theorem dD_skyLine_34 : dn tD_skyLine 34 (.iconst 1) 1 35 := ⟨o_4 (oW (K := 32) (r := 2) wi_D_skyLine_32 rfl), rfl⟩
theorem dD_skyLine_35 : dn tD_skyLine 35 (.iconst 3) 1 36 := ⟨o_6 (oW (K := 32) (r := 3) wi_D_skyLine_32 rfl), rfl⟩
theorem dD_skyLine_36 : dn tD_skyLine 36 (.invokestatic 112) 3 39 := ⟨o_184 0 112 112 (oWd (K := 32) (r := 4) wi_D_skyLine_32 rfl), rfl⟩
theorem dD_skyLine_39 : db tD_skyLine 39 (.ifCond .ne) 48 42 := ⟨9, o_154 0 9 9 (oWd (K := 32) (r := 7) wi_D_skyLine_32 rfl), rfl, rfl⟩
theorem dD_skyLine_42 : dl tD_skyLine 42 .aload_n .aload 0 43 := Or.inl ⟨0, o_42 (oW (K := 32) (r := 10) wi_D_skyLine_32 rfl), rfl, rfl⟩
theorem dD_skyLine_43 : dn tD_skyLine 43 (.iconst 1) 1 44 := ⟨o_4 (oW (K := 32) (r := 11) wi_D_skyLine_32 rfl), rfl⟩
theorem dD_skyLine_44 : dn tD_skyLine 44 (.invokevirtual 63) 3 47 := ⟨o_182 0 63 63 (oWd (K := 32) (r := 12) wi_D_skyLine_32 rfl), rfl⟩
theorem dD_skyLine_47 : dn tD_skyLine 47 (.ireturn) 1 48 := ⟨o_172 (oW (K := 32) (r := 15) wi_D_skyLine_32 rfl), rfl⟩
theorem dD_skyLine_48 : dl tD_skyLine 48 .aload_n .aload 0 49 := Or.inl ⟨0, o_42 (oW (K := 32) (r := 16) wi_D_skyLine_32 rfl), rfl, rfl⟩
theorem dD_skyLine_49 : dn tD_skyLine 49 (.getfield 60) 3 52 := ⟨o_180 0 60 60 (oWd (K := 32) (r := 17) wi_D_skyLine_32 rfl), rfl⟩
theorem dD_skyLine_52 : dl tD_skyLine 52 .istore_n .istore 2 53 := Or.inl ⟨2, o_61 (oW (K := 32) (r := 20) wi_D_skyLine_32 rfl), rfl, rfl⟩
theorem dD_skyLine_53 : dl tD_skyLine 53 .aload_n .aload 0 54 := Or.inl ⟨0, o_42 (oW (K := 32) (r := 21) wi_D_skyLine_32 rfl), rfl, rfl⟩
theorem dD_skyLine_54 : dn tD_skyLine 54 (.invokevirtual 54) 3 57 := ⟨o_182 0 54 54 (oWd (K := 32) (r := 22) wi_D_skyLine_32 rfl), rfl⟩
theorem dD_skyLine_57 : dn tD_skyLine 57 (.iconst 0) 1 58 := ⟨o_3 (oW (K := 32) (r := 25) wi_D_skyLine_32 rfl), rfl⟩
theorem dD_skyLine_58 : dl tD_skyLine 58 .istore_n .istore 3 59 := Or.inl ⟨3, o_62 (oW (K := 32) (r := 26) wi_D_skyLine_32 rfl), rfl, rfl⟩
theorem dD_skyLine_59 : dl tD_skyLine 59 .iload_n .iload 2 60 := Or.inl ⟨2, o_28 (oW (K := 32) (r := 27) wi_D_skyLine_32 rfl), rfl, rfl⟩
theorem dD_skyLine_60 : dn tD_skyLine 60 (.iconst 1) 1 61 := ⟨o_4 (oW (K := 32) (r := 28) wi_D_skyLine_32 rfl), rfl⟩
theorem dD_skyLine_61 : db tD_skyLine 61 (.if_icmp .ne) 81 64 := ⟨20, o_160 0 20 20 (oWd (K := 32) (r := 29) wi_D_skyLine_32 rfl), rfl, rfl⟩
def wl_D_skyLine_64 : List Nat := [42, 3, 16, 9, 182, 0, 105, 154, 0, 5, 3, 172, 42, 180, 0, 109, 62, 42, 16, 59, 182, 0, 97, 153, 0, 22, 42, 180, 0, 14, 27, 28, 29, 3, 3, 182, 0, 101]
theorem wi_D_skyLine_64 : oC tD_skyLine.2.1 64 wl_D_skyLine_64 = true := by decide +kernel
theorem dD_skyLine_64 : dl tD_skyLine 64 .aload_n .aload 0 65 := Or.inl ⟨0, o_42 (oW (K := 64) (r := 0) wi_D_skyLine_64 rfl), rfl, rfl⟩
theorem dD_skyLine_65 : dn tD_skyLine 65 (.iconst 0) 1 66 := ⟨o_3 (oW (K := 64) (r := 1) wi_D_skyLine_64 rfl), rfl⟩
theorem dD_skyLine_66 : dn tD_skyLine 66 (.bipush 9) 2 68 := ⟨o_16 9 9 (oWd (K := 64) (r := 2) wi_D_skyLine_64 rfl), rfl⟩
theorem dD_skyLine_68 : dn tD_skyLine 68 (.invokevirtual 105) 3 71 := ⟨o_182 0 105 105 (oWd (K := 64) (r := 4) wi_D_skyLine_64 rfl), rfl⟩
theorem dD_skyLine_71 : db tD_skyLine 71 (.ifCond .ne) 76 74 := ⟨5, o_154 0 5 5 (oWd (K := 64) (r := 7) wi_D_skyLine_64 rfl), rfl, rfl⟩
theorem dD_skyLine_74 : dn tD_skyLine 74 (.iconst 0) 1 75 := ⟨o_3 (oW (K := 64) (r := 10) wi_D_skyLine_64 rfl), rfl⟩
theorem dD_skyLine_75 : dn tD_skyLine 75 (.ireturn) 1 76 := ⟨o_172 (oW (K := 64) (r := 11) wi_D_skyLine_64 rfl), rfl⟩
theorem dD_skyLine_76 : dl tD_skyLine 76 .aload_n .aload 0 77 := Or.inl ⟨0, o_42 (oW (K := 64) (r := 12) wi_D_skyLine_64 rfl), rfl, rfl⟩
theorem dD_skyLine_77 : dn tD_skyLine 77 (.getfield 109) 3 80 := ⟨o_180 0 109 109 (oWd (K := 64) (r := 13) wi_D_skyLine_64 rfl), rfl⟩
theorem dD_skyLine_80 : dl tD_skyLine 80 .istore_n .istore 3 81 := Or.inl ⟨3, o_62 (oW (K := 64) (r := 16) wi_D_skyLine_64 rfl), rfl, rfl⟩
theorem dD_skyLine_81 : dl tD_skyLine 81 .aload_n .aload 0 82 := Or.inl ⟨0, o_42 (oW (K := 64) (r := 17) wi_D_skyLine_64 rfl), rfl, rfl⟩
theorem dD_skyLine_82 : dn tD_skyLine 82 (.bipush 59) 2 84 := ⟨o_16 59 59 (oWd (K := 64) (r := 18) wi_D_skyLine_64 rfl), rfl⟩
theorem dD_skyLine_84 : dn tD_skyLine 84 (.invokevirtual 97) 3 87 := ⟨o_182 0 97 97 (oWd (K := 64) (r := 20) wi_D_skyLine_64 rfl), rfl⟩
theorem dD_skyLine_87 : db tD_skyLine 87 (.ifCond .eq) 109 90 := ⟨22, o_153 0 22 22 (oWd (K := 64) (r := 23) wi_D_skyLine_64 rfl), rfl, rfl⟩
theorem dD_skyLine_90 : dl tD_skyLine 90 .aload_n .aload 0 91 := Or.inl ⟨0, o_42 (oW (K := 64) (r := 26) wi_D_skyLine_64 rfl), rfl, rfl⟩
theorem dD_skyLine_91 : dn tD_skyLine 91 (.getfield 14) 3 94 := ⟨o_180 0 14 14 (oWd (K := 64) (r := 27) wi_D_skyLine_64 rfl), rfl⟩
theorem dD_skyLine_94 : dl tD_skyLine 94 .iload_n .iload 1 95 := Or.inl ⟨1, o_27 (oW (K := 64) (r := 30) wi_D_skyLine_64 rfl), rfl, rfl⟩
theorem dD_skyLine_95 : dl tD_skyLine 95 .iload_n .iload 2 96 := Or.inl ⟨2, o_28 (oW (K := 64) (r := 31) wi_D_skyLine_64 rfl), rfl, rfl⟩
def wl_D_skyLine_96 : List Nat := [29, 3, 3, 182, 0, 101, 153, 0, 7, 4, 167, 0, 4, 3, 172]
theorem wi_D_skyLine_96 : oC tD_skyLine.2.1 96 wl_D_skyLine_96 = true := by decide +kernel
theorem dD_skyLine_96 : dl tD_skyLine 96 .iload_n .iload 3 97 := Or.inl ⟨3, o_29 (oW (K := 96) (r := 0) wi_D_skyLine_96 rfl), rfl, rfl⟩
theorem dD_skyLine_97 : dn tD_skyLine 97 (.iconst 0) 1 98 := ⟨o_3 (oW (K := 96) (r := 1) wi_D_skyLine_96 rfl), rfl⟩
theorem dD_skyLine_98 : dn tD_skyLine 98 (.iconst 0) 1 99 := ⟨o_3 (oW (K := 96) (r := 2) wi_D_skyLine_96 rfl), rfl⟩
theorem dD_skyLine_99 : dn tD_skyLine 99 (.invokevirtual 101) 3 102 := ⟨o_182 0 101 101 (oWd (K := 96) (r := 3) wi_D_skyLine_96 rfl), rfl⟩
theorem dD_skyLine_102 : db tD_skyLine 102 (.ifCond .eq) 109 105 := ⟨7, o_153 0 7 7 (oWd (K := 96) (r := 6) wi_D_skyLine_96 rfl), rfl, rfl⟩
theorem dD_skyLine_105 : dn tD_skyLine 105 (.iconst 1) 1 106 := ⟨o_4 (oW (K := 96) (r := 9) wi_D_skyLine_96 rfl), rfl⟩
theorem dD_skyLine_106 : db tD_skyLine 106 .goto 110 109 := ⟨4, o_167 0 4 4 (oWd (K := 96) (r := 10) wi_D_skyLine_96 rfl), rfl, rfl⟩
theorem dD_skyLine_109 : dn tD_skyLine 109 (.iconst 0) 1 110 := ⟨o_3 (oW (K := 96) (r := 13) wi_D_skyLine_96 rfl), rfl⟩
theorem dD_skyLine_110 : dn tD_skyLine 110 (.ireturn) 1 111 := ⟨o_172 (oW (K := 96) (r := 14) wi_D_skyLine_96 rfl), rfl⟩
def wl_D_officeLine_0 : List Nat := [42, 182, 0, 54, 42, 3, 17, 3, 231, 182, 0, 105, 154, 0, 5, 3, 172, 42, 180, 0, 109, 60, 42, 180, 0, 57, 4, 160, 0, 15, 42, 180, 0, 60, 4, 7, 184, 0]
theorem wi_D_officeLine_0 : oC tD_officeLine.2.1 0 wl_D_officeLine_0 = true := by decide +kernel
theorem dD_officeLine_0 : dl tD_officeLine 0 .aload_n .aload 0 1 := Or.inl ⟨0, o_42 (oW (K := 0) (r := 0) wi_D_officeLine_0 rfl), rfl, rfl⟩
theorem dD_officeLine_1 : dn tD_officeLine 1 (.invokevirtual 54) 3 4 := ⟨o_182 0 54 54 (oWd (K := 0) (r := 1) wi_D_officeLine_0 rfl), rfl⟩
theorem dD_officeLine_4 : dl tD_officeLine 4 .aload_n .aload 0 5 := Or.inl ⟨0, o_42 (oW (K := 0) (r := 4) wi_D_officeLine_0 rfl), rfl, rfl⟩
theorem dD_officeLine_5 : dn tD_officeLine 5 (.iconst 0) 1 6 := ⟨o_3 (oW (K := 0) (r := 5) wi_D_officeLine_0 rfl), rfl⟩
theorem dD_officeLine_6 : dn tD_officeLine 6 (.sipush 999) 3 9 := ⟨o_17 3 231 999 (oWd (K := 0) (r := 6) wi_D_officeLine_0 rfl), rfl⟩
theorem dD_officeLine_9 : dn tD_officeLine 9 (.invokevirtual 105) 3 12 := ⟨o_182 0 105 105 (oWd (K := 0) (r := 9) wi_D_officeLine_0 rfl), rfl⟩
theorem dD_officeLine_12 : db tD_officeLine 12 (.ifCond .ne) 17 15 := ⟨5, o_154 0 5 5 (oWd (K := 0) (r := 12) wi_D_officeLine_0 rfl), rfl, rfl⟩
theorem dD_officeLine_15 : dn tD_officeLine 15 (.iconst 0) 1 16 := ⟨o_3 (oW (K := 0) (r := 15) wi_D_officeLine_0 rfl), rfl⟩
theorem dD_officeLine_16 : dn tD_officeLine 16 (.ireturn) 1 17 := ⟨o_172 (oW (K := 0) (r := 16) wi_D_officeLine_0 rfl), rfl⟩
theorem dD_officeLine_17 : dl tD_officeLine 17 .aload_n .aload 0 18 := Or.inl ⟨0, o_42 (oW (K := 0) (r := 17) wi_D_officeLine_0 rfl), rfl, rfl⟩
theorem dD_officeLine_18 : dn tD_officeLine 18 (.getfield 109) 3 21 := ⟨o_180 0 109 109 (oWd (K := 0) (r := 18) wi_D_officeLine_0 rfl), rfl⟩
theorem dD_officeLine_21 : dl tD_officeLine 21 .istore_n .istore 1 22 := Or.inl ⟨1, o_60 (oW (K := 0) (r := 21) wi_D_officeLine_0 rfl), rfl, rfl⟩
theorem dD_officeLine_22 : dl tD_officeLine 22 .aload_n .aload 0 23 := Or.inl ⟨0, o_42 (oW (K := 0) (r := 22) wi_D_officeLine_0 rfl), rfl, rfl⟩
theorem dD_officeLine_23 : dn tD_officeLine 23 (.getfield 57) 3 26 := ⟨o_180 0 57 57 (oWd (K := 0) (r := 23) wi_D_officeLine_0 rfl), rfl⟩
theorem dD_officeLine_26 : dn tD_officeLine 26 (.iconst 1) 1 27 := ⟨o_4 (oW (K := 0) (r := 26) wi_D_officeLine_0 rfl), rfl⟩
theorem dD_officeLine_27 : db tD_officeLine 27 (.if_icmp .ne) 42 30 := ⟨15, o_160 0 15 15 (oWd (K := 0) (r := 27) wi_D_officeLine_0 rfl), rfl, rfl⟩
theorem dD_officeLine_30 : dl tD_officeLine 30 .aload_n .aload 0 31 := Or.inl ⟨0, o_42 (oW (K := 0) (r := 30) wi_D_officeLine_0 rfl), rfl, rfl⟩
theorem dD_officeLine_31 : dn tD_officeLine 31 (.getfield 60) 3 34 := ⟨o_180 0 60 60 (oWd (K := 0) (r := 31) wi_D_officeLine_0 rfl), rfl⟩
def wl_D_officeLine_32 : List Nat := [0, 60, 4, 7, 184, 0, 112, 154, 0, 9, 42, 4, 182, 0, 63, 172, 42, 180, 0, 60, 61, 42, 182, 0, 54, 42, 3, 42, 180, 0, 46, 4, 100, 182, 0, 105, 154, 0]
theorem wi_D_officeLine_32 : oC tD_officeLine.2.1 32 wl_D_officeLine_32 = true := by decide +kernel
theorem dD_officeLine_34 : dn tD_officeLine 34 (.iconst 1) 1 35 := ⟨o_4 (oW (K := 32) (r := 2) wi_D_officeLine_32 rfl), rfl⟩
theorem dD_officeLine_35 : dn tD_officeLine 35 (.iconst 4) 1 36 := ⟨o_7 (oW (K := 32) (r := 3) wi_D_officeLine_32 rfl), rfl⟩
theorem dD_officeLine_36 : dn tD_officeLine 36 (.invokestatic 112) 3 39 := ⟨o_184 0 112 112 (oWd (K := 32) (r := 4) wi_D_officeLine_32 rfl), rfl⟩
theorem dD_officeLine_39 : db tD_officeLine 39 (.ifCond .ne) 48 42 := ⟨9, o_154 0 9 9 (oWd (K := 32) (r := 7) wi_D_officeLine_32 rfl), rfl, rfl⟩
theorem dD_officeLine_42 : dl tD_officeLine 42 .aload_n .aload 0 43 := Or.inl ⟨0, o_42 (oW (K := 32) (r := 10) wi_D_officeLine_32 rfl), rfl, rfl⟩
theorem dD_officeLine_43 : dn tD_officeLine 43 (.iconst 1) 1 44 := ⟨o_4 (oW (K := 32) (r := 11) wi_D_officeLine_32 rfl), rfl⟩
theorem dD_officeLine_44 : dn tD_officeLine 44 (.invokevirtual 63) 3 47 := ⟨o_182 0 63 63 (oWd (K := 32) (r := 12) wi_D_officeLine_32 rfl), rfl⟩
theorem dD_officeLine_47 : dn tD_officeLine 47 (.ireturn) 1 48 := ⟨o_172 (oW (K := 32) (r := 15) wi_D_officeLine_32 rfl), rfl⟩
theorem dD_officeLine_48 : dl tD_officeLine 48 .aload_n .aload 0 49 := Or.inl ⟨0, o_42 (oW (K := 32) (r := 16) wi_D_officeLine_32 rfl), rfl, rfl⟩
theorem dD_officeLine_49 : dn tD_officeLine 49 (.getfield 60) 3 52 := ⟨o_180 0 60 60 (oWd (K := 32) (r := 17) wi_D_officeLine_32 rfl), rfl⟩
theorem dD_officeLine_52 : dl tD_officeLine 52 .istore_n .istore 2 53 := Or.inl ⟨2, o_61 (oW (K := 32) (r := 20) wi_D_officeLine_32 rfl), rfl, rfl⟩
theorem dD_officeLine_53 : dl tD_officeLine 53 .aload_n .aload 0 54 := Or.inl ⟨0, o_42 (oW (K := 32) (r := 21) wi_D_officeLine_32 rfl), rfl, rfl⟩
theorem dD_officeLine_54 : dn tD_officeLine 54 (.invokevirtual 54) 3 57 := ⟨o_182 0 54 54 (oWd (K := 32) (r := 22) wi_D_officeLine_32 rfl), rfl⟩
theorem dD_officeLine_57 : dl tD_officeLine 57 .aload_n .aload 0 58 := Or.inl ⟨0, o_42 (oW (K := 32) (r := 25) wi_D_officeLine_32 rfl), rfl, rfl⟩
theorem dD_officeLine_58 : dn tD_officeLine 58 (.iconst 0) 1 59 := ⟨o_3 (oW (K := 32) (r := 26) wi_D_officeLine_32 rfl), rfl⟩
theorem dD_officeLine_59 : dl tD_officeLine 59 .aload_n .aload 0 60 := Or.inl ⟨0, o_42 (oW (K := 32) (r := 27) wi_D_officeLine_32 rfl), rfl, rfl⟩
theorem dD_officeLine_60 : dn tD_officeLine 60 (.getfield 46) 3 63 := ⟨o_180 0 46 46 (oWd (K := 32) (r := 28) wi_D_officeLine_32 rfl), rfl⟩
theorem dD_officeLine_63 : dn tD_officeLine 63 (.iconst 1) 1 64 := ⟨o_4 (oW (K := 32) (r := 31) wi_D_officeLine_32 rfl), rfl⟩
def wl_D_officeLine_64 : List Nat := [100, 182, 0, 105, 154, 0, 5, 3, 172, 42, 180, 0, 109, 62, 3, 54, 4, 28, 5, 160, 0, 20, 42, 3, 6, 182, 0, 105, 154, 0, 5, 3, 172, 42, 180, 0, 109, 54]
theorem wi_D_officeLine_64 : oC tD_officeLine.2.1 64 wl_D_officeLine_64 = true := by decide +kernel
theorem dD_officeLine_64 : dn tD_officeLine 64 (.isub) 1 65 := ⟨o_100 (oW (K := 64) (r := 0) wi_D_officeLine_64 rfl), rfl⟩
theorem dD_officeLine_65 : dn tD_officeLine 65 (.invokevirtual 105) 3 68 := ⟨o_182 0 105 105 (oWd (K := 64) (r := 1) wi_D_officeLine_64 rfl), rfl⟩
theorem dD_officeLine_68 : db tD_officeLine 68 (.ifCond .ne) 73 71 := ⟨5, o_154 0 5 5 (oWd (K := 64) (r := 4) wi_D_officeLine_64 rfl), rfl, rfl⟩
theorem dD_officeLine_71 : dn tD_officeLine 71 (.iconst 0) 1 72 := ⟨o_3 (oW (K := 64) (r := 7) wi_D_officeLine_64 rfl), rfl⟩
theorem dD_officeLine_72 : dn tD_officeLine 72 (.ireturn) 1 73 := ⟨o_172 (oW (K := 64) (r := 8) wi_D_officeLine_64 rfl), rfl⟩
theorem dD_officeLine_73 : dl tD_officeLine 73 .aload_n .aload 0 74 := Or.inl ⟨0, o_42 (oW (K := 64) (r := 9) wi_D_officeLine_64 rfl), rfl, rfl⟩
theorem dD_officeLine_74 : dn tD_officeLine 74 (.getfield 109) 3 77 := ⟨o_180 0 109 109 (oWd (K := 64) (r := 10) wi_D_officeLine_64 rfl), rfl⟩
theorem dD_officeLine_77 : dl tD_officeLine 77 .istore_n .istore 3 78 := Or.inl ⟨3, o_62 (oW (K := 64) (r := 13) wi_D_officeLine_64 rfl), rfl, rfl⟩
theorem dD_officeLine_78 : dn tD_officeLine 78 (.iconst 0) 1 79 := ⟨o_3 (oW (K := 64) (r := 14) wi_D_officeLine_64 rfl), rfl⟩
theorem dD_officeLine_79 : dl tD_officeLine 79 .istore_n .istore 4 81 := Or.inr ⟨o_54 4 (oW (K := 64) (r := 15) wi_D_officeLine_64 rfl), rfl⟩
theorem dD_officeLine_81 : dl tD_officeLine 81 .iload_n .iload 2 82 := Or.inl ⟨2, o_28 (oW (K := 64) (r := 17) wi_D_officeLine_64 rfl), rfl, rfl⟩
theorem dD_officeLine_82 : dn tD_officeLine 82 (.iconst 2) 1 83 := ⟨o_5 (oW (K := 64) (r := 18) wi_D_officeLine_64 rfl), rfl⟩
theorem dD_officeLine_83 : db tD_officeLine 83 (.if_icmp .ne) 103 86 := ⟨20, o_160 0 20 20 (oWd (K := 64) (r := 19) wi_D_officeLine_64 rfl), rfl, rfl⟩
theorem dD_officeLine_86 : dl tD_officeLine 86 .aload_n .aload 0 87 := Or.inl ⟨0, o_42 (oW (K := 64) (r := 22) wi_D_officeLine_64 rfl), rfl, rfl⟩
theorem dD_officeLine_87 : dn tD_officeLine 87 (.iconst 0) 1 88 := ⟨o_3 (oW (K := 64) (r := 23) wi_D_officeLine_64 rfl), rfl⟩
theorem dD_officeLine_88 : dn tD_officeLine 88 (.iconst 3) 1 89 := ⟨o_6 (oW (K := 64) (r := 24) wi_D_officeLine_64 rfl), rfl⟩
theorem dD_officeLine_89 : dn tD_officeLine 89 (.invokevirtual 105) 3 92 := ⟨o_182 0 105 105 (oWd (K := 64) (r := 25) wi_D_officeLine_64 rfl), rfl⟩
theorem dD_officeLine_92 : db tD_officeLine 92 (.ifCond .ne) 97 95 := ⟨5, o_154 0 5 5 (oWd (K := 64) (r := 28) wi_D_officeLine_64 rfl), rfl, rfl⟩
theorem dD_officeLine_95 : dn tD_officeLine 95 (.iconst 0) 1 96 := ⟨o_3 (oW (K := 64) (r := 31) wi_D_officeLine_64 rfl), rfl⟩
def wl_D_officeLine_96 : List Nat := [172, 42, 180, 0, 109, 54, 4, 3, 54, 5, 28, 4, 159, 0, 8, 28, 5, 160, 0, 21, 42, 4, 16, 99, 182, 0, 105, 154, 0, 5, 3, 172, 42, 180, 0, 109, 54, 5]
theorem wi_D_officeLine_96 : oC tD_officeLine.2.1 96 wl_D_officeLine_96 = true := by decide +kernel
theorem dD_officeLine_96 : dn tD_officeLine 96 (.ireturn) 1 97 := ⟨o_172 (oW (K := 96) (r := 0) wi_D_officeLine_96 rfl), rfl⟩
theorem dD_officeLine_97 : dl tD_officeLine 97 .aload_n .aload 0 98 := Or.inl ⟨0, o_42 (oW (K := 96) (r := 1) wi_D_officeLine_96 rfl), rfl, rfl⟩
theorem dD_officeLine_98 : dn tD_officeLine 98 (.getfield 109) 3 101 := ⟨o_180 0 109 109 (oWd (K := 96) (r := 2) wi_D_officeLine_96 rfl), rfl⟩
theorem dD_officeLine_101 : dl tD_officeLine 101 .istore_n .istore 4 103 := Or.inr ⟨o_54 4 (oW (K := 96) (r := 5) wi_D_officeLine_96 rfl), rfl⟩
theorem dD_officeLine_103 : dn tD_officeLine 103 (.iconst 0) 1 104 := ⟨o_3 (oW (K := 96) (r := 7) wi_D_officeLine_96 rfl), rfl⟩
theorem dD_officeLine_104 : dl tD_officeLine 104 .istore_n .istore 5 106 := Or.inr ⟨o_54 5 (oW (K := 96) (r := 8) wi_D_officeLine_96 rfl), rfl⟩
theorem dD_officeLine_106 : dl tD_officeLine 106 .iload_n .iload 2 107 := Or.inl ⟨2, o_28 (oW (K := 96) (r := 10) wi_D_officeLine_96 rfl), rfl, rfl⟩
theorem dD_officeLine_107 : dn tD_officeLine 107 (.iconst 1) 1 108 := ⟨o_4 (oW (K := 96) (r := 11) wi_D_officeLine_96 rfl), rfl⟩
theorem dD_officeLine_108 : db tD_officeLine 108 (.if_icmp .eq) 116 111 := ⟨8, o_159 0 8 8 (oWd (K := 96) (r := 12) wi_D_officeLine_96 rfl), rfl, rfl⟩
theorem dD_officeLine_111 : dl tD_officeLine 111 .iload_n .iload 2 112 := Or.inl ⟨2, o_28 (oW (K := 96) (r := 15) wi_D_officeLine_96 rfl), rfl, rfl⟩
theorem dD_officeLine_112 : dn tD_officeLine 112 (.iconst 2) 1 113 := ⟨o_5 (oW (K := 96) (r := 16) wi_D_officeLine_96 rfl), rfl⟩
theorem dD_officeLine_113 : db tD_officeLine 113 (.if_icmp .ne) 134 116 := ⟨21, o_160 0 21 21 (oWd (K := 96) (r := 17) wi_D_officeLine_96 rfl), rfl, rfl⟩
theorem dD_officeLine_116 : dl tD_officeLine 116 .aload_n .aload 0 117 := Or.inl ⟨0, o_42 (oW (K := 96) (r := 20) wi_D_officeLine_96 rfl), rfl, rfl⟩
theorem dD_officeLine_117 : dn tD_officeLine 117 (.iconst 1) 1 118 := ⟨o_4 (oW (K := 96) (r := 21) wi_D_officeLine_96 rfl), rfl⟩
theorem dD_officeLine_118 : dn tD_officeLine 118 (.bipush 99) 2 120 := ⟨o_16 99 99 (oWd (K := 96) (r := 22) wi_D_officeLine_96 rfl), rfl⟩
theorem dD_officeLine_120 : dn tD_officeLine 120 (.invokevirtual 105) 3 123 := ⟨o_182 0 105 105 (oWd (K := 96) (r := 24) wi_D_officeLine_96 rfl), rfl⟩
theorem dD_officeLine_123 : db tD_officeLine 123 (.ifCond .ne) 128 126 := ⟨5, o_154 0 5 5 (oWd (K := 96) (r := 27) wi_D_officeLine_96 rfl), rfl, rfl⟩
theorem dD_officeLine_126 : dn tD_officeLine 126 (.iconst 0) 1 127 := ⟨o_3 (oW (K := 96) (r := 30) wi_D_officeLine_96 rfl), rfl⟩
theorem dD_officeLine_127 : dn tD_officeLine 127 (.ireturn) 1 128 := ⟨o_172 (oW (K := 96) (r := 31) wi_D_officeLine_96 rfl), rfl⟩
def wl_D_officeLine_128 : List Nat := [42, 180, 0, 109, 54, 5, 42, 16, 59, 182, 0, 97, 153, 0, 24, 42, 180, 0, 14, 27, 28, 29, 21, 4, 21, 5, 182, 0, 101, 153, 0, 7, 4, 167, 0, 4, 3, 172]
theorem wi_D_officeLine_128 : oC tD_officeLine.2.1 128 wl_D_officeLine_128 = true := by decide +kernel
theorem dD_officeLine_128 : dl tD_officeLine 128 .aload_n .aload 0 129 := Or.inl ⟨0, o_42 (oW (K := 128) (r := 0) wi_D_officeLine_128 rfl), rfl, rfl⟩
theorem dD_officeLine_129 : dn tD_officeLine 129 (.getfield 109) 3 132 := ⟨o_180 0 109 109 (oWd (K := 128) (r := 1) wi_D_officeLine_128 rfl), rfl⟩
theorem dD_officeLine_132 : dl tD_officeLine 132 .istore_n .istore 5 134 := Or.inr ⟨o_54 5 (oW (K := 128) (r := 4) wi_D_officeLine_128 rfl), rfl⟩
theorem dD_officeLine_134 : dl tD_officeLine 134 .aload_n .aload 0 135 := Or.inl ⟨0, o_42 (oW (K := 128) (r := 6) wi_D_officeLine_128 rfl), rfl, rfl⟩
theorem dD_officeLine_135 : dn tD_officeLine 135 (.bipush 59) 2 137 := ⟨o_16 59 59 (oWd (K := 128) (r := 7) wi_D_officeLine_128 rfl), rfl⟩
theorem dD_officeLine_137 : dn tD_officeLine 137 (.invokevirtual 97) 3 140 := ⟨o_182 0 97 97 (oWd (K := 128) (r := 9) wi_D_officeLine_128 rfl), rfl⟩
theorem dD_officeLine_140 : db tD_officeLine 140 (.ifCond .eq) 164 143 := ⟨24, o_153 0 24 24 (oWd (K := 128) (r := 12) wi_D_officeLine_128 rfl), rfl, rfl⟩
theorem dD_officeLine_143 : dl tD_officeLine 143 .aload_n .aload 0 144 := Or.inl ⟨0, o_42 (oW (K := 128) (r := 15) wi_D_officeLine_128 rfl), rfl, rfl⟩
theorem dD_officeLine_144 : dn tD_officeLine 144 (.getfield 14) 3 147 := ⟨o_180 0 14 14 (oWd (K := 128) (r := 16) wi_D_officeLine_128 rfl), rfl⟩
theorem dD_officeLine_147 : dl tD_officeLine 147 .iload_n .iload 1 148 := Or.inl ⟨1, o_27 (oW (K := 128) (r := 19) wi_D_officeLine_128 rfl), rfl, rfl⟩
theorem dD_officeLine_148 : dl tD_officeLine 148 .iload_n .iload 2 149 := Or.inl ⟨2, o_28 (oW (K := 128) (r := 20) wi_D_officeLine_128 rfl), rfl, rfl⟩
theorem dD_officeLine_149 : dl tD_officeLine 149 .iload_n .iload 3 150 := Or.inl ⟨3, o_29 (oW (K := 128) (r := 21) wi_D_officeLine_128 rfl), rfl, rfl⟩
theorem dD_officeLine_150 : dl tD_officeLine 150 .iload_n .iload 4 152 := Or.inr ⟨o_21 4 (oW (K := 128) (r := 22) wi_D_officeLine_128 rfl), rfl⟩
theorem dD_officeLine_152 : dl tD_officeLine 152 .iload_n .iload 5 154 := Or.inr ⟨o_21 5 (oW (K := 128) (r := 24) wi_D_officeLine_128 rfl), rfl⟩
theorem dD_officeLine_154 : dn tD_officeLine 154 (.invokevirtual 101) 3 157 := ⟨o_182 0 101 101 (oWd (K := 128) (r := 26) wi_D_officeLine_128 rfl), rfl⟩
theorem dD_officeLine_157 : db tD_officeLine 157 (.ifCond .eq) 164 160 := ⟨7, o_153 0 7 7 (oWd (K := 128) (r := 29) wi_D_officeLine_128 rfl), rfl, rfl⟩
def wl_D_officeLine_160 : List Nat := [4, 167, 0, 4, 3, 172]
theorem wi_D_officeLine_160 : oC tD_officeLine.2.1 160 wl_D_officeLine_160 = true := by decide +kernel
theorem dD_officeLine_160 : dn tD_officeLine 160 (.iconst 1) 1 161 := ⟨o_4 (oW (K := 160) (r := 0) wi_D_officeLine_160 rfl), rfl⟩
theorem dD_officeLine_161 : db tD_officeLine 161 .goto 165 164 := ⟨4, o_167 0 4 4 (oWd (K := 160) (r := 1) wi_D_officeLine_160 rfl), rfl, rfl⟩
theorem dD_officeLine_164 : dn tD_officeLine 164 (.iconst 0) 1 165 := ⟨o_3 (oW (K := 160) (r := 4) wi_D_officeLine_160 rfl), rfl⟩
theorem dD_officeLine_165 : dn tD_officeLine 165 (.ireturn) 1 166 := ⟨o_172 (oW (K := 160) (r := 5) wi_D_officeLine_160 rfl), rfl⟩
def wl_D_nextLine_0 : List Nat := [42, 182, 0, 54, 42, 3, 42, 180, 0, 46, 4, 100, 182, 0, 105, 154, 0, 5, 3, 172, 42, 180, 0, 109, 60, 42, 4, 182, 0, 91, 154, 0, 9, 42, 4, 182, 0, 63]
theorem wi_D_nextLine_0 : oC tD_nextLine.2.1 0 wl_D_nextLine_0 = true := by decide +kernel
theorem dD_nextLine_0 : dl tD_nextLine 0 .aload_n .aload 0 1 := Or.inl ⟨0, o_42 (oW (K := 0) (r := 0) wi_D_nextLine_0 rfl), rfl, rfl⟩
theorem dD_nextLine_1 : dn tD_nextLine 1 (.invokevirtual 54) 3 4 := ⟨o_182 0 54 54 (oWd (K := 0) (r := 1) wi_D_nextLine_0 rfl), rfl⟩
theorem dD_nextLine_4 : dl tD_nextLine 4 .aload_n .aload 0 5 := Or.inl ⟨0, o_42 (oW (K := 0) (r := 4) wi_D_nextLine_0 rfl), rfl, rfl⟩
theorem dD_nextLine_5 : dn tD_nextLine 5 (.iconst 0) 1 6 := ⟨o_3 (oW (K := 0) (r := 5) wi_D_nextLine_0 rfl), rfl⟩
theorem dD_nextLine_6 : dl tD_nextLine 6 .aload_n .aload 0 7 := Or.inl ⟨0, o_42 (oW (K := 0) (r := 6) wi_D_nextLine_0 rfl), rfl, rfl⟩
theorem dD_nextLine_7 : dn tD_nextLine 7 (.getfield 46) 3 10 := ⟨o_180 0 46 46 (oWd (K := 0) (r := 7) wi_D_nextLine_0 rfl), rfl⟩
theorem dD_nextLine_10 : dn tD_nextLine 10 (.iconst 1) 1 11 := ⟨o_4 (oW (K := 0) (r := 10) wi_D_nextLine_0 rfl), rfl⟩
theorem dD_nextLine_11 : dn tD_nextLine 11 (.isub) 1 12 := ⟨o_100 (oW (K := 0) (r := 11) wi_D_nextLine_0 rfl), rfl⟩
theorem dD_nextLine_12 : dn tD_nextLine 12 (.invokevirtual 105) 3 15 := ⟨o_182 0 105 105 (oWd (K := 0) (r := 12) wi_D_nextLine_0 rfl), rfl⟩
theorem dD_nextLine_15 : db tD_nextLine 15 (.ifCond .ne) 20 18 := ⟨5, o_154 0 5 5 (oWd (K := 0) (r := 15) wi_D_nextLine_0 rfl), rfl, rfl⟩
theorem dD_nextLine_18 : dn tD_nextLine 18 (.iconst 0) 1 19 := ⟨o_3 (oW (K := 0) (r := 18) wi_D_nextLine_0 rfl), rfl⟩
theorem dD_nextLine_19 : dn tD_nextLine 19 (.ireturn) 1 20 := ⟨o_172 (oW (K := 0) (r := 19) wi_D_nextLine_0 rfl), rfl⟩
theorem dD_nextLine_20 : dl tD_nextLine 20 .aload_n .aload 0 21 := Or.inl ⟨0, o_42 (oW (K := 0) (r := 20) wi_D_nextLine_0 rfl), rfl, rfl⟩
theorem dD_nextLine_21 : dn tD_nextLine 21 (.getfield 109) 3 24 := ⟨o_180 0 109 109 (oWd (K := 0) (r := 21) wi_D_nextLine_0 rfl), rfl⟩
theorem dD_nextLine_24 : dl tD_nextLine 24 .istore_n .istore 1 25 := Or.inl ⟨1, o_60 (oW (K := 0) (r := 24) wi_D_nextLine_0 rfl), rfl, rfl⟩
theorem dD_nextLine_25 : dl tD_nextLine 25 .aload_n .aload 0 26 := Or.inl ⟨0, o_42 (oW (K := 0) (r := 25) wi_D_nextLine_0 rfl), rfl, rfl⟩
theorem dD_nextLine_26 : dn tD_nextLine 26 (.iconst 1) 1 27 := ⟨o_4 (oW (K := 0) (r := 26) wi_D_nextLine_0 rfl), rfl⟩
theorem dD_nextLine_27 : dn tD_nextLine 27 (.invokevirtual 91) 3 30 := ⟨o_182 0 91 91 (oWd (K := 0) (r := 27) wi_D_nextLine_0 rfl), rfl⟩
theorem dD_nextLine_30 : db tD_nextLine 30 (.ifCond .ne) 39 33 := ⟨9, o_154 0 9 9 (oWd (K := 0) (r := 30) wi_D_nextLine_0 rfl), rfl, rfl⟩
def wl_D_nextLine_32 : List Nat := [9, 42, 4, 182, 0, 63, 172, 42, 182, 0, 54, 42, 180, 0, 57, 5, 160, 0, 17, 42, 180, 0, 60, 27, 160, 0, 9, 42, 5, 182, 0, 63, 172, 42, 3, 42, 180, 0]
theorem wi_D_nextLine_32 : oC tD_nextLine.2.1 32 wl_D_nextLine_32 = true := by decide +kernel
theorem dD_nextLine_33 : dl tD_nextLine 33 .aload_n .aload 0 34 := Or.inl ⟨0, o_42 (oW (K := 32) (r := 1) wi_D_nextLine_32 rfl), rfl, rfl⟩
theorem dD_nextLine_34 : dn tD_nextLine 34 (.iconst 1) 1 35 := ⟨o_4 (oW (K := 32) (r := 2) wi_D_nextLine_32 rfl), rfl⟩
theorem dD_nextLine_35 : dn tD_nextLine 35 (.invokevirtual 63) 3 38 := ⟨o_182 0 63 63 (oWd (K := 32) (r := 3) wi_D_nextLine_32 rfl), rfl⟩
theorem dD_nextLine_38 : dn tD_nextLine 38 (.ireturn) 1 39 := ⟨o_172 (oW (K := 32) (r := 6) wi_D_nextLine_32 rfl), rfl⟩
theorem dD_nextLine_39 : dl tD_nextLine 39 .aload_n .aload 0 40 := Or.inl ⟨0, o_42 (oW (K := 32) (r := 7) wi_D_nextLine_32 rfl), rfl, rfl⟩
theorem dD_nextLine_40 : dn tD_nextLine 40 (.invokevirtual 54) 3 43 := ⟨o_182 0 54 54 (oWd (K := 32) (r := 8) wi_D_nextLine_32 rfl), rfl⟩
theorem dD_nextLine_43 : dl tD_nextLine 43 .aload_n .aload 0 44 := Or.inl ⟨0, o_42 (oW (K := 32) (r := 11) wi_D_nextLine_32 rfl), rfl, rfl⟩
theorem dD_nextLine_44 : dn tD_nextLine 44 (.getfield 57) 3 47 := ⟨o_180 0 57 57 (oWd (K := 32) (r := 12) wi_D_nextLine_32 rfl), rfl⟩
theorem dD_nextLine_47 : dn tD_nextLine 47 (.iconst 2) 1 48 := ⟨o_5 (oW (K := 32) (r := 15) wi_D_nextLine_32 rfl), rfl⟩
theorem dD_nextLine_48 : db tD_nextLine 48 (.if_icmp .ne) 65 51 := ⟨17, o_160 0 17 17 (oWd (K := 32) (r := 16) wi_D_nextLine_32 rfl), rfl, rfl⟩
theorem dD_nextLine_51 : dl tD_nextLine 51 .aload_n .aload 0 52 := Or.inl ⟨0, o_42 (oW (K := 32) (r := 19) wi_D_nextLine_32 rfl), rfl, rfl⟩
theorem dD_nextLine_52 : dn tD_nextLine 52 (.getfield 60) 3 55 := ⟨o_180 0 60 60 (oWd (K := 32) (r := 20) wi_D_nextLine_32 rfl), rfl⟩
theorem dD_nextLine_55 : dl tD_nextLine 55 .iload_n .iload 1 56 := Or.inl ⟨1, o_27 (oW (K := 32) (r := 23) wi_D_nextLine_32 rfl), rfl, rfl⟩
theorem dD_nextLine_56 : db tD_nextLine 56 (.if_icmp .ne) 65 59 := ⟨9, o_160 0 9 9 (oWd (K := 32) (r := 24) wi_D_nextLine_32 rfl), rfl, rfl⟩
theorem dD_nextLine_59 : dl tD_nextLine 59 .aload_n .aload 0 60 := Or.inl ⟨0, o_42 (oW (K := 32) (r := 27) wi_D_nextLine_32 rfl), rfl, rfl⟩
theorem dD_nextLine_60 : dn tD_nextLine 60 (.iconst 2) 1 61 := ⟨o_5 (oW (K := 32) (r := 28) wi_D_nextLine_32 rfl), rfl⟩
theorem dD_nextLine_61 : dn tD_nextLine 61 (.invokevirtual 63) 3 64 := ⟨o_182 0 63 63 (oWd (K := 32) (r := 29) wi_D_nextLine_32 rfl), rfl⟩
def wl_D_nextLine_64 : List Nat := [172, 42, 3, 42, 180, 0, 46, 4, 100, 182, 0, 105, 153, 0, 34, 42, 16, 59, 182, 0, 97, 153, 0, 25, 42, 180, 0, 14, 27, 42, 180, 0, 109, 3, 3, 3, 182, 0]
theorem wi_D_nextLine_64 : oC tD_nextLine.2.1 64 wl_D_nextLine_64 = true := by decide +kernel
theorem dD_nextLine_64 : dn tD_nextLine 64 (.ireturn) 1 65 := ⟨o_172 (oW (K := 64) (r := 0) wi_D_nextLine_64 rfl), rfl⟩
theorem dD_nextLine_65 : dl tD_nextLine 65 .aload_n .aload 0 66 := Or.inl ⟨0, o_42 (oW (K := 64) (r := 1) wi_D_nextLine_64 rfl), rfl, rfl⟩
theorem dD_nextLine_66 : dn tD_nextLine 66 (.iconst 0) 1 67 := ⟨o_3 (oW (K := 64) (r := 2) wi_D_nextLine_64 rfl), rfl⟩
theorem dD_nextLine_67 : dl tD_nextLine 67 .aload_n .aload 0 68 := Or.inl ⟨0, o_42 (oW (K := 64) (r := 3) wi_D_nextLine_64 rfl), rfl, rfl⟩
theorem dD_nextLine_68 : dn tD_nextLine 68 (.getfield 46) 3 71 := ⟨o_180 0 46 46 (oWd (K := 64) (r := 4) wi_D_nextLine_64 rfl), rfl⟩
theorem dD_nextLine_71 : dn tD_nextLine 71 (.iconst 1) 1 72 := ⟨o_4 (oW (K := 64) (r := 7) wi_D_nextLine_64 rfl), rfl⟩
theorem dD_nextLine_72 : dn tD_nextLine 72 (.isub) 1 73 := ⟨o_100 (oW (K := 64) (r := 8) wi_D_nextLine_64 rfl), rfl⟩
theorem dD_nextLine_73 : dn tD_nextLine 73 (.invokevirtual 105) 3 76 := ⟨o_182 0 105 105 (oWd (K := 64) (r := 9) wi_D_nextLine_64 rfl), rfl⟩
theorem dD_nextLine_76 : db tD_nextLine 76 (.ifCond .eq) 110 79 := ⟨34, o_153 0 34 34 (oWd (K := 64) (r := 12) wi_D_nextLine_64 rfl), rfl, rfl⟩
theorem dD_nextLine_79 : dl tD_nextLine 79 .aload_n .aload 0 80 := Or.inl ⟨0, o_42 (oW (K := 64) (r := 15) wi_D_nextLine_64 rfl), rfl, rfl⟩
theorem dD_nextLine_80 : dn tD_nextLine 80 (.bipush 59) 2 82 := ⟨o_16 59 59 (oWd (K := 64) (r := 16) wi_D_nextLine_64 rfl), rfl⟩
theorem dD_nextLine_82 : dn tD_nextLine 82 (.invokevirtual 97) 3 85 := ⟨o_182 0 97 97 (oWd (K := 64) (r := 18) wi_D_nextLine_64 rfl), rfl⟩
theorem dD_nextLine_85 : db tD_nextLine 85 (.ifCond .eq) 110 88 := ⟨25, o_153 0 25 25 (oWd (K := 64) (r := 21) wi_D_nextLine_64 rfl), rfl, rfl⟩
theorem dD_nextLine_88 : dl tD_nextLine 88 .aload_n .aload 0 89 := Or.inl ⟨0, o_42 (oW (K := 64) (r := 24) wi_D_nextLine_64 rfl), rfl, rfl⟩
theorem dD_nextLine_89 : dn tD_nextLine 89 (.getfield 14) 3 92 := ⟨o_180 0 14 14 (oWd (K := 64) (r := 25) wi_D_nextLine_64 rfl), rfl⟩
theorem dD_nextLine_92 : dl tD_nextLine 92 .iload_n .iload 1 93 := Or.inl ⟨1, o_27 (oW (K := 64) (r := 28) wi_D_nextLine_64 rfl), rfl, rfl⟩
theorem dD_nextLine_93 : dl tD_nextLine 93 .aload_n .aload 0 94 := Or.inl ⟨0, o_42 (oW (K := 64) (r := 29) wi_D_nextLine_64 rfl), rfl, rfl⟩
theorem dD_nextLine_94 : dn tD_nextLine 94 (.getfield 109) 3 97 := ⟨o_180 0 109 109 (oWd (K := 64) (r := 30) wi_D_nextLine_64 rfl), rfl⟩
def wl_D_nextLine_96 : List Nat := [109, 3, 3, 3, 182, 0, 101, 153, 0, 7, 4, 167, 0, 4, 3, 172]
theorem wi_D_nextLine_96 : oC tD_nextLine.2.1 96 wl_D_nextLine_96 = true := by decide +kernel
theorem dD_nextLine_97 : dn tD_nextLine 97 (.iconst 0) 1 98 := ⟨o_3 (oW (K := 96) (r := 1) wi_D_nextLine_96 rfl), rfl⟩
theorem dD_nextLine_98 : dn tD_nextLine 98 (.iconst 0) 1 99 := ⟨o_3 (oW (K := 96) (r := 2) wi_D_nextLine_96 rfl), rfl⟩
theorem dD_nextLine_99 : dn tD_nextLine 99 (.iconst 0) 1 100 := ⟨o_3 (oW (K := 96) (r := 3) wi_D_nextLine_96 rfl), rfl⟩
theorem dD_nextLine_100 : dn tD_nextLine 100 (.invokevirtual 101) 3 103 := ⟨o_182 0 101 101 (oWd (K := 96) (r := 4) wi_D_nextLine_96 rfl), rfl⟩
theorem dD_nextLine_103 : db tD_nextLine 103 (.ifCond .eq) 110 106 := ⟨7, o_153 0 7 7 (oWd (K := 96) (r := 7) wi_D_nextLine_96 rfl), rfl, rfl⟩
theorem dD_nextLine_106 : dn tD_nextLine 106 (.iconst 1) 1 107 := ⟨o_4 (oW (K := 96) (r := 10) wi_D_nextLine_96 rfl), rfl⟩
theorem dD_nextLine_107 : db tD_nextLine 107 .goto 111 110 := ⟨4, o_167 0 4 4 (oWd (K := 96) (r := 11) wi_D_nextLine_96 rfl), rfl, rfl⟩
theorem dD_nextLine_110 : dn tD_nextLine 110 (.iconst 0) 1 111 := ⟨o_3 (oW (K := 96) (r := 14) wi_D_nextLine_96 rfl), rfl⟩
theorem dD_nextLine_111 : dn tD_nextLine 111 (.ireturn) 1 112 := ⟨o_172 (oW (K := 96) (r := 15) wi_D_nextLine_96 rfl), rfl⟩
def wl_D_expression_0 : List Nat := [2, 60, 42, 182, 0, 116, 154, 0, 5, 3, 172, 3, 61, 28, 17, 1, 144, 162, 0, 138, 42, 16, 43, 182, 0, 119, 154, 0, 30, 42, 16, 45, 182, 0, 119, 154, 0, 21]
theorem wi_D_expression_0 : oC tD_expression.2.1 0 wl_D_expression_0 = true := by decide +kernel
theorem dD_expression_0 : dn tD_expression 0 (.iconst (-1)) 1 1 := ⟨o_2 (oW (K := 0) (r := 0) wi_D_expression_0 rfl), rfl⟩
theorem dD_expression_1 : dl tD_expression 1 .istore_n .istore 1 2 := Or.inl ⟨1, o_60 (oW (K := 0) (r := 1) wi_D_expression_0 rfl), rfl, rfl⟩
theorem dD_expression_2 : dl tD_expression 2 .aload_n .aload 0 3 := Or.inl ⟨0, o_42 (oW (K := 0) (r := 2) wi_D_expression_0 rfl), rfl, rfl⟩
theorem dD_expression_3 : dn tD_expression 3 (.invokevirtual 116) 3 6 := ⟨o_182 0 116 116 (oWd (K := 0) (r := 3) wi_D_expression_0 rfl), rfl⟩
theorem dD_expression_6 : db tD_expression 6 (.ifCond .ne) 11 9 := ⟨5, o_154 0 5 5 (oWd (K := 0) (r := 6) wi_D_expression_0 rfl), rfl, rfl⟩
theorem dD_expression_9 : dn tD_expression 9 (.iconst 0) 1 10 := ⟨o_3 (oW (K := 0) (r := 9) wi_D_expression_0 rfl), rfl⟩
theorem dD_expression_10 : dn tD_expression 10 (.ireturn) 1 11 := ⟨o_172 (oW (K := 0) (r := 10) wi_D_expression_0 rfl), rfl⟩
theorem dD_expression_11 : dn tD_expression 11 (.iconst 0) 1 12 := ⟨o_3 (oW (K := 0) (r := 11) wi_D_expression_0 rfl), rfl⟩
theorem dD_expression_12 : dl tD_expression 12 .istore_n .istore 2 13 := Or.inl ⟨2, o_61 (oW (K := 0) (r := 12) wi_D_expression_0 rfl), rfl, rfl⟩
theorem dD_expression_13 : dl tD_expression 13 .iload_n .iload 2 14 := Or.inl ⟨2, o_28 (oW (K := 0) (r := 13) wi_D_expression_0 rfl), rfl, rfl⟩
theorem dD_expression_14 : dn tD_expression 14 (.sipush 400) 3 17 := ⟨o_17 1 144 400 (oWd (K := 0) (r := 14) wi_D_expression_0 rfl), rfl⟩
theorem dD_expression_17 : db tD_expression 17 (.if_icmp .ge) 155 20 := ⟨138, o_162 0 138 138 (oWd (K := 0) (r := 17) wi_D_expression_0 rfl), rfl, rfl⟩
theorem dD_expression_20 : dl tD_expression 20 .aload_n .aload 0 21 := Or.inl ⟨0, o_42 (oW (K := 0) (r := 20) wi_D_expression_0 rfl), rfl, rfl⟩
theorem dD_expression_21 : dn tD_expression 21 (.bipush 43) 2 23 := ⟨o_16 43 43 (oWd (K := 0) (r := 21) wi_D_expression_0 rfl), rfl⟩
theorem dD_expression_23 : dn tD_expression 23 (.invokevirtual 119) 3 26 := ⟨o_182 0 119 119 (oWd (K := 0) (r := 23) wi_D_expression_0 rfl), rfl⟩
theorem dD_expression_26 : db tD_expression 26 (.ifCond .ne) 56 29 := ⟨30, o_154 0 30 30 (oWd (K := 0) (r := 26) wi_D_expression_0 rfl), rfl, rfl⟩
theorem dD_expression_29 : dl tD_expression 29 .aload_n .aload 0 30 := Or.inl ⟨0, o_42 (oW (K := 0) (r := 29) wi_D_expression_0 rfl), rfl, rfl⟩
theorem dD_expression_30 : dn tD_expression 30 (.bipush 45) 2 32 := ⟨o_16 45 45 (oWd (K := 0) (r := 30) wi_D_expression_0 rfl), rfl⟩
def wl_D_expression_32 : List Nat := [182, 0, 119, 154, 0, 21, 42, 16, 42, 182, 0, 119, 154, 0, 12, 42, 16, 47, 182, 0, 119, 153, 0, 102, 42, 180, 0, 60, 62, 42, 182, 0, 54, 29, 16, 47, 160, 0]
theorem wi_D_expression_32 : oC tD_expression.2.1 32 wl_D_expression_32 = true := by decide +kernel
theorem dD_expression_32 : dn tD_expression 32 (.invokevirtual 119) 3 35 := ⟨o_182 0 119 119 (oWd (K := 32) (r := 0) wi_D_expression_32 rfl), rfl⟩
theorem dD_expression_35 : db tD_expression 35 (.ifCond .ne) 56 38 := ⟨21, o_154 0 21 21 (oWd (K := 32) (r := 3) wi_D_expression_32 rfl), rfl, rfl⟩
theorem dD_expression_38 : dl tD_expression 38 .aload_n .aload 0 39 := Or.inl ⟨0, o_42 (oW (K := 32) (r := 6) wi_D_expression_32 rfl), rfl, rfl⟩
theorem dD_expression_39 : dn tD_expression 39 (.bipush 42) 2 41 := ⟨o_16 42 42 (oWd (K := 32) (r := 7) wi_D_expression_32 rfl), rfl⟩
theorem dD_expression_41 : dn tD_expression 41 (.invokevirtual 119) 3 44 := ⟨o_182 0 119 119 (oWd (K := 32) (r := 9) wi_D_expression_32 rfl), rfl⟩
theorem dD_expression_44 : db tD_expression 44 (.ifCond .ne) 56 47 := ⟨12, o_154 0 12 12 (oWd (K := 32) (r := 12) wi_D_expression_32 rfl), rfl, rfl⟩
theorem dD_expression_47 : dl tD_expression 47 .aload_n .aload 0 48 := Or.inl ⟨0, o_42 (oW (K := 32) (r := 15) wi_D_expression_32 rfl), rfl, rfl⟩
theorem dD_expression_48 : dn tD_expression 48 (.bipush 47) 2 50 := ⟨o_16 47 47 (oWd (K := 32) (r := 16) wi_D_expression_32 rfl), rfl⟩
theorem dD_expression_50 : dn tD_expression 50 (.invokevirtual 119) 3 53 := ⟨o_182 0 119 119 (oWd (K := 32) (r := 18) wi_D_expression_32 rfl), rfl⟩
theorem dD_expression_53 : db tD_expression 53 (.ifCond .eq) 155 56 := ⟨102, o_153 0 102 102 (oWd (K := 32) (r := 21) wi_D_expression_32 rfl), rfl, rfl⟩
theorem dD_expression_56 : dl tD_expression 56 .aload_n .aload 0 57 := Or.inl ⟨0, o_42 (oW (K := 32) (r := 24) wi_D_expression_32 rfl), rfl, rfl⟩
theorem dD_expression_57 : dn tD_expression 57 (.getfield 60) 3 60 := ⟨o_180 0 60 60 (oWd (K := 32) (r := 25) wi_D_expression_32 rfl), rfl⟩
theorem dD_expression_60 : dl tD_expression 60 .istore_n .istore 3 61 := Or.inl ⟨3, o_62 (oW (K := 32) (r := 28) wi_D_expression_32 rfl), rfl, rfl⟩
theorem dD_expression_61 : dl tD_expression 61 .aload_n .aload 0 62 := Or.inl ⟨0, o_42 (oW (K := 32) (r := 29) wi_D_expression_32 rfl), rfl, rfl⟩
theorem dD_expression_62 : dn tD_expression 62 (.invokevirtual 54) 3 65 := ⟨o_182 0 54 54 (oWd (K := 32) (r := 30) wi_D_expression_32 rfl), rfl⟩
def wl_D_expression_64 : List Nat := [54, 29, 16, 47, 160, 0, 29, 42, 4, 17, 39, 15, 182, 0, 105, 154, 0, 5, 3, 172, 42, 8, 42, 180, 0, 109, 182, 0, 124, 87, 167, 0, 55, 29, 16, 42, 159, 0]
theorem wi_D_expression_64 : oC tD_expression.2.1 64 wl_D_expression_64 = true := by decide +kernel
theorem dD_expression_65 : dl tD_expression 65 .iload_n .iload 3 66 := Or.inl ⟨3, o_29 (oW (K := 64) (r := 1) wi_D_expression_64 rfl), rfl, rfl⟩
theorem dD_expression_66 : dn tD_expression 66 (.bipush 47) 2 68 := ⟨o_16 47 47 (oWd (K := 64) (r := 2) wi_D_expression_64 rfl), rfl⟩
theorem dD_expression_68 : db tD_expression 68 (.if_icmp .ne) 97 71 := ⟨29, o_160 0 29 29 (oWd (K := 64) (r := 4) wi_D_expression_64 rfl), rfl, rfl⟩
theorem dD_expression_71 : dl tD_expression 71 .aload_n .aload 0 72 := Or.inl ⟨0, o_42 (oW (K := 64) (r := 7) wi_D_expression_64 rfl), rfl, rfl⟩
theorem dD_expression_72 : dn tD_expression 72 (.iconst 1) 1 73 := ⟨o_4 (oW (K := 64) (r := 8) wi_D_expression_64 rfl), rfl⟩
theorem dD_expression_73 : dn tD_expression 73 (.sipush 9999) 3 76 := ⟨o_17 39 15 9999 (oWd (K := 64) (r := 9) wi_D_expression_64 rfl), rfl⟩
theorem dD_expression_76 : dn tD_expression 76 (.invokevirtual 105) 3 79 := ⟨o_182 0 105 105 (oWd (K := 64) (r := 12) wi_D_expression_64 rfl), rfl⟩
theorem dD_expression_79 : db tD_expression 79 (.ifCond .ne) 84 82 := ⟨5, o_154 0 5 5 (oWd (K := 64) (r := 15) wi_D_expression_64 rfl), rfl, rfl⟩
theorem dD_expression_82 : dn tD_expression 82 (.iconst 0) 1 83 := ⟨o_3 (oW (K := 64) (r := 18) wi_D_expression_64 rfl), rfl⟩
theorem dD_expression_83 : dn tD_expression 83 (.ireturn) 1 84 := ⟨o_172 (oW (K := 64) (r := 19) wi_D_expression_64 rfl), rfl⟩
theorem dD_expression_84 : dl tD_expression 84 .aload_n .aload 0 85 := Or.inl ⟨0, o_42 (oW (K := 64) (r := 20) wi_D_expression_64 rfl), rfl, rfl⟩
theorem dD_expression_85 : dn tD_expression 85 (.iconst 5) 1 86 := ⟨o_8 (oW (K := 64) (r := 21) wi_D_expression_64 rfl), rfl⟩
theorem dD_expression_86 : dl tD_expression 86 .aload_n .aload 0 87 := Or.inl ⟨0, o_42 (oW (K := 64) (r := 22) wi_D_expression_64 rfl), rfl, rfl⟩
theorem dD_expression_87 : dn tD_expression 87 (.getfield 109) 3 90 := ⟨o_180 0 109 109 (oWd (K := 64) (r := 23) wi_D_expression_64 rfl), rfl⟩
theorem dD_expression_90 : dn tD_expression 90 (.invokevirtual 124) 3 93 := ⟨o_182 0 124 124 (oWd (K := 64) (r := 26) wi_D_expression_64 rfl), rfl⟩
theorem dD_expression_93 : dn tD_expression 93 (.pop) 1 94 := ⟨o_87 (oW (K := 64) (r := 29) wi_D_expression_64 rfl), rfl⟩
theorem dD_expression_94 : db tD_expression 94 .goto 149 97 := ⟨55, o_167 0 55 55 (oWd (K := 64) (r := 30) wi_D_expression_64 rfl), rfl, rfl⟩
def wl_D_expression_96 : List Nat := [55, 29, 16, 42, 159, 0, 27, 27, 2, 159, 0, 10, 42, 27, 3, 182, 0, 124, 87, 29, 16, 43, 160, 0, 7, 5, 167, 0, 4, 6, 60, 42, 182, 0, 116, 154, 0, 5]
theorem wi_D_expression_96 : oC tD_expression.2.1 96 wl_D_expression_96 = true := by decide +kernel
theorem dD_expression_97 : dl tD_expression 97 .iload_n .iload 3 98 := Or.inl ⟨3, o_29 (oW (K := 96) (r := 1) wi_D_expression_96 rfl), rfl, rfl⟩
theorem dD_expression_98 : dn tD_expression 98 (.bipush 42) 2 100 := ⟨o_16 42 42 (oWd (K := 96) (r := 2) wi_D_expression_96 rfl), rfl⟩
theorem dD_expression_100 : db tD_expression 100 (.if_icmp .eq) 127 103 := ⟨27, o_159 0 27 27 (oWd (K := 96) (r := 4) wi_D_expression_96 rfl), rfl, rfl⟩
theorem dD_expression_103 : dl tD_expression 103 .iload_n .iload 1 104 := Or.inl ⟨1, o_27 (oW (K := 96) (r := 7) wi_D_expression_96 rfl), rfl, rfl⟩
theorem dD_expression_104 : dn tD_expression 104 (.iconst (-1)) 1 105 := ⟨o_2 (oW (K := 96) (r := 8) wi_D_expression_96 rfl), rfl⟩
theorem dD_expression_105 : db tD_expression 105 (.if_icmp .eq) 115 108 := ⟨10, o_159 0 10 10 (oWd (K := 96) (r := 9) wi_D_expression_96 rfl), rfl, rfl⟩
theorem dD_expression_108 : dl tD_expression 108 .aload_n .aload 0 109 := Or.inl ⟨0, o_42 (oW (K := 96) (r := 12) wi_D_expression_96 rfl), rfl, rfl⟩
theorem dD_expression_109 : dl tD_expression 109 .iload_n .iload 1 110 := Or.inl ⟨1, o_27 (oW (K := 96) (r := 13) wi_D_expression_96 rfl), rfl, rfl⟩
theorem dD_expression_110 : dn tD_expression 110 (.iconst 0) 1 111 := ⟨o_3 (oW (K := 96) (r := 14) wi_D_expression_96 rfl), rfl⟩
theorem dD_expression_111 : dn tD_expression 111 (.invokevirtual 124) 3 114 := ⟨o_182 0 124 124 (oWd (K := 96) (r := 15) wi_D_expression_96 rfl), rfl⟩
theorem dD_expression_114 : dn tD_expression 114 (.pop) 1 115 := ⟨o_87 (oW (K := 96) (r := 18) wi_D_expression_96 rfl), rfl⟩
theorem dD_expression_115 : dl tD_expression 115 .iload_n .iload 3 116 := Or.inl ⟨3, o_29 (oW (K := 96) (r := 19) wi_D_expression_96 rfl), rfl, rfl⟩
theorem dD_expression_116 : dn tD_expression 116 (.bipush 43) 2 118 := ⟨o_16 43 43 (oWd (K := 96) (r := 20) wi_D_expression_96 rfl), rfl⟩
theorem dD_expression_118 : db tD_expression 118 (.if_icmp .ne) 125 121 := ⟨7, o_160 0 7 7 (oWd (K := 96) (r := 22) wi_D_expression_96 rfl), rfl, rfl⟩
theorem dD_expression_121 : dn tD_expression 121 (.iconst 2) 1 122 := ⟨o_5 (oW (K := 96) (r := 25) wi_D_expression_96 rfl), rfl⟩
theorem dD_expression_122 : db tD_expression 122 .goto 126 125 := ⟨4, o_167 0 4 4 (oWd (K := 96) (r := 26) wi_D_expression_96 rfl), rfl, rfl⟩
theorem dD_expression_125 : dn tD_expression 125 (.iconst 3) 1 126 := ⟨o_6 (oW (K := 96) (r := 29) wi_D_expression_96 rfl), rfl⟩
theorem dD_expression_126 : dl tD_expression 126 .istore_n .istore 1 127 := Or.inl ⟨1, o_60 (oW (K := 96) (r := 30) wi_D_expression_96 rfl), rfl, rfl⟩
theorem dD_expression_127 : dl tD_expression 127 .aload_n .aload 0 128 := Or.inl ⟨0, o_42 (oW (K := 96) (r := 31) wi_D_expression_96 rfl), rfl, rfl⟩
def wl_D_expression_128 : List Nat := [182, 0, 116, 154, 0, 5, 3, 172, 29, 16, 42, 160, 0, 10, 42, 7, 3, 182, 0, 124, 87, 132, 2, 1, 167, 255, 117, 27, 2, 159, 0, 12, 42, 27, 3, 182, 0, 124]
theorem wi_D_expression_128 : oC tD_expression.2.1 128 wl_D_expression_128 = true := by decide +kernel
theorem dD_expression_128 : dn tD_expression 128 (.invokevirtual 116) 3 131 := ⟨o_182 0 116 116 (oWd (K := 128) (r := 0) wi_D_expression_128 rfl), rfl⟩
theorem dD_expression_131 : db tD_expression 131 (.ifCond .ne) 136 134 := ⟨5, o_154 0 5 5 (oWd (K := 128) (r := 3) wi_D_expression_128 rfl), rfl, rfl⟩
theorem dD_expression_134 : dn tD_expression 134 (.iconst 0) 1 135 := ⟨o_3 (oW (K := 128) (r := 6) wi_D_expression_128 rfl), rfl⟩
theorem dD_expression_135 : dn tD_expression 135 (.ireturn) 1 136 := ⟨o_172 (oW (K := 128) (r := 7) wi_D_expression_128 rfl), rfl⟩
theorem dD_expression_136 : dl tD_expression 136 .iload_n .iload 3 137 := Or.inl ⟨3, o_29 (oW (K := 128) (r := 8) wi_D_expression_128 rfl), rfl, rfl⟩
theorem dD_expression_137 : dn tD_expression 137 (.bipush 42) 2 139 := ⟨o_16 42 42 (oWd (K := 128) (r := 9) wi_D_expression_128 rfl), rfl⟩
theorem dD_expression_139 : db tD_expression 139 (.if_icmp .ne) 149 142 := ⟨10, o_160 0 10 10 (oWd (K := 128) (r := 11) wi_D_expression_128 rfl), rfl, rfl⟩
theorem dD_expression_142 : dl tD_expression 142 .aload_n .aload 0 143 := Or.inl ⟨0, o_42 (oW (K := 128) (r := 14) wi_D_expression_128 rfl), rfl, rfl⟩
theorem dD_expression_143 : dn tD_expression 143 (.iconst 4) 1 144 := ⟨o_7 (oW (K := 128) (r := 15) wi_D_expression_128 rfl), rfl⟩
theorem dD_expression_144 : dn tD_expression 144 (.iconst 0) 1 145 := ⟨o_3 (oW (K := 128) (r := 16) wi_D_expression_128 rfl), rfl⟩
theorem dD_expression_145 : dn tD_expression 145 (.invokevirtual 124) 3 148 := ⟨o_182 0 124 124 (oWd (K := 128) (r := 17) wi_D_expression_128 rfl), rfl⟩
theorem dD_expression_148 : dn tD_expression 148 (.pop) 1 149 := ⟨o_87 (oW (K := 128) (r := 20) wi_D_expression_128 rfl), rfl⟩
theorem dD_expression_149 : dn tD_expression 149 (.iinc 2 1) 3 152 := ⟨o_132 2 1 1 (oWd (K := 128) (r := 21) wi_D_expression_128 rfl), rfl⟩
theorem dD_expression_152 : db tD_expression 152 .goto 13 155 := ⟨-139, o_167 255 117 (-139) (oWd (K := 128) (r := 24) wi_D_expression_128 rfl), rfl, rfl⟩
theorem dD_expression_155 : dl tD_expression 155 .iload_n .iload 1 156 := Or.inl ⟨1, o_27 (oW (K := 128) (r := 27) wi_D_expression_128 rfl), rfl, rfl⟩
theorem dD_expression_156 : dn tD_expression 156 (.iconst (-1)) 1 157 := ⟨o_2 (oW (K := 128) (r := 28) wi_D_expression_128 rfl), rfl⟩
theorem dD_expression_157 : db tD_expression 157 (.if_icmp .eq) 169 160 := ⟨12, o_159 0 12 12 (oWd (K := 128) (r := 29) wi_D_expression_128 rfl), rfl, rfl⟩
def wl_D_expression_160 : List Nat := [42, 27, 3, 182, 0, 124, 153, 0, 7, 4, 167, 0, 4, 3, 172]
theorem wi_D_expression_160 : oC tD_expression.2.1 160 wl_D_expression_160 = true := by decide +kernel
theorem dD_expression_160 : dl tD_expression 160 .aload_n .aload 0 161 := Or.inl ⟨0, o_42 (oW (K := 160) (r := 0) wi_D_expression_160 rfl), rfl, rfl⟩
theorem dD_expression_161 : dl tD_expression 161 .iload_n .iload 1 162 := Or.inl ⟨1, o_27 (oW (K := 160) (r := 1) wi_D_expression_160 rfl), rfl, rfl⟩
theorem dD_expression_162 : dn tD_expression 162 (.iconst 0) 1 163 := ⟨o_3 (oW (K := 160) (r := 2) wi_D_expression_160 rfl), rfl⟩
theorem dD_expression_163 : dn tD_expression 163 (.invokevirtual 124) 3 166 := ⟨o_182 0 124 124 (oWd (K := 160) (r := 3) wi_D_expression_160 rfl), rfl⟩
theorem dD_expression_166 : db tD_expression 166 (.ifCond .eq) 173 169 := ⟨7, o_153 0 7 7 (oWd (K := 160) (r := 6) wi_D_expression_160 rfl), rfl, rfl⟩
theorem dD_expression_169 : dn tD_expression 169 (.iconst 1) 1 170 := ⟨o_4 (oW (K := 160) (r := 9) wi_D_expression_160 rfl), rfl⟩
theorem dD_expression_170 : db tD_expression 170 .goto 174 173 := ⟨4, o_167 0 4 4 (oWd (K := 160) (r := 10) wi_D_expression_160 rfl), rfl, rfl⟩
theorem dD_expression_173 : dn tD_expression 173 (.iconst 0) 1 174 := ⟨o_3 (oW (K := 160) (r := 13) wi_D_expression_160 rfl), rfl⟩
theorem dD_expression_174 : dn tD_expression 174 (.ireturn) 1 175 := ⟨o_172 (oW (K := 160) (r := 14) wi_D_expression_160 rfl), rfl⟩
def wl_D_unit_0 : List Nat := [42, 180, 0, 57, 5, 160, 0, 22, 42, 180, 0, 22, 3, 42, 180, 0, 60, 3, 3, 3, 182, 0, 101, 87, 167, 0, 48, 42, 180, 0, 57, 4, 160, 0, 34, 42, 180, 0]
theorem wi_D_unit_0 : oC tD_unit.2.1 0 wl_D_unit_0 = true := by decide +kernel
theorem dD_unit_0 : dl tD_unit 0 .aload_n .aload 0 1 := Or.inl ⟨0, o_42 (oW (K := 0) (r := 0) wi_D_unit_0 rfl), rfl, rfl⟩
theorem dD_unit_1 : dn tD_unit 1 (.getfield 57) 3 4 := ⟨o_180 0 57 57 (oWd (K := 0) (r := 1) wi_D_unit_0 rfl), rfl⟩
theorem dD_unit_4 : dn tD_unit 4 (.iconst 2) 1 5 := ⟨o_5 (oW (K := 0) (r := 4) wi_D_unit_0 rfl), rfl⟩
theorem dD_unit_5 : db tD_unit 5 (.if_icmp .ne) 27 8 := ⟨22, o_160 0 22 22 (oWd (K := 0) (r := 5) wi_D_unit_0 rfl), rfl, rfl⟩
theorem dD_unit_8 : dl tD_unit 8 .aload_n .aload 0 9 := Or.inl ⟨0, o_42 (oW (K := 0) (r := 8) wi_D_unit_0 rfl), rfl, rfl⟩
theorem dD_unit_9 : dn tD_unit 9 (.getfield 22) 3 12 := ⟨o_180 0 22 22 (oWd (K := 0) (r := 9) wi_D_unit_0 rfl), rfl⟩
theorem dD_unit_12 : dn tD_unit 12 (.iconst 0) 1 13 := ⟨o_3 (oW (K := 0) (r := 12) wi_D_unit_0 rfl), rfl⟩
theorem dD_unit_13 : dl tD_unit 13 .aload_n .aload 0 14 := Or.inl ⟨0, o_42 (oW (K := 0) (r := 13) wi_D_unit_0 rfl), rfl, rfl⟩
theorem dD_unit_14 : dn tD_unit 14 (.getfield 60) 3 17 := ⟨o_180 0 60 60 (oWd (K := 0) (r := 14) wi_D_unit_0 rfl), rfl⟩
theorem dD_unit_17 : dn tD_unit 17 (.iconst 0) 1 18 := ⟨o_3 (oW (K := 0) (r := 17) wi_D_unit_0 rfl), rfl⟩
theorem dD_unit_18 : dn tD_unit 18 (.iconst 0) 1 19 := ⟨o_3 (oW (K := 0) (r := 18) wi_D_unit_0 rfl), rfl⟩
theorem dD_unit_19 : dn tD_unit 19 (.iconst 0) 1 20 := ⟨o_3 (oW (K := 0) (r := 19) wi_D_unit_0 rfl), rfl⟩
theorem dD_unit_20 : dn tD_unit 20 (.invokevirtual 101) 3 23 := ⟨o_182 0 101 101 (oWd (K := 0) (r := 20) wi_D_unit_0 rfl), rfl⟩
theorem dD_unit_23 : dn tD_unit 23 (.pop) 1 24 := ⟨o_87 (oW (K := 0) (r := 23) wi_D_unit_0 rfl), rfl⟩
theorem dD_unit_24 : db tD_unit 24 .goto 72 27 := ⟨48, o_167 0 48 48 (oWd (K := 0) (r := 24) wi_D_unit_0 rfl), rfl, rfl⟩
theorem dD_unit_27 : dl tD_unit 27 .aload_n .aload 0 28 := Or.inl ⟨0, o_42 (oW (K := 0) (r := 27) wi_D_unit_0 rfl), rfl, rfl⟩
theorem dD_unit_28 : dn tD_unit 28 (.getfield 57) 3 31 := ⟨o_180 0 57 57 (oWd (K := 0) (r := 28) wi_D_unit_0 rfl), rfl⟩
theorem dD_unit_31 : dn tD_unit 31 (.iconst 1) 1 32 := ⟨o_4 (oW (K := 0) (r := 31) wi_D_unit_0 rfl), rfl⟩
def wl_D_unit_32 : List Nat := [160, 0, 34, 42, 180, 0, 60, 16, 7, 161, 0, 25, 42, 180, 0, 22, 4, 42, 180, 0, 60, 16, 7, 100, 3, 3, 3, 182, 0, 101, 87, 167, 0, 9, 42, 4, 182, 0]
theorem wi_D_unit_32 : oC tD_unit.2.1 32 wl_D_unit_32 = true := by decide +kernel
theorem dD_unit_32 : db tD_unit 32 (.if_icmp .ne) 66 35 := ⟨34, o_160 0 34 34 (oWd (K := 32) (r := 0) wi_D_unit_32 rfl), rfl, rfl⟩
theorem dD_unit_35 : dl tD_unit 35 .aload_n .aload 0 36 := Or.inl ⟨0, o_42 (oW (K := 32) (r := 3) wi_D_unit_32 rfl), rfl, rfl⟩
theorem dD_unit_36 : dn tD_unit 36 (.getfield 60) 3 39 := ⟨o_180 0 60 60 (oWd (K := 32) (r := 4) wi_D_unit_32 rfl), rfl⟩
theorem dD_unit_39 : dn tD_unit 39 (.bipush 7) 2 41 := ⟨o_16 7 7 (oWd (K := 32) (r := 7) wi_D_unit_32 rfl), rfl⟩
theorem dD_unit_41 : db tD_unit 41 (.if_icmp .lt) 66 44 := ⟨25, o_161 0 25 25 (oWd (K := 32) (r := 9) wi_D_unit_32 rfl), rfl, rfl⟩
theorem dD_unit_44 : dl tD_unit 44 .aload_n .aload 0 45 := Or.inl ⟨0, o_42 (oW (K := 32) (r := 12) wi_D_unit_32 rfl), rfl, rfl⟩
theorem dD_unit_45 : dn tD_unit 45 (.getfield 22) 3 48 := ⟨o_180 0 22 22 (oWd (K := 32) (r := 13) wi_D_unit_32 rfl), rfl⟩
theorem dD_unit_48 : dn tD_unit 48 (.iconst 1) 1 49 := ⟨o_4 (oW (K := 32) (r := 16) wi_D_unit_32 rfl), rfl⟩
theorem dD_unit_49 : dl tD_unit 49 .aload_n .aload 0 50 := Or.inl ⟨0, o_42 (oW (K := 32) (r := 17) wi_D_unit_32 rfl), rfl, rfl⟩
theorem dD_unit_50 : dn tD_unit 50 (.getfield 60) 3 53 := ⟨o_180 0 60 60 (oWd (K := 32) (r := 18) wi_D_unit_32 rfl), rfl⟩
theorem dD_unit_53 : dn tD_unit 53 (.bipush 7) 2 55 := ⟨o_16 7 7 (oWd (K := 32) (r := 21) wi_D_unit_32 rfl), rfl⟩
theorem dD_unit_55 : dn tD_unit 55 (.isub) 1 56 := ⟨o_100 (oW (K := 32) (r := 23) wi_D_unit_32 rfl), rfl⟩
theorem dD_unit_56 : dn tD_unit 56 (.iconst 0) 1 57 := ⟨o_3 (oW (K := 32) (r := 24) wi_D_unit_32 rfl), rfl⟩
theorem dD_unit_57 : dn tD_unit 57 (.iconst 0) 1 58 := ⟨o_3 (oW (K := 32) (r := 25) wi_D_unit_32 rfl), rfl⟩
theorem dD_unit_58 : dn tD_unit 58 (.iconst 0) 1 59 := ⟨o_3 (oW (K := 32) (r := 26) wi_D_unit_32 rfl), rfl⟩
theorem dD_unit_59 : dn tD_unit 59 (.invokevirtual 101) 3 62 := ⟨o_182 0 101 101 (oWd (K := 32) (r := 27) wi_D_unit_32 rfl), rfl⟩
theorem dD_unit_62 : dn tD_unit 62 (.pop) 1 63 := ⟨o_87 (oW (K := 32) (r := 30) wi_D_unit_32 rfl), rfl⟩
theorem dD_unit_63 : db tD_unit 63 .goto 72 66 := ⟨9, o_167 0 9 9 (oWd (K := 32) (r := 31) wi_D_unit_32 rfl), rfl, rfl⟩
def wl_D_unit_64 : List Nat := [0, 9, 42, 4, 182, 0, 63, 172, 42, 182, 0, 54, 4, 172]
theorem wi_D_unit_64 : oC tD_unit.2.1 64 wl_D_unit_64 = true := by decide +kernel
theorem dD_unit_66 : dl tD_unit 66 .aload_n .aload 0 67 := Or.inl ⟨0, o_42 (oW (K := 64) (r := 2) wi_D_unit_64 rfl), rfl, rfl⟩
theorem dD_unit_67 : dn tD_unit 67 (.iconst 1) 1 68 := ⟨o_4 (oW (K := 64) (r := 3) wi_D_unit_64 rfl), rfl⟩
theorem dD_unit_68 : dn tD_unit 68 (.invokevirtual 63) 3 71 := ⟨o_182 0 63 63 (oWd (K := 64) (r := 4) wi_D_unit_64 rfl), rfl⟩
theorem dD_unit_71 : dn tD_unit 71 (.ireturn) 1 72 := ⟨o_172 (oW (K := 64) (r := 7) wi_D_unit_64 rfl), rfl⟩
theorem dD_unit_72 : dl tD_unit 72 .aload_n .aload 0 73 := Or.inl ⟨0, o_42 (oW (K := 64) (r := 8) wi_D_unit_64 rfl), rfl, rfl⟩
theorem dD_unit_73 : dn tD_unit 73 (.invokevirtual 54) 3 76 := ⟨o_182 0 54 54 (oWd (K := 64) (r := 9) wi_D_unit_64 rfl), rfl⟩
theorem dD_unit_76 : dn tD_unit 76 (.iconst 1) 1 77 := ⟨o_4 (oW (K := 64) (r := 12) wi_D_unit_64 rfl), rfl⟩
theorem dD_unit_77 : dn tD_unit 77 (.ireturn) 1 78 := ⟨o_172 (oW (K := 64) (r := 13) wi_D_unit_64 rfl), rfl⟩
def wl_D_condition_0 : List Nat := [2, 61, 42, 27, 182, 0, 127, 154, 0, 5, 3, 172, 3, 62, 29, 17, 1, 144, 162, 0, 79, 42, 7, 182, 0, 91, 154, 0, 11, 42, 8, 182, 0, 91, 153, 0, 63, 42]
theorem wi_D_condition_0 : oC tD_condition.2.1 0 wl_D_condition_0 = true := by decide +kernel
theorem dD_condition_0 : dn tD_condition 0 (.iconst (-1)) 1 1 := ⟨o_2 (oW (K := 0) (r := 0) wi_D_condition_0 rfl), rfl⟩
theorem dD_condition_1 : dl tD_condition 1 .istore_n .istore 2 2 := Or.inl ⟨2, o_61 (oW (K := 0) (r := 1) wi_D_condition_0 rfl), rfl, rfl⟩
theorem dD_condition_2 : dl tD_condition 2 .aload_n .aload 0 3 := Or.inl ⟨0, o_42 (oW (K := 0) (r := 2) wi_D_condition_0 rfl), rfl, rfl⟩
theorem dD_condition_3 : dl tD_condition 3 .iload_n .iload 1 4 := Or.inl ⟨1, o_27 (oW (K := 0) (r := 3) wi_D_condition_0 rfl), rfl, rfl⟩
theorem dD_condition_4 : dn tD_condition 4 (.invokevirtual 127) 3 7 := ⟨o_182 0 127 127 (oWd (K := 0) (r := 4) wi_D_condition_0 rfl), rfl⟩
theorem dD_condition_7 : db tD_condition 7 (.ifCond .ne) 12 10 := ⟨5, o_154 0 5 5 (oWd (K := 0) (r := 7) wi_D_condition_0 rfl), rfl, rfl⟩
theorem dD_condition_10 : dn tD_condition 10 (.iconst 0) 1 11 := ⟨o_3 (oW (K := 0) (r := 10) wi_D_condition_0 rfl), rfl⟩
theorem dD_condition_11 : dn tD_condition 11 (.ireturn) 1 12 := ⟨o_172 (oW (K := 0) (r := 11) wi_D_condition_0 rfl), rfl⟩
theorem dD_condition_12 : dn tD_condition 12 (.iconst 0) 1 13 := ⟨o_3 (oW (K := 0) (r := 12) wi_D_condition_0 rfl), rfl⟩
theorem dD_condition_13 : dl tD_condition 13 .istore_n .istore 3 14 := Or.inl ⟨3, o_62 (oW (K := 0) (r := 13) wi_D_condition_0 rfl), rfl, rfl⟩
theorem dD_condition_14 : dl tD_condition 14 .iload_n .iload 3 15 := Or.inl ⟨3, o_29 (oW (K := 0) (r := 14) wi_D_condition_0 rfl), rfl, rfl⟩
theorem dD_condition_15 : dn tD_condition 15 (.sipush 400) 3 18 := ⟨o_17 1 144 400 (oWd (K := 0) (r := 15) wi_D_condition_0 rfl), rfl⟩
theorem dD_condition_18 : db tD_condition 18 (.if_icmp .ge) 97 21 := ⟨79, o_162 0 79 79 (oWd (K := 0) (r := 18) wi_D_condition_0 rfl), rfl, rfl⟩
theorem dD_condition_21 : dl tD_condition 21 .aload_n .aload 0 22 := Or.inl ⟨0, o_42 (oW (K := 0) (r := 21) wi_D_condition_0 rfl), rfl, rfl⟩
theorem dD_condition_22 : dn tD_condition 22 (.iconst 4) 1 23 := ⟨o_7 (oW (K := 0) (r := 22) wi_D_condition_0 rfl), rfl⟩
theorem dD_condition_23 : dn tD_condition 23 (.invokevirtual 91) 3 26 := ⟨o_182 0 91 91 (oWd (K := 0) (r := 23) wi_D_condition_0 rfl), rfl⟩
theorem dD_condition_26 : db tD_condition 26 (.ifCond .ne) 37 29 := ⟨11, o_154 0 11 11 (oWd (K := 0) (r := 26) wi_D_condition_0 rfl), rfl, rfl⟩
theorem dD_condition_29 : dl tD_condition 29 .aload_n .aload 0 30 := Or.inl ⟨0, o_42 (oW (K := 0) (r := 29) wi_D_condition_0 rfl), rfl, rfl⟩
theorem dD_condition_30 : dn tD_condition 30 (.iconst 5) 1 31 := ⟨o_8 (oW (K := 0) (r := 30) wi_D_condition_0 rfl), rfl⟩
theorem dD_condition_31 : dn tD_condition 31 (.invokevirtual 91) 3 34 := ⟨o_182 0 91 91 (oWd (K := 0) (r := 31) wi_D_condition_0 rfl), rfl⟩
def wl_D_condition_32 : List Nat := [0, 91, 153, 0, 63, 42, 8, 182, 0, 91, 54, 4, 42, 182, 0, 54, 21, 4, 154, 0, 18, 28, 2, 159, 0, 10, 42, 28, 3, 182, 0, 124, 87, 16, 11, 61, 42, 27]
theorem wi_D_condition_32 : oC tD_condition.2.1 32 wl_D_condition_32 = true := by decide +kernel
theorem dD_condition_34 : db tD_condition 34 (.ifCond .eq) 97 37 := ⟨63, o_153 0 63 63 (oWd (K := 32) (r := 2) wi_D_condition_32 rfl), rfl, rfl⟩
theorem dD_condition_37 : dl tD_condition 37 .aload_n .aload 0 38 := Or.inl ⟨0, o_42 (oW (K := 32) (r := 5) wi_D_condition_32 rfl), rfl, rfl⟩
theorem dD_condition_38 : dn tD_condition 38 (.iconst 5) 1 39 := ⟨o_8 (oW (K := 32) (r := 6) wi_D_condition_32 rfl), rfl⟩
theorem dD_condition_39 : dn tD_condition 39 (.invokevirtual 91) 3 42 := ⟨o_182 0 91 91 (oWd (K := 32) (r := 7) wi_D_condition_32 rfl), rfl⟩
theorem dD_condition_42 : dl tD_condition 42 .istore_n .istore 4 44 := Or.inr ⟨o_54 4 (oW (K := 32) (r := 10) wi_D_condition_32 rfl), rfl⟩
theorem dD_condition_44 : dl tD_condition 44 .aload_n .aload 0 45 := Or.inl ⟨0, o_42 (oW (K := 32) (r := 12) wi_D_condition_32 rfl), rfl, rfl⟩
theorem dD_condition_45 : dn tD_condition 45 (.invokevirtual 54) 3 48 := ⟨o_182 0 54 54 (oWd (K := 32) (r := 13) wi_D_condition_32 rfl), rfl⟩
theorem dD_condition_48 : dl tD_condition 48 .iload_n .iload 4 50 := Or.inr ⟨o_21 4 (oW (K := 32) (r := 16) wi_D_condition_32 rfl), rfl⟩
theorem dD_condition_50 : db tD_condition 50 (.ifCond .ne) 68 53 := ⟨18, o_154 0 18 18 (oWd (K := 32) (r := 18) wi_D_condition_32 rfl), rfl, rfl⟩
theorem dD_condition_53 : dl tD_condition 53 .iload_n .iload 2 54 := Or.inl ⟨2, o_28 (oW (K := 32) (r := 21) wi_D_condition_32 rfl), rfl, rfl⟩
theorem dD_condition_54 : dn tD_condition 54 (.iconst (-1)) 1 55 := ⟨o_2 (oW (K := 32) (r := 22) wi_D_condition_32 rfl), rfl⟩
theorem dD_condition_55 : db tD_condition 55 (.if_icmp .eq) 65 58 := ⟨10, o_159 0 10 10 (oWd (K := 32) (r := 23) wi_D_condition_32 rfl), rfl, rfl⟩
theorem dD_condition_58 : dl tD_condition 58 .aload_n .aload 0 59 := Or.inl ⟨0, o_42 (oW (K := 32) (r := 26) wi_D_condition_32 rfl), rfl, rfl⟩
theorem dD_condition_59 : dl tD_condition 59 .iload_n .iload 2 60 := Or.inl ⟨2, o_28 (oW (K := 32) (r := 27) wi_D_condition_32 rfl), rfl, rfl⟩
theorem dD_condition_60 : dn tD_condition 60 (.iconst 0) 1 61 := ⟨o_3 (oW (K := 32) (r := 28) wi_D_condition_32 rfl), rfl⟩
theorem dD_condition_61 : dn tD_condition 61 (.invokevirtual 124) 3 64 := ⟨o_182 0 124 124 (oWd (K := 32) (r := 29) wi_D_condition_32 rfl), rfl⟩
def wl_D_condition_64 : List Nat := [87, 16, 11, 61, 42, 27, 182, 0, 127, 154, 0, 5, 3, 172, 21, 4, 153, 0, 11, 42, 16, 10, 3, 182, 0, 124, 87, 132, 3, 1, 167, 255, 176, 28, 2, 159, 0, 12]
theorem wi_D_condition_64 : oC tD_condition.2.1 64 wl_D_condition_64 = true := by decide +kernel
theorem dD_condition_64 : dn tD_condition 64 (.pop) 1 65 := ⟨o_87 (oW (K := 64) (r := 0) wi_D_condition_64 rfl), rfl⟩
theorem dD_condition_65 : dn tD_condition 65 (.bipush 11) 2 67 := ⟨o_16 11 11 (oWd (K := 64) (r := 1) wi_D_condition_64 rfl), rfl⟩
theorem dD_condition_67 : dl tD_condition 67 .istore_n .istore 2 68 := Or.inl ⟨2, o_61 (oW (K := 64) (r := 3) wi_D_condition_64 rfl), rfl, rfl⟩
theorem dD_condition_68 : dl tD_condition 68 .aload_n .aload 0 69 := Or.inl ⟨0, o_42 (oW (K := 64) (r := 4) wi_D_condition_64 rfl), rfl, rfl⟩
theorem dD_condition_69 : dl tD_condition 69 .iload_n .iload 1 70 := Or.inl ⟨1, o_27 (oW (K := 64) (r := 5) wi_D_condition_64 rfl), rfl, rfl⟩
theorem dD_condition_70 : dn tD_condition 70 (.invokevirtual 127) 3 73 := ⟨o_182 0 127 127 (oWd (K := 64) (r := 6) wi_D_condition_64 rfl), rfl⟩
theorem dD_condition_73 : db tD_condition 73 (.ifCond .ne) 78 76 := ⟨5, o_154 0 5 5 (oWd (K := 64) (r := 9) wi_D_condition_64 rfl), rfl, rfl⟩
theorem dD_condition_76 : dn tD_condition 76 (.iconst 0) 1 77 := ⟨o_3 (oW (K := 64) (r := 12) wi_D_condition_64 rfl), rfl⟩
theorem dD_condition_77 : dn tD_condition 77 (.ireturn) 1 78 := ⟨o_172 (oW (K := 64) (r := 13) wi_D_condition_64 rfl), rfl⟩
theorem dD_condition_78 : dl tD_condition 78 .iload_n .iload 4 80 := Or.inr ⟨o_21 4 (oW (K := 64) (r := 14) wi_D_condition_64 rfl), rfl⟩
theorem dD_condition_80 : db tD_condition 80 (.ifCond .eq) 91 83 := ⟨11, o_153 0 11 11 (oWd (K := 64) (r := 16) wi_D_condition_64 rfl), rfl, rfl⟩
theorem dD_condition_83 : dl tD_condition 83 .aload_n .aload 0 84 := Or.inl ⟨0, o_42 (oW (K := 64) (r := 19) wi_D_condition_64 rfl), rfl, rfl⟩
theorem dD_condition_84 : dn tD_condition 84 (.bipush 10) 2 86 := ⟨o_16 10 10 (oWd (K := 64) (r := 20) wi_D_condition_64 rfl), rfl⟩
theorem dD_condition_86 : dn tD_condition 86 (.iconst 0) 1 87 := ⟨o_3 (oW (K := 64) (r := 22) wi_D_condition_64 rfl), rfl⟩
theorem dD_condition_87 : dn tD_condition 87 (.invokevirtual 124) 3 90 := ⟨o_182 0 124 124 (oWd (K := 64) (r := 23) wi_D_condition_64 rfl), rfl⟩
theorem dD_condition_90 : dn tD_condition 90 (.pop) 1 91 := ⟨o_87 (oW (K := 64) (r := 26) wi_D_condition_64 rfl), rfl⟩
theorem dD_condition_91 : dn tD_condition 91 (.iinc 3 1) 3 94 := ⟨o_132 3 1 1 (oWd (K := 64) (r := 27) wi_D_condition_64 rfl), rfl⟩
theorem dD_condition_94 : db tD_condition 94 .goto 14 97 := ⟨-80, o_167 255 176 (-80) (oWd (K := 64) (r := 30) wi_D_condition_64 rfl), rfl, rfl⟩
def wl_D_condition_96 : List Nat := [176, 28, 2, 159, 0, 12, 42, 28, 3, 182, 0, 124, 153, 0, 7, 4, 167, 0, 4, 3, 172]
theorem wi_D_condition_96 : oC tD_condition.2.1 96 wl_D_condition_96 = true := by decide +kernel
theorem dD_condition_97 : dl tD_condition 97 .iload_n .iload 2 98 := Or.inl ⟨2, o_28 (oW (K := 96) (r := 1) wi_D_condition_96 rfl), rfl, rfl⟩
theorem dD_condition_98 : dn tD_condition 98 (.iconst (-1)) 1 99 := ⟨o_2 (oW (K := 96) (r := 2) wi_D_condition_96 rfl), rfl⟩
theorem dD_condition_99 : db tD_condition 99 (.if_icmp .eq) 111 102 := ⟨12, o_159 0 12 12 (oWd (K := 96) (r := 3) wi_D_condition_96 rfl), rfl, rfl⟩
theorem dD_condition_102 : dl tD_condition 102 .aload_n .aload 0 103 := Or.inl ⟨0, o_42 (oW (K := 96) (r := 6) wi_D_condition_96 rfl), rfl, rfl⟩
theorem dD_condition_103 : dl tD_condition 103 .iload_n .iload 2 104 := Or.inl ⟨2, o_28 (oW (K := 96) (r := 7) wi_D_condition_96 rfl), rfl, rfl⟩
theorem dD_condition_104 : dn tD_condition 104 (.iconst 0) 1 105 := ⟨o_3 (oW (K := 96) (r := 8) wi_D_condition_96 rfl), rfl⟩
theorem dD_condition_105 : dn tD_condition 105 (.invokevirtual 124) 3 108 := ⟨o_182 0 124 124 (oWd (K := 96) (r := 9) wi_D_condition_96 rfl), rfl⟩
theorem dD_condition_108 : db tD_condition 108 (.ifCond .eq) 115 111 := ⟨7, o_153 0 7 7 (oWd (K := 96) (r := 12) wi_D_condition_96 rfl), rfl, rfl⟩
theorem dD_condition_111 : dn tD_condition 111 (.iconst 1) 1 112 := ⟨o_4 (oW (K := 96) (r := 15) wi_D_condition_96 rfl), rfl⟩
theorem dD_condition_112 : db tD_condition 112 .goto 116 115 := ⟨4, o_167 0 4 4 (oWd (K := 96) (r := 16) wi_D_condition_96 rfl), rfl, rfl⟩
theorem dD_condition_115 : dn tD_condition 115 (.iconst 0) 1 116 := ⟨o_3 (oW (K := 96) (r := 19) wi_D_condition_96 rfl), rfl⟩
theorem dD_condition_116 : dn tD_condition 116 (.ireturn) 1 117 := ⟨o_172 (oW (K := 96) (r := 20) wi_D_condition_96 rfl), rfl⟩
def wl_D_clause_0 : List Nat := [42, 16, 6, 182, 0, 91, 61, 28, 154, 0, 12, 42, 16, 40, 182, 0, 119, 153, 0, 74, 27, 16, 8, 161, 0, 9, 42, 6, 182, 0, 63, 172, 42, 182, 0, 54, 28, 154]
theorem wi_D_clause_0 : oC tD_clause.2.1 0 wl_D_clause_0 = true := by decide +kernel
theorem dD_clause_0 : dl tD_clause 0 .aload_n .aload 0 1 := Or.inl ⟨0, o_42 (oW (K := 0) (r := 0) wi_D_clause_0 rfl), rfl, rfl⟩
theorem dD_clause_1 : dn tD_clause 1 (.bipush 6) 2 3 := ⟨o_16 6 6 (oWd (K := 0) (r := 1) wi_D_clause_0 rfl), rfl⟩
theorem dD_clause_3 : dn tD_clause 3 (.invokevirtual 91) 3 6 := ⟨o_182 0 91 91 (oWd (K := 0) (r := 3) wi_D_clause_0 rfl), rfl⟩
theorem dD_clause_6 : dl tD_clause 6 .istore_n .istore 2 7 := Or.inl ⟨2, o_61 (oW (K := 0) (r := 6) wi_D_clause_0 rfl), rfl, rfl⟩
theorem dD_clause_7 : dl tD_clause 7 .iload_n .iload 2 8 := Or.inl ⟨2, o_28 (oW (K := 0) (r := 7) wi_D_clause_0 rfl), rfl, rfl⟩
theorem dD_clause_8 : db tD_clause 8 (.ifCond .ne) 20 11 := ⟨12, o_154 0 12 12 (oWd (K := 0) (r := 8) wi_D_clause_0 rfl), rfl, rfl⟩
theorem dD_clause_11 : dl tD_clause 11 .aload_n .aload 0 12 := Or.inl ⟨0, o_42 (oW (K := 0) (r := 11) wi_D_clause_0 rfl), rfl, rfl⟩
theorem dD_clause_12 : dn tD_clause 12 (.bipush 40) 2 14 := ⟨o_16 40 40 (oWd (K := 0) (r := 12) wi_D_clause_0 rfl), rfl⟩
theorem dD_clause_14 : dn tD_clause 14 (.invokevirtual 119) 3 17 := ⟨o_182 0 119 119 (oWd (K := 0) (r := 14) wi_D_clause_0 rfl), rfl⟩
theorem dD_clause_17 : db tD_clause 17 (.ifCond .eq) 91 20 := ⟨74, o_153 0 74 74 (oWd (K := 0) (r := 17) wi_D_clause_0 rfl), rfl, rfl⟩
theorem dD_clause_20 : dl tD_clause 20 .iload_n .iload 1 21 := Or.inl ⟨1, o_27 (oW (K := 0) (r := 20) wi_D_clause_0 rfl), rfl, rfl⟩
theorem dD_clause_21 : dn tD_clause 21 (.bipush 8) 2 23 := ⟨o_16 8 8 (oWd (K := 0) (r := 21) wi_D_clause_0 rfl), rfl⟩
theorem dD_clause_23 : db tD_clause 23 (.if_icmp .lt) 32 26 := ⟨9, o_161 0 9 9 (oWd (K := 0) (r := 23) wi_D_clause_0 rfl), rfl, rfl⟩
theorem dD_clause_26 : dl tD_clause 26 .aload_n .aload 0 27 := Or.inl ⟨0, o_42 (oW (K := 0) (r := 26) wi_D_clause_0 rfl), rfl, rfl⟩
theorem dD_clause_27 : dn tD_clause 27 (.iconst 3) 1 28 := ⟨o_6 (oW (K := 0) (r := 27) wi_D_clause_0 rfl), rfl⟩
theorem dD_clause_28 : dn tD_clause 28 (.invokevirtual 63) 3 31 := ⟨o_182 0 63 63 (oWd (K := 0) (r := 28) wi_D_clause_0 rfl), rfl⟩
theorem dD_clause_31 : dn tD_clause 31 (.ireturn) 1 32 := ⟨o_172 (oW (K := 0) (r := 31) wi_D_clause_0 rfl), rfl⟩
def wl_D_clause_32 : List Nat := [42, 182, 0, 54, 28, 154, 0, 28, 42, 27, 4, 96, 182, 0, 94, 153, 0, 16, 42, 16, 41, 182, 0, 97, 153, 0, 7, 4, 167, 0, 4, 3, 172, 42, 27, 4, 96, 182]
theorem wi_D_clause_32 : oC tD_clause.2.1 32 wl_D_clause_32 = true := by decide +kernel
theorem dD_clause_32 : dl tD_clause 32 .aload_n .aload 0 33 := Or.inl ⟨0, o_42 (oW (K := 32) (r := 0) wi_D_clause_32 rfl), rfl, rfl⟩
theorem dD_clause_33 : dn tD_clause 33 (.invokevirtual 54) 3 36 := ⟨o_182 0 54 54 (oWd (K := 32) (r := 1) wi_D_clause_32 rfl), rfl⟩
theorem dD_clause_36 : dl tD_clause 36 .iload_n .iload 2 37 := Or.inl ⟨2, o_28 (oW (K := 32) (r := 4) wi_D_clause_32 rfl), rfl, rfl⟩
theorem dD_clause_37 : db tD_clause 37 (.ifCond .ne) 65 40 := ⟨28, o_154 0 28 28 (oWd (K := 32) (r := 5) wi_D_clause_32 rfl), rfl, rfl⟩
theorem dD_clause_40 : dl tD_clause 40 .aload_n .aload 0 41 := Or.inl ⟨0, o_42 (oW (K := 32) (r := 8) wi_D_clause_32 rfl), rfl, rfl⟩
theorem dD_clause_41 : dl tD_clause 41 .iload_n .iload 1 42 := Or.inl ⟨1, o_27 (oW (K := 32) (r := 9) wi_D_clause_32 rfl), rfl, rfl⟩
theorem dD_clause_42 : dn tD_clause 42 (.iconst 1) 1 43 := ⟨o_4 (oW (K := 32) (r := 10) wi_D_clause_32 rfl), rfl⟩
theorem dD_clause_43 : dn tD_clause 43 (.iadd) 1 44 := ⟨o_96 (oW (K := 32) (r := 11) wi_D_clause_32 rfl), rfl⟩
theorem dD_clause_44 : dn tD_clause 44 (.invokevirtual 94) 3 47 := ⟨o_182 0 94 94 (oWd (K := 32) (r := 12) wi_D_clause_32 rfl), rfl⟩
theorem dD_clause_47 : db tD_clause 47 (.ifCond .eq) 63 50 := ⟨16, o_153 0 16 16 (oWd (K := 32) (r := 15) wi_D_clause_32 rfl), rfl, rfl⟩
theorem dD_clause_50 : dl tD_clause 50 .aload_n .aload 0 51 := Or.inl ⟨0, o_42 (oW (K := 32) (r := 18) wi_D_clause_32 rfl), rfl, rfl⟩
theorem dD_clause_51 : dn tD_clause 51 (.bipush 41) 2 53 := ⟨o_16 41 41 (oWd (K := 32) (r := 19) wi_D_clause_32 rfl), rfl⟩
theorem dD_clause_53 : dn tD_clause 53 (.invokevirtual 97) 3 56 := ⟨o_182 0 97 97 (oWd (K := 32) (r := 21) wi_D_clause_32 rfl), rfl⟩
theorem dD_clause_56 : db tD_clause 56 (.ifCond .eq) 63 59 := ⟨7, o_153 0 7 7 (oWd (K := 32) (r := 24) wi_D_clause_32 rfl), rfl, rfl⟩
theorem dD_clause_59 : dn tD_clause 59 (.iconst 1) 1 60 := ⟨o_4 (oW (K := 32) (r := 27) wi_D_clause_32 rfl), rfl⟩
theorem dD_clause_60 : db tD_clause 60 .goto 64 63 := ⟨4, o_167 0 4 4 (oWd (K := 32) (r := 28) wi_D_clause_32 rfl), rfl, rfl⟩
theorem dD_clause_63 : dn tD_clause 63 (.iconst 0) 1 64 := ⟨o_3 (oW (K := 32) (r := 31) wi_D_clause_32 rfl), rfl⟩
def wl_D_clause_64 : List Nat := [172, 42, 27, 4, 96, 182, 0, 127, 153, 0, 17, 42, 16, 9, 3, 182, 0, 124, 153, 0, 7, 4, 167, 0, 4, 3, 172, 42, 182, 0, 88, 154, 0, 5, 3, 172, 42, 180]
theorem wi_D_clause_64 : oC tD_clause.2.1 64 wl_D_clause_64 = true := by decide +kernel
theorem dD_clause_64 : dn tD_clause 64 (.ireturn) 1 65 := ⟨o_172 (oW (K := 64) (r := 0) wi_D_clause_64 rfl), rfl⟩
theorem dD_clause_65 : dl tD_clause 65 .aload_n .aload 0 66 := Or.inl ⟨0, o_42 (oW (K := 64) (r := 1) wi_D_clause_64 rfl), rfl, rfl⟩
theorem dD_clause_66 : dl tD_clause 66 .iload_n .iload 1 67 := Or.inl ⟨1, o_27 (oW (K := 64) (r := 2) wi_D_clause_64 rfl), rfl, rfl⟩
theorem dD_clause_67 : dn tD_clause 67 (.iconst 1) 1 68 := ⟨o_4 (oW (K := 64) (r := 3) wi_D_clause_64 rfl), rfl⟩
theorem dD_clause_68 : dn tD_clause 68 (.iadd) 1 69 := ⟨o_96 (oW (K := 64) (r := 4) wi_D_clause_64 rfl), rfl⟩
theorem dD_clause_69 : dn tD_clause 69 (.invokevirtual 127) 3 72 := ⟨o_182 0 127 127 (oWd (K := 64) (r := 5) wi_D_clause_64 rfl), rfl⟩
theorem dD_clause_72 : db tD_clause 72 (.ifCond .eq) 89 75 := ⟨17, o_153 0 17 17 (oWd (K := 64) (r := 8) wi_D_clause_64 rfl), rfl, rfl⟩
theorem dD_clause_75 : dl tD_clause 75 .aload_n .aload 0 76 := Or.inl ⟨0, o_42 (oW (K := 64) (r := 11) wi_D_clause_64 rfl), rfl, rfl⟩
theorem dD_clause_76 : dn tD_clause 76 (.bipush 9) 2 78 := ⟨o_16 9 9 (oWd (K := 64) (r := 12) wi_D_clause_64 rfl), rfl⟩
theorem dD_clause_78 : dn tD_clause 78 (.iconst 0) 1 79 := ⟨o_3 (oW (K := 64) (r := 14) wi_D_clause_64 rfl), rfl⟩
theorem dD_clause_79 : dn tD_clause 79 (.invokevirtual 124) 3 82 := ⟨o_182 0 124 124 (oWd (K := 64) (r := 15) wi_D_clause_64 rfl), rfl⟩
theorem dD_clause_82 : db tD_clause 82 (.ifCond .eq) 89 85 := ⟨7, o_153 0 7 7 (oWd (K := 64) (r := 18) wi_D_clause_64 rfl), rfl, rfl⟩
theorem dD_clause_85 : dn tD_clause 85 (.iconst 1) 1 86 := ⟨o_4 (oW (K := 64) (r := 21) wi_D_clause_64 rfl), rfl⟩
theorem dD_clause_86 : db tD_clause 86 .goto 90 89 := ⟨4, o_167 0 4 4 (oWd (K := 64) (r := 22) wi_D_clause_64 rfl), rfl, rfl⟩
theorem dD_clause_89 : dn tD_clause 89 (.iconst 0) 1 90 := ⟨o_3 (oW (K := 64) (r := 25) wi_D_clause_64 rfl), rfl⟩
theorem dD_clause_90 : dn tD_clause 90 (.ireturn) 1 91 := ⟨o_172 (oW (K := 64) (r := 26) wi_D_clause_64 rfl), rfl⟩
theorem dD_clause_91 : dl tD_clause 91 .aload_n .aload 0 92 := Or.inl ⟨0, o_42 (oW (K := 64) (r := 27) wi_D_clause_64 rfl), rfl, rfl⟩
theorem dD_clause_92 : dn tD_clause 92 (.invokevirtual 88) 3 95 := ⟨o_182 0 88 88 (oWd (K := 64) (r := 28) wi_D_clause_64 rfl), rfl⟩
theorem dD_clause_95 : db tD_clause 95 (.ifCond .ne) 100 98 := ⟨5, o_154 0 5 5 (oWd (K := 64) (r := 31) wi_D_clause_64 rfl), rfl, rfl⟩
def wl_D_clause_96 : List Nat := [0, 5, 3, 172, 42, 180, 0, 60, 62, 42, 16, 60, 182, 0, 119, 154, 0, 27, 42, 16, 61, 182, 0, 119, 154, 0, 18, 42, 16, 62, 182, 0, 119, 154, 0, 9, 42, 4]
theorem wi_D_clause_96 : oC tD_clause.2.1 96 wl_D_clause_96 = true := by decide +kernel
theorem dD_clause_98 : dn tD_clause 98 (.iconst 0) 1 99 := ⟨o_3 (oW (K := 96) (r := 2) wi_D_clause_96 rfl), rfl⟩
theorem dD_clause_99 : dn tD_clause 99 (.ireturn) 1 100 := ⟨o_172 (oW (K := 96) (r := 3) wi_D_clause_96 rfl), rfl⟩
theorem dD_clause_100 : dl tD_clause 100 .aload_n .aload 0 101 := Or.inl ⟨0, o_42 (oW (K := 96) (r := 4) wi_D_clause_96 rfl), rfl, rfl⟩
theorem dD_clause_101 : dn tD_clause 101 (.getfield 60) 3 104 := ⟨o_180 0 60 60 (oWd (K := 96) (r := 5) wi_D_clause_96 rfl), rfl⟩
theorem dD_clause_104 : dl tD_clause 104 .istore_n .istore 3 105 := Or.inl ⟨3, o_62 (oW (K := 96) (r := 8) wi_D_clause_96 rfl), rfl, rfl⟩
theorem dD_clause_105 : dl tD_clause 105 .aload_n .aload 0 106 := Or.inl ⟨0, o_42 (oW (K := 96) (r := 9) wi_D_clause_96 rfl), rfl, rfl⟩
theorem dD_clause_106 : dn tD_clause 106 (.bipush 60) 2 108 := ⟨o_16 60 60 (oWd (K := 96) (r := 10) wi_D_clause_96 rfl), rfl⟩
theorem dD_clause_108 : dn tD_clause 108 (.invokevirtual 119) 3 111 := ⟨o_182 0 119 119 (oWd (K := 96) (r := 12) wi_D_clause_96 rfl), rfl⟩
theorem dD_clause_111 : db tD_clause 111 (.ifCond .ne) 138 114 := ⟨27, o_154 0 27 27 (oWd (K := 96) (r := 15) wi_D_clause_96 rfl), rfl, rfl⟩
theorem dD_clause_114 : dl tD_clause 114 .aload_n .aload 0 115 := Or.inl ⟨0, o_42 (oW (K := 96) (r := 18) wi_D_clause_96 rfl), rfl, rfl⟩
theorem dD_clause_115 : dn tD_clause 115 (.bipush 61) 2 117 := ⟨o_16 61 61 (oWd (K := 96) (r := 19) wi_D_clause_96 rfl), rfl⟩
theorem dD_clause_117 : dn tD_clause 117 (.invokevirtual 119) 3 120 := ⟨o_182 0 119 119 (oWd (K := 96) (r := 21) wi_D_clause_96 rfl), rfl⟩
theorem dD_clause_120 : db tD_clause 120 (.ifCond .ne) 138 123 := ⟨18, o_154 0 18 18 (oWd (K := 96) (r := 24) wi_D_clause_96 rfl), rfl, rfl⟩
theorem dD_clause_123 : dl tD_clause 123 .aload_n .aload 0 124 := Or.inl ⟨0, o_42 (oW (K := 96) (r := 27) wi_D_clause_96 rfl), rfl, rfl⟩
theorem dD_clause_124 : dn tD_clause 124 (.bipush 62) 2 126 := ⟨o_16 62 62 (oWd (K := 96) (r := 28) wi_D_clause_96 rfl), rfl⟩
theorem dD_clause_126 : dn tD_clause 126 (.invokevirtual 119) 3 129 := ⟨o_182 0 119 119 (oWd (K := 96) (r := 30) wi_D_clause_96 rfl), rfl⟩
def wl_D_clause_128 : List Nat := [119, 154, 0, 9, 42, 4, 182, 0, 63, 172, 42, 182, 0, 54, 42, 182, 0, 88, 153, 0, 39, 42, 29, 16, 60, 160, 0, 8, 16, 6, 167, 0, 16, 29, 16, 61, 160, 0]
theorem wi_D_clause_128 : oC tD_clause.2.1 128 wl_D_clause_128 = true := by decide +kernel
theorem dD_clause_129 : db tD_clause 129 (.ifCond .ne) 138 132 := ⟨9, o_154 0 9 9 (oWd (K := 128) (r := 1) wi_D_clause_128 rfl), rfl, rfl⟩
theorem dD_clause_132 : dl tD_clause 132 .aload_n .aload 0 133 := Or.inl ⟨0, o_42 (oW (K := 128) (r := 4) wi_D_clause_128 rfl), rfl, rfl⟩
theorem dD_clause_133 : dn tD_clause 133 (.iconst 1) 1 134 := ⟨o_4 (oW (K := 128) (r := 5) wi_D_clause_128 rfl), rfl⟩
theorem dD_clause_134 : dn tD_clause 134 (.invokevirtual 63) 3 137 := ⟨o_182 0 63 63 (oWd (K := 128) (r := 6) wi_D_clause_128 rfl), rfl⟩
theorem dD_clause_137 : dn tD_clause 137 (.ireturn) 1 138 := ⟨o_172 (oW (K := 128) (r := 9) wi_D_clause_128 rfl), rfl⟩
theorem dD_clause_138 : dl tD_clause 138 .aload_n .aload 0 139 := Or.inl ⟨0, o_42 (oW (K := 128) (r := 10) wi_D_clause_128 rfl), rfl, rfl⟩
theorem dD_clause_139 : dn tD_clause 139 (.invokevirtual 54) 3 142 := ⟨o_182 0 54 54 (oWd (K := 128) (r := 11) wi_D_clause_128 rfl), rfl⟩
theorem dD_clause_142 : dl tD_clause 142 .aload_n .aload 0 143 := Or.inl ⟨0, o_42 (oW (K := 128) (r := 14) wi_D_clause_128 rfl), rfl, rfl⟩
theorem dD_clause_143 : dn tD_clause 143 (.invokevirtual 88) 3 146 := ⟨o_182 0 88 88 (oWd (K := 128) (r := 15) wi_D_clause_128 rfl), rfl⟩
theorem dD_clause_146 : db tD_clause 146 (.ifCond .eq) 185 149 := ⟨39, o_153 0 39 39 (oWd (K := 128) (r := 18) wi_D_clause_128 rfl), rfl, rfl⟩
theorem dD_clause_149 : dl tD_clause 149 .aload_n .aload 0 150 := Or.inl ⟨0, o_42 (oW (K := 128) (r := 21) wi_D_clause_128 rfl), rfl, rfl⟩
theorem dD_clause_150 : dl tD_clause 150 .iload_n .iload 3 151 := Or.inl ⟨3, o_29 (oW (K := 128) (r := 22) wi_D_clause_128 rfl), rfl, rfl⟩
theorem dD_clause_151 : dn tD_clause 151 (.bipush 60) 2 153 := ⟨o_16 60 60 (oWd (K := 128) (r := 23) wi_D_clause_128 rfl), rfl⟩
theorem dD_clause_153 : db tD_clause 153 (.if_icmp .ne) 161 156 := ⟨8, o_160 0 8 8 (oWd (K := 128) (r := 25) wi_D_clause_128 rfl), rfl, rfl⟩
theorem dD_clause_156 : dn tD_clause 156 (.bipush 6) 2 158 := ⟨o_16 6 6 (oWd (K := 128) (r := 28) wi_D_clause_128 rfl), rfl⟩
theorem dD_clause_158 : db tD_clause 158 .goto 174 161 := ⟨16, o_167 0 16 16 (oWd (K := 128) (r := 30) wi_D_clause_128 rfl), rfl, rfl⟩
def wl_D_clause_160 : List Nat := [16, 29, 16, 61, 160, 0, 8, 16, 7, 167, 0, 5, 16, 8, 3, 182, 0, 124, 153, 0, 7, 4, 167, 0, 4, 3, 172]
theorem wi_D_clause_160 : oC tD_clause.2.1 160 wl_D_clause_160 = true := by decide +kernel
theorem dD_clause_161 : dl tD_clause 161 .iload_n .iload 3 162 := Or.inl ⟨3, o_29 (oW (K := 160) (r := 1) wi_D_clause_160 rfl), rfl, rfl⟩
theorem dD_clause_162 : dn tD_clause 162 (.bipush 61) 2 164 := ⟨o_16 61 61 (oWd (K := 160) (r := 2) wi_D_clause_160 rfl), rfl⟩
theorem dD_clause_164 : db tD_clause 164 (.if_icmp .ne) 172 167 := ⟨8, o_160 0 8 8 (oWd (K := 160) (r := 4) wi_D_clause_160 rfl), rfl, rfl⟩
theorem dD_clause_167 : dn tD_clause 167 (.bipush 7) 2 169 := ⟨o_16 7 7 (oWd (K := 160) (r := 7) wi_D_clause_160 rfl), rfl⟩
theorem dD_clause_169 : db tD_clause 169 .goto 174 172 := ⟨5, o_167 0 5 5 (oWd (K := 160) (r := 9) wi_D_clause_160 rfl), rfl, rfl⟩
theorem dD_clause_172 : dn tD_clause 172 (.bipush 8) 2 174 := ⟨o_16 8 8 (oWd (K := 160) (r := 12) wi_D_clause_160 rfl), rfl⟩
theorem dD_clause_174 : dn tD_clause 174 (.iconst 0) 1 175 := ⟨o_3 (oW (K := 160) (r := 14) wi_D_clause_160 rfl), rfl⟩
theorem dD_clause_175 : dn tD_clause 175 (.invokevirtual 124) 3 178 := ⟨o_182 0 124 124 (oWd (K := 160) (r := 15) wi_D_clause_160 rfl), rfl⟩
theorem dD_clause_178 : db tD_clause 178 (.ifCond .eq) 185 181 := ⟨7, o_153 0 7 7 (oWd (K := 160) (r := 18) wi_D_clause_160 rfl), rfl, rfl⟩
theorem dD_clause_181 : dn tD_clause 181 (.iconst 1) 1 182 := ⟨o_4 (oW (K := 160) (r := 21) wi_D_clause_160 rfl), rfl⟩
theorem dD_clause_182 : db tD_clause 182 .goto 186 185 := ⟨4, o_167 0 4 4 (oWd (K := 160) (r := 22) wi_D_clause_160 rfl), rfl, rfl⟩
theorem dD_clause_185 : dn tD_clause 185 (.iconst 0) 1 186 := ⟨o_3 (oW (K := 160) (r := 25) wi_D_clause_160 rfl), rfl⟩
theorem dD_clause_186 : dn tD_clause 186 (.ireturn) 1 187 := ⟨o_172 (oW (K := 160) (r := 26) wi_D_clause_160 rfl), rfl⟩
def wl_D_emit_0 : List Nat := [42, 180, 0, 22, 27, 28, 3, 3, 3, 182, 0, 101, 172]
theorem wi_D_emit_0 : oC tD_emit.2.1 0 wl_D_emit_0 = true := by decide +kernel
theorem dD_emit_0 : dl tD_emit 0 .aload_n .aload 0 1 := Or.inl ⟨0, o_42 (oW (K := 0) (r := 0) wi_D_emit_0 rfl), rfl, rfl⟩
theorem dD_emit_1 : dn tD_emit 1 (.getfield 22) 3 4 := ⟨o_180 0 22 22 (oWd (K := 0) (r := 1) wi_D_emit_0 rfl), rfl⟩
theorem dD_emit_4 : dl tD_emit 4 .iload_n .iload 1 5 := Or.inl ⟨1, o_27 (oW (K := 0) (r := 4) wi_D_emit_0 rfl), rfl, rfl⟩
theorem dD_emit_5 : dl tD_emit 5 .iload_n .iload 2 6 := Or.inl ⟨2, o_28 (oW (K := 0) (r := 5) wi_D_emit_0 rfl), rfl, rfl⟩
theorem dD_emit_6 : dn tD_emit 6 (.iconst 0) 1 7 := ⟨o_3 (oW (K := 0) (r := 6) wi_D_emit_0 rfl), rfl⟩
theorem dD_emit_7 : dn tD_emit 7 (.iconst 0) 1 8 := ⟨o_3 (oW (K := 0) (r := 7) wi_D_emit_0 rfl), rfl⟩
theorem dD_emit_8 : dn tD_emit 8 (.iconst 0) 1 9 := ⟨o_3 (oW (K := 0) (r := 8) wi_D_emit_0 rfl), rfl⟩
theorem dD_emit_9 : dn tD_emit 9 (.invokevirtual 101) 3 12 := ⟨o_182 0 101 101 (oWd (K := 0) (r := 9) wi_D_emit_0 rfl), rfl⟩
theorem dD_emit_12 : dn tD_emit 12 (.ireturn) 1 13 := ⟨o_172 (oW (K := 0) (r := 12) wi_D_emit_0 rfl), rfl⟩
def wl_D_takesNumber_0 : List Nat := [42, 180, 0, 57, 5, 159, 0, 9, 42, 4, 182, 0, 63, 172, 42, 180, 0, 60, 27, 28, 184, 0, 112, 154, 0, 9, 42, 5, 182, 0, 63, 172, 42, 42, 180, 0, 60, 181]
theorem wi_D_takesNumber_0 : oC tD_takesNumber.2.1 0 wl_D_takesNumber_0 = true := by decide +kernel
theorem dD_takesNumber_0 : dl tD_takesNumber 0 .aload_n .aload 0 1 := Or.inl ⟨0, o_42 (oW (K := 0) (r := 0) wi_D_takesNumber_0 rfl), rfl, rfl⟩
theorem dD_takesNumber_1 : dn tD_takesNumber 1 (.getfield 57) 3 4 := ⟨o_180 0 57 57 (oWd (K := 0) (r := 1) wi_D_takesNumber_0 rfl), rfl⟩
theorem dD_takesNumber_4 : dn tD_takesNumber 4 (.iconst 2) 1 5 := ⟨o_5 (oW (K := 0) (r := 4) wi_D_takesNumber_0 rfl), rfl⟩
theorem dD_takesNumber_5 : db tD_takesNumber 5 (.if_icmp .eq) 14 8 := ⟨9, o_159 0 9 9 (oWd (K := 0) (r := 5) wi_D_takesNumber_0 rfl), rfl, rfl⟩
theorem dD_takesNumber_8 : dl tD_takesNumber 8 .aload_n .aload 0 9 := Or.inl ⟨0, o_42 (oW (K := 0) (r := 8) wi_D_takesNumber_0 rfl), rfl, rfl⟩
theorem dD_takesNumber_9 : dn tD_takesNumber 9 (.iconst 1) 1 10 := ⟨o_4 (oW (K := 0) (r := 9) wi_D_takesNumber_0 rfl), rfl⟩
theorem dD_takesNumber_10 : dn tD_takesNumber 10 (.invokevirtual 63) 3 13 := ⟨o_182 0 63 63 (oWd (K := 0) (r := 10) wi_D_takesNumber_0 rfl), rfl⟩
theorem dD_takesNumber_13 : dn tD_takesNumber 13 (.ireturn) 1 14 := ⟨o_172 (oW (K := 0) (r := 13) wi_D_takesNumber_0 rfl), rfl⟩
theorem dD_takesNumber_14 : dl tD_takesNumber 14 .aload_n .aload 0 15 := Or.inl ⟨0, o_42 (oW (K := 0) (r := 14) wi_D_takesNumber_0 rfl), rfl, rfl⟩
theorem dD_takesNumber_15 : dn tD_takesNumber 15 (.getfield 60) 3 18 := ⟨o_180 0 60 60 (oWd (K := 0) (r := 15) wi_D_takesNumber_0 rfl), rfl⟩
theorem dD_takesNumber_18 : dl tD_takesNumber 18 .iload_n .iload 1 19 := Or.inl ⟨1, o_27 (oW (K := 0) (r := 18) wi_D_takesNumber_0 rfl), rfl, rfl⟩
theorem dD_takesNumber_19 : dl tD_takesNumber 19 .iload_n .iload 2 20 := Or.inl ⟨2, o_28 (oW (K := 0) (r := 19) wi_D_takesNumber_0 rfl), rfl, rfl⟩
theorem dD_takesNumber_20 : dn tD_takesNumber 20 (.invokestatic 112) 3 23 := ⟨o_184 0 112 112 (oWd (K := 0) (r := 20) wi_D_takesNumber_0 rfl), rfl⟩
theorem dD_takesNumber_23 : db tD_takesNumber 23 (.ifCond .ne) 32 26 := ⟨9, o_154 0 9 9 (oWd (K := 0) (r := 23) wi_D_takesNumber_0 rfl), rfl, rfl⟩
theorem dD_takesNumber_26 : dl tD_takesNumber 26 .aload_n .aload 0 27 := Or.inl ⟨0, o_42 (oW (K := 0) (r := 26) wi_D_takesNumber_0 rfl), rfl, rfl⟩
theorem dD_takesNumber_27 : dn tD_takesNumber 27 (.iconst 2) 1 28 := ⟨o_5 (oW (K := 0) (r := 27) wi_D_takesNumber_0 rfl), rfl⟩
theorem dD_takesNumber_28 : dn tD_takesNumber 28 (.invokevirtual 63) 3 31 := ⟨o_182 0 63 63 (oWd (K := 0) (r := 28) wi_D_takesNumber_0 rfl), rfl⟩
theorem dD_takesNumber_31 : dn tD_takesNumber 31 (.ireturn) 1 32 := ⟨o_172 (oW (K := 0) (r := 31) wi_D_takesNumber_0 rfl), rfl⟩
def wl_D_takesNumber_32 : List Nat := [42, 42, 180, 0, 60, 181, 0, 109, 42, 182, 0, 54, 4, 172]
theorem wi_D_takesNumber_32 : oC tD_takesNumber.2.1 32 wl_D_takesNumber_32 = true := by decide +kernel
theorem dD_takesNumber_32 : dl tD_takesNumber 32 .aload_n .aload 0 33 := Or.inl ⟨0, o_42 (oW (K := 32) (r := 0) wi_D_takesNumber_32 rfl), rfl, rfl⟩
theorem dD_takesNumber_33 : dl tD_takesNumber 33 .aload_n .aload 0 34 := Or.inl ⟨0, o_42 (oW (K := 32) (r := 1) wi_D_takesNumber_32 rfl), rfl, rfl⟩
theorem dD_takesNumber_34 : dn tD_takesNumber 34 (.getfield 60) 3 37 := ⟨o_180 0 60 60 (oWd (K := 32) (r := 2) wi_D_takesNumber_32 rfl), rfl⟩
theorem dD_takesNumber_37 : dn tD_takesNumber 37 (.putfield 109) 3 40 := ⟨o_181 0 109 109 (oWd (K := 32) (r := 5) wi_D_takesNumber_32 rfl), rfl⟩
theorem dD_takesNumber_40 : dl tD_takesNumber 40 .aload_n .aload 0 41 := Or.inl ⟨0, o_42 (oW (K := 32) (r := 8) wi_D_takesNumber_32 rfl), rfl, rfl⟩
theorem dD_takesNumber_41 : dn tD_takesNumber 41 (.invokevirtual 54) 3 44 := ⟨o_182 0 54 54 (oWd (K := 32) (r := 9) wi_D_takesNumber_32 rfl), rfl⟩
theorem dD_takesNumber_44 : dn tD_takesNumber 44 (.iconst 1) 1 45 := ⟨o_4 (oW (K := 32) (r := 12) wi_D_takesNumber_32 rfl), rfl⟩
theorem dD_takesNumber_45 : dn tD_takesNumber 45 (.ireturn) 1 46 := ⟨o_172 (oW (K := 32) (r := 13) wi_D_takesNumber_32 rfl), rfl⟩
def wl_D_takesSign_0 : List Nat := [42, 27, 182, 0, 119, 154, 0, 9, 42, 4, 182, 0, 63, 172, 42, 182, 0, 54, 4, 172]
theorem wi_D_takesSign_0 : oC tD_takesSign.2.1 0 wl_D_takesSign_0 = true := by decide +kernel
theorem dD_takesSign_0 : dl tD_takesSign 0 .aload_n .aload 0 1 := Or.inl ⟨0, o_42 (oW (K := 0) (r := 0) wi_D_takesSign_0 rfl), rfl, rfl⟩
theorem dD_takesSign_1 : dl tD_takesSign 1 .iload_n .iload 1 2 := Or.inl ⟨1, o_27 (oW (K := 0) (r := 1) wi_D_takesSign_0 rfl), rfl, rfl⟩
theorem dD_takesSign_2 : dn tD_takesSign 2 (.invokevirtual 119) 3 5 := ⟨o_182 0 119 119 (oWd (K := 0) (r := 2) wi_D_takesSign_0 rfl), rfl⟩
theorem dD_takesSign_5 : db tD_takesSign 5 (.ifCond .ne) 14 8 := ⟨9, o_154 0 9 9 (oWd (K := 0) (r := 5) wi_D_takesSign_0 rfl), rfl, rfl⟩
theorem dD_takesSign_8 : dl tD_takesSign 8 .aload_n .aload 0 9 := Or.inl ⟨0, o_42 (oW (K := 0) (r := 8) wi_D_takesSign_0 rfl), rfl, rfl⟩
theorem dD_takesSign_9 : dn tD_takesSign 9 (.iconst 1) 1 10 := ⟨o_4 (oW (K := 0) (r := 9) wi_D_takesSign_0 rfl), rfl⟩
theorem dD_takesSign_10 : dn tD_takesSign 10 (.invokevirtual 63) 3 13 := ⟨o_182 0 63 63 (oWd (K := 0) (r := 10) wi_D_takesSign_0 rfl), rfl⟩
theorem dD_takesSign_13 : dn tD_takesSign 13 (.ireturn) 1 14 := ⟨o_172 (oW (K := 0) (r := 13) wi_D_takesSign_0 rfl), rfl⟩
theorem dD_takesSign_14 : dl tD_takesSign 14 .aload_n .aload 0 15 := Or.inl ⟨0, o_42 (oW (K := 0) (r := 14) wi_D_takesSign_0 rfl), rfl, rfl⟩
theorem dD_takesSign_15 : dn tD_takesSign 15 (.invokevirtual 54) 3 18 := ⟨o_182 0 54 54 (oWd (K := 0) (r := 15) wi_D_takesSign_0 rfl), rfl⟩
theorem dD_takesSign_18 : dn tD_takesSign 18 (.iconst 1) 1 19 := ⟨o_4 (oW (K := 0) (r := 18) wi_D_takesSign_0 rfl), rfl⟩
theorem dD_takesSign_19 : dn tD_takesSign 19 (.ireturn) 1 20 := ⟨o_172 (oW (K := 0) (r := 19) wi_D_takesSign_0 rfl), rfl⟩
def wl_D_isSign_0 : List Nat := [42, 180, 0, 57, 6, 160, 0, 15, 42, 180, 0, 60, 27, 160, 0, 7, 4, 167, 0, 4, 3, 172]
theorem wi_D_isSign_0 : oC tD_isSign.2.1 0 wl_D_isSign_0 = true := by decide +kernel
theorem dD_isSign_0 : dl tD_isSign 0 .aload_n .aload 0 1 := Or.inl ⟨0, o_42 (oW (K := 0) (r := 0) wi_D_isSign_0 rfl), rfl, rfl⟩
theorem dD_isSign_1 : dn tD_isSign 1 (.getfield 57) 3 4 := ⟨o_180 0 57 57 (oWd (K := 0) (r := 1) wi_D_isSign_0 rfl), rfl⟩
theorem dD_isSign_4 : dn tD_isSign 4 (.iconst 3) 1 5 := ⟨o_6 (oW (K := 0) (r := 4) wi_D_isSign_0 rfl), rfl⟩
theorem dD_isSign_5 : db tD_isSign 5 (.if_icmp .ne) 20 8 := ⟨15, o_160 0 15 15 (oWd (K := 0) (r := 5) wi_D_isSign_0 rfl), rfl, rfl⟩
theorem dD_isSign_8 : dl tD_isSign 8 .aload_n .aload 0 9 := Or.inl ⟨0, o_42 (oW (K := 0) (r := 8) wi_D_isSign_0 rfl), rfl, rfl⟩
theorem dD_isSign_9 : dn tD_isSign 9 (.getfield 60) 3 12 := ⟨o_180 0 60 60 (oWd (K := 0) (r := 9) wi_D_isSign_0 rfl), rfl⟩
theorem dD_isSign_12 : dl tD_isSign 12 .iload_n .iload 1 13 := Or.inl ⟨1, o_27 (oW (K := 0) (r := 12) wi_D_isSign_0 rfl), rfl, rfl⟩
theorem dD_isSign_13 : db tD_isSign 13 (.if_icmp .ne) 20 16 := ⟨7, o_160 0 7 7 (oWd (K := 0) (r := 13) wi_D_isSign_0 rfl), rfl, rfl⟩
theorem dD_isSign_16 : dn tD_isSign 16 (.iconst 1) 1 17 := ⟨o_4 (oW (K := 0) (r := 16) wi_D_isSign_0 rfl), rfl⟩
theorem dD_isSign_17 : db tD_isSign 17 .goto 21 20 := ⟨4, o_167 0 4 4 (oWd (K := 0) (r := 17) wi_D_isSign_0 rfl), rfl, rfl⟩
theorem dD_isSign_20 : dn tD_isSign 20 (.iconst 0) 1 21 := ⟨o_3 (oW (K := 0) (r := 20) wi_D_isSign_0 rfl), rfl⟩
theorem dD_isSign_21 : dn tD_isSign 21 (.ireturn) 1 22 := ⟨o_172 (oW (K := 0) (r := 21) wi_D_isSign_0 rfl), rfl⟩
def wl_D_isWord_0 : List Nat := [42, 180, 0, 57, 4, 160, 0, 15, 42, 180, 0, 60, 27, 160, 0, 7, 4, 167, 0, 4, 3, 172]
theorem wi_D_isWord_0 : oC tD_isWord.2.1 0 wl_D_isWord_0 = true := by decide +kernel
theorem dD_isWord_0 : dl tD_isWord 0 .aload_n .aload 0 1 := Or.inl ⟨0, o_42 (oW (K := 0) (r := 0) wi_D_isWord_0 rfl), rfl, rfl⟩
theorem dD_isWord_1 : dn tD_isWord 1 (.getfield 57) 3 4 := ⟨o_180 0 57 57 (oWd (K := 0) (r := 1) wi_D_isWord_0 rfl), rfl⟩
theorem dD_isWord_4 : dn tD_isWord 4 (.iconst 1) 1 5 := ⟨o_4 (oW (K := 0) (r := 4) wi_D_isWord_0 rfl), rfl⟩
theorem dD_isWord_5 : db tD_isWord 5 (.if_icmp .ne) 20 8 := ⟨15, o_160 0 15 15 (oWd (K := 0) (r := 5) wi_D_isWord_0 rfl), rfl, rfl⟩
theorem dD_isWord_8 : dl tD_isWord 8 .aload_n .aload 0 9 := Or.inl ⟨0, o_42 (oW (K := 0) (r := 8) wi_D_isWord_0 rfl), rfl, rfl⟩
theorem dD_isWord_9 : dn tD_isWord 9 (.getfield 60) 3 12 := ⟨o_180 0 60 60 (oWd (K := 0) (r := 9) wi_D_isWord_0 rfl), rfl⟩
theorem dD_isWord_12 : dl tD_isWord 12 .iload_n .iload 1 13 := Or.inl ⟨1, o_27 (oW (K := 0) (r := 12) wi_D_isWord_0 rfl), rfl, rfl⟩
theorem dD_isWord_13 : db tD_isWord 13 (.if_icmp .ne) 20 16 := ⟨7, o_160 0 7 7 (oWd (K := 0) (r := 13) wi_D_isWord_0 rfl), rfl, rfl⟩
theorem dD_isWord_16 : dn tD_isWord 16 (.iconst 1) 1 17 := ⟨o_4 (oW (K := 0) (r := 16) wi_D_isWord_0 rfl), rfl⟩
theorem dD_isWord_17 : db tD_isWord 17 .goto 21 20 := ⟨4, o_167 0 4 4 (oWd (K := 0) (r := 17) wi_D_isWord_0 rfl), rfl, rfl⟩
theorem dD_isWord_20 : dn tD_isWord 20 (.iconst 0) 1 21 := ⟨o_3 (oW (K := 0) (r := 20) wi_D_isWord_0 rfl), rfl⟩
theorem dD_isWord_21 : dn tD_isWord 21 (.ireturn) 1 22 := ⟨o_172 (oW (K := 0) (r := 21) wi_D_isWord_0 rfl), rfl⟩
def wl_D_advance_0 : List Nat := [42, 89, 180, 0, 51, 4, 96, 181, 0, 51, 42, 180, 0, 51, 155, 0, 31, 42, 180, 0, 51, 42, 180, 0, 32, 180, 0, 130, 162, 0, 17, 42, 180, 0, 51, 17, 1, 144]
theorem wi_D_advance_0 : oC tD_advance.2.1 0 wl_D_advance_0 = true := by decide +kernel
theorem dD_advance_0 : dl tD_advance 0 .aload_n .aload 0 1 := Or.inl ⟨0, o_42 (oW (K := 0) (r := 0) wi_D_advance_0 rfl), rfl, rfl⟩
theorem dD_advance_1 : dn tD_advance 1 (.dup) 1 2 := ⟨o_89 (oW (K := 0) (r := 1) wi_D_advance_0 rfl), rfl⟩
theorem dD_advance_2 : dn tD_advance 2 (.getfield 51) 3 5 := ⟨o_180 0 51 51 (oWd (K := 0) (r := 2) wi_D_advance_0 rfl), rfl⟩
theorem dD_advance_5 : dn tD_advance 5 (.iconst 1) 1 6 := ⟨o_4 (oW (K := 0) (r := 5) wi_D_advance_0 rfl), rfl⟩
theorem dD_advance_6 : dn tD_advance 6 (.iadd) 1 7 := ⟨o_96 (oW (K := 0) (r := 6) wi_D_advance_0 rfl), rfl⟩
theorem dD_advance_7 : dn tD_advance 7 (.putfield 51) 3 10 := ⟨o_181 0 51 51 (oWd (K := 0) (r := 7) wi_D_advance_0 rfl), rfl⟩
theorem dD_advance_10 : dl tD_advance 10 .aload_n .aload 0 11 := Or.inl ⟨0, o_42 (oW (K := 0) (r := 10) wi_D_advance_0 rfl), rfl, rfl⟩
theorem dD_advance_11 : dn tD_advance 11 (.getfield 51) 3 14 := ⟨o_180 0 51 51 (oWd (K := 0) (r := 11) wi_D_advance_0 rfl), rfl⟩
theorem dD_advance_14 : db tD_advance 14 (.ifCond .lt) 45 17 := ⟨31, o_155 0 31 31 (oWd (K := 0) (r := 14) wi_D_advance_0 rfl), rfl, rfl⟩
theorem dD_advance_17 : dl tD_advance 17 .aload_n .aload 0 18 := Or.inl ⟨0, o_42 (oW (K := 0) (r := 17) wi_D_advance_0 rfl), rfl, rfl⟩
theorem dD_advance_18 : dn tD_advance 18 (.getfield 51) 3 21 := ⟨o_180 0 51 51 (oWd (K := 0) (r := 18) wi_D_advance_0 rfl), rfl⟩
theorem dD_advance_21 : dl tD_advance 21 .aload_n .aload 0 22 := Or.inl ⟨0, o_42 (oW (K := 0) (r := 21) wi_D_advance_0 rfl), rfl, rfl⟩
theorem dD_advance_22 : dn tD_advance 22 (.getfield 32) 3 25 := ⟨o_180 0 32 32 (oWd (K := 0) (r := 22) wi_D_advance_0 rfl), rfl⟩
theorem dD_advance_25 : dn tD_advance 25 (.getfield 130) 3 28 := ⟨o_180 0 130 130 (oWd (K := 0) (r := 25) wi_D_advance_0 rfl), rfl⟩
theorem dD_advance_28 : db tD_advance 28 (.if_icmp .ge) 45 31 := ⟨17, o_162 0 17 17 (oWd (K := 0) (r := 28) wi_D_advance_0 rfl), rfl, rfl⟩
theorem dD_advance_31 : dl tD_advance 31 .aload_n .aload 0 32 := Or.inl ⟨0, o_42 (oW (K := 0) (r := 31) wi_D_advance_0 rfl), rfl, rfl⟩
def wl_D_advance_32 : List Nat := [180, 0, 51, 17, 1, 144, 163, 0, 7, 4, 167, 0, 4, 3, 60, 42, 27, 153, 0, 18, 42, 180, 0, 32, 180, 0, 133, 42, 180, 0, 51, 46, 167, 0, 4, 3, 181, 0]
theorem wi_D_advance_32 : oC tD_advance.2.1 32 wl_D_advance_32 = true := by decide +kernel
theorem dD_advance_32 : dn tD_advance 32 (.getfield 51) 3 35 := ⟨o_180 0 51 51 (oWd (K := 32) (r := 0) wi_D_advance_32 rfl), rfl⟩
theorem dD_advance_35 : dn tD_advance 35 (.sipush 400) 3 38 := ⟨o_17 1 144 400 (oWd (K := 32) (r := 3) wi_D_advance_32 rfl), rfl⟩
theorem dD_advance_38 : db tD_advance 38 (.if_icmp .gt) 45 41 := ⟨7, o_163 0 7 7 (oWd (K := 32) (r := 6) wi_D_advance_32 rfl), rfl, rfl⟩
theorem dD_advance_41 : dn tD_advance 41 (.iconst 1) 1 42 := ⟨o_4 (oW (K := 32) (r := 9) wi_D_advance_32 rfl), rfl⟩
theorem dD_advance_42 : db tD_advance 42 .goto 46 45 := ⟨4, o_167 0 4 4 (oWd (K := 32) (r := 10) wi_D_advance_32 rfl), rfl, rfl⟩
theorem dD_advance_45 : dn tD_advance 45 (.iconst 0) 1 46 := ⟨o_3 (oW (K := 32) (r := 13) wi_D_advance_32 rfl), rfl⟩
theorem dD_advance_46 : dl tD_advance 46 .istore_n .istore 1 47 := Or.inl ⟨1, o_60 (oW (K := 32) (r := 14) wi_D_advance_32 rfl), rfl, rfl⟩
theorem dD_advance_47 : dl tD_advance 47 .aload_n .aload 0 48 := Or.inl ⟨0, o_42 (oW (K := 32) (r := 15) wi_D_advance_32 rfl), rfl, rfl⟩
theorem dD_advance_48 : dl tD_advance 48 .iload_n .iload 1 49 := Or.inl ⟨1, o_27 (oW (K := 32) (r := 16) wi_D_advance_32 rfl), rfl, rfl⟩
theorem dD_advance_49 : db tD_advance 49 (.ifCond .eq) 67 52 := ⟨18, o_153 0 18 18 (oWd (K := 32) (r := 17) wi_D_advance_32 rfl), rfl, rfl⟩
theorem dD_advance_52 : dl tD_advance 52 .aload_n .aload 0 53 := Or.inl ⟨0, o_42 (oW (K := 32) (r := 20) wi_D_advance_32 rfl), rfl, rfl⟩
theorem dD_advance_53 : dn tD_advance 53 (.getfield 32) 3 56 := ⟨o_180 0 32 32 (oWd (K := 32) (r := 21) wi_D_advance_32 rfl), rfl⟩
theorem dD_advance_56 : dn tD_advance 56 (.getfield 133) 3 59 := ⟨o_180 0 133 133 (oWd (K := 32) (r := 24) wi_D_advance_32 rfl), rfl⟩
theorem dD_advance_59 : dl tD_advance 59 .aload_n .aload 0 60 := Or.inl ⟨0, o_42 (oW (K := 32) (r := 27) wi_D_advance_32 rfl), rfl, rfl⟩
theorem dD_advance_60 : dn tD_advance 60 (.getfield 51) 3 63 := ⟨o_180 0 51 51 (oWd (K := 32) (r := 28) wi_D_advance_32 rfl), rfl⟩
theorem dD_advance_63 : dn tD_advance 63 (.iaload) 1 64 := ⟨o_46 (oW (K := 32) (r := 31) wi_D_advance_32 rfl), rfl⟩
def wl_D_advance_64 : List Nat := [167, 0, 4, 3, 181, 0, 57, 42, 27, 153, 0, 18, 42, 180, 0, 32, 180, 0, 137, 42, 180, 0, 51, 46, 167, 0, 4, 3, 181, 0, 60, 177]
theorem wi_D_advance_64 : oC tD_advance.2.1 64 wl_D_advance_64 = true := by decide +kernel
theorem dD_advance_64 : db tD_advance 64 .goto 68 67 := ⟨4, o_167 0 4 4 (oWd (K := 64) (r := 0) wi_D_advance_64 rfl), rfl, rfl⟩
theorem dD_advance_67 : dn tD_advance 67 (.iconst 0) 1 68 := ⟨o_3 (oW (K := 64) (r := 3) wi_D_advance_64 rfl), rfl⟩
theorem dD_advance_68 : dn tD_advance 68 (.putfield 57) 3 71 := ⟨o_181 0 57 57 (oWd (K := 64) (r := 4) wi_D_advance_64 rfl), rfl⟩
theorem dD_advance_71 : dl tD_advance 71 .aload_n .aload 0 72 := Or.inl ⟨0, o_42 (oW (K := 64) (r := 7) wi_D_advance_64 rfl), rfl, rfl⟩
theorem dD_advance_72 : dl tD_advance 72 .iload_n .iload 1 73 := Or.inl ⟨1, o_27 (oW (K := 64) (r := 8) wi_D_advance_64 rfl), rfl, rfl⟩
theorem dD_advance_73 : db tD_advance 73 (.ifCond .eq) 91 76 := ⟨18, o_153 0 18 18 (oWd (K := 64) (r := 9) wi_D_advance_64 rfl), rfl, rfl⟩
theorem dD_advance_76 : dl tD_advance 76 .aload_n .aload 0 77 := Or.inl ⟨0, o_42 (oW (K := 64) (r := 12) wi_D_advance_64 rfl), rfl, rfl⟩
theorem dD_advance_77 : dn tD_advance 77 (.getfield 32) 3 80 := ⟨o_180 0 32 32 (oWd (K := 64) (r := 13) wi_D_advance_64 rfl), rfl⟩
theorem dD_advance_80 : dn tD_advance 80 (.getfield 137) 3 83 := ⟨o_180 0 137 137 (oWd (K := 64) (r := 16) wi_D_advance_64 rfl), rfl⟩
theorem dD_advance_83 : dl tD_advance 83 .aload_n .aload 0 84 := Or.inl ⟨0, o_42 (oW (K := 64) (r := 19) wi_D_advance_64 rfl), rfl, rfl⟩
theorem dD_advance_84 : dn tD_advance 84 (.getfield 51) 3 87 := ⟨o_180 0 51 51 (oWd (K := 64) (r := 20) wi_D_advance_64 rfl), rfl⟩
theorem dD_advance_87 : dn tD_advance 87 (.iaload) 1 88 := ⟨o_46 (oW (K := 64) (r := 23) wi_D_advance_64 rfl), rfl⟩
theorem dD_advance_88 : db tD_advance 88 .goto 92 91 := ⟨4, o_167 0 4 4 (oWd (K := 64) (r := 24) wi_D_advance_64 rfl), rfl, rfl⟩
theorem dD_advance_91 : dn tD_advance 91 (.iconst 0) 1 92 := ⟨o_3 (oW (K := 64) (r := 27) wi_D_advance_64 rfl), rfl⟩
theorem dD_advance_92 : dn tD_advance 92 (.putfield 60) 3 95 := ⟨o_181 0 60 60 (oWd (K := 64) (r := 28) wi_D_advance_64 rfl), rfl⟩
theorem dD_advance_95 : dn tD_advance 95 (.return_) 1 96 := ⟨o_177 (oW (K := 64) (r := 31) wi_D_advance_64 rfl), rfl⟩
def wl_D_refuse_0 : List Nat := [42, 27, 181, 0, 25, 42, 42, 180, 0, 51, 155, 0, 42, 42, 180, 0, 51, 42, 180, 0, 32, 180, 0, 130, 162, 0, 28, 42, 180, 0, 51, 17, 1, 144, 163, 0, 18, 42]
theorem wi_D_refuse_0 : oC tD_refuse.2.1 0 wl_D_refuse_0 = true := by decide +kernel
theorem dD_refuse_0 : dl tD_refuse 0 .aload_n .aload 0 1 := Or.inl ⟨0, o_42 (oW (K := 0) (r := 0) wi_D_refuse_0 rfl), rfl, rfl⟩
theorem dD_refuse_1 : dl tD_refuse 1 .iload_n .iload 1 2 := Or.inl ⟨1, o_27 (oW (K := 0) (r := 1) wi_D_refuse_0 rfl), rfl, rfl⟩
theorem dD_refuse_2 : dn tD_refuse 2 (.putfield 25) 3 5 := ⟨o_181 0 25 25 (oWd (K := 0) (r := 2) wi_D_refuse_0 rfl), rfl⟩
theorem dD_refuse_5 : dl tD_refuse 5 .aload_n .aload 0 6 := Or.inl ⟨0, o_42 (oW (K := 0) (r := 5) wi_D_refuse_0 rfl), rfl, rfl⟩
theorem dD_refuse_6 : dl tD_refuse 6 .aload_n .aload 0 7 := Or.inl ⟨0, o_42 (oW (K := 0) (r := 6) wi_D_refuse_0 rfl), rfl, rfl⟩
theorem dD_refuse_7 : dn tD_refuse 7 (.getfield 51) 3 10 := ⟨o_180 0 51 51 (oWd (K := 0) (r := 7) wi_D_refuse_0 rfl), rfl⟩
theorem dD_refuse_10 : db tD_refuse 10 (.ifCond .lt) 52 13 := ⟨42, o_155 0 42 42 (oWd (K := 0) (r := 10) wi_D_refuse_0 rfl), rfl, rfl⟩
theorem dD_refuse_13 : dl tD_refuse 13 .aload_n .aload 0 14 := Or.inl ⟨0, o_42 (oW (K := 0) (r := 13) wi_D_refuse_0 rfl), rfl, rfl⟩
theorem dD_refuse_14 : dn tD_refuse 14 (.getfield 51) 3 17 := ⟨o_180 0 51 51 (oWd (K := 0) (r := 14) wi_D_refuse_0 rfl), rfl⟩
theorem dD_refuse_17 : dl tD_refuse 17 .aload_n .aload 0 18 := Or.inl ⟨0, o_42 (oW (K := 0) (r := 17) wi_D_refuse_0 rfl), rfl, rfl⟩
theorem dD_refuse_18 : dn tD_refuse 18 (.getfield 32) 3 21 := ⟨o_180 0 32 32 (oWd (K := 0) (r := 18) wi_D_refuse_0 rfl), rfl⟩
theorem dD_refuse_21 : dn tD_refuse 21 (.getfield 130) 3 24 := ⟨o_180 0 130 130 (oWd (K := 0) (r := 21) wi_D_refuse_0 rfl), rfl⟩
theorem dD_refuse_24 : db tD_refuse 24 (.if_icmp .ge) 52 27 := ⟨28, o_162 0 28 28 (oWd (K := 0) (r := 24) wi_D_refuse_0 rfl), rfl, rfl⟩
theorem dD_refuse_27 : dl tD_refuse 27 .aload_n .aload 0 28 := Or.inl ⟨0, o_42 (oW (K := 0) (r := 27) wi_D_refuse_0 rfl), rfl, rfl⟩
theorem dD_refuse_28 : dn tD_refuse 28 (.getfield 51) 3 31 := ⟨o_180 0 51 51 (oWd (K := 0) (r := 28) wi_D_refuse_0 rfl), rfl⟩
theorem dD_refuse_31 : dn tD_refuse 31 (.sipush 400) 3 34 := ⟨o_17 1 144 400 (oWd (K := 0) (r := 31) wi_D_refuse_0 rfl), rfl⟩
def wl_D_refuse_32 : List Nat := [1, 144, 163, 0, 18, 42, 180, 0, 32, 180, 0, 140, 42, 180, 0, 51, 46, 167, 0, 10, 42, 180, 0, 32, 180, 0, 143, 181, 0, 29, 3, 172]
theorem wi_D_refuse_32 : oC tD_refuse.2.1 32 wl_D_refuse_32 = true := by decide +kernel
theorem dD_refuse_34 : db tD_refuse 34 (.if_icmp .gt) 52 37 := ⟨18, o_163 0 18 18 (oWd (K := 32) (r := 2) wi_D_refuse_32 rfl), rfl, rfl⟩
theorem dD_refuse_37 : dl tD_refuse 37 .aload_n .aload 0 38 := Or.inl ⟨0, o_42 (oW (K := 32) (r := 5) wi_D_refuse_32 rfl), rfl, rfl⟩
theorem dD_refuse_38 : dn tD_refuse 38 (.getfield 32) 3 41 := ⟨o_180 0 32 32 (oWd (K := 32) (r := 6) wi_D_refuse_32 rfl), rfl⟩
theorem dD_refuse_41 : dn tD_refuse 41 (.getfield 140) 3 44 := ⟨o_180 0 140 140 (oWd (K := 32) (r := 9) wi_D_refuse_32 rfl), rfl⟩
theorem dD_refuse_44 : dl tD_refuse 44 .aload_n .aload 0 45 := Or.inl ⟨0, o_42 (oW (K := 32) (r := 12) wi_D_refuse_32 rfl), rfl, rfl⟩
theorem dD_refuse_45 : dn tD_refuse 45 (.getfield 51) 3 48 := ⟨o_180 0 51 51 (oWd (K := 32) (r := 13) wi_D_refuse_32 rfl), rfl⟩
theorem dD_refuse_48 : dn tD_refuse 48 (.iaload) 1 49 := ⟨o_46 (oW (K := 32) (r := 16) wi_D_refuse_32 rfl), rfl⟩
theorem dD_refuse_49 : db tD_refuse 49 .goto 59 52 := ⟨10, o_167 0 10 10 (oWd (K := 32) (r := 17) wi_D_refuse_32 rfl), rfl, rfl⟩
theorem dD_refuse_52 : dl tD_refuse 52 .aload_n .aload 0 53 := Or.inl ⟨0, o_42 (oW (K := 32) (r := 20) wi_D_refuse_32 rfl), rfl, rfl⟩
theorem dD_refuse_53 : dn tD_refuse 53 (.getfield 32) 3 56 := ⟨o_180 0 32 32 (oWd (K := 32) (r := 21) wi_D_refuse_32 rfl), rfl⟩
theorem dD_refuse_56 : dn tD_refuse 56 (.getfield 143) 3 59 := ⟨o_180 0 143 143 (oWd (K := 32) (r := 24) wi_D_refuse_32 rfl), rfl⟩
theorem dD_refuse_59 : dn tD_refuse 59 (.putfield 29) 3 62 := ⟨o_181 0 29 29 (oWd (K := 32) (r := 27) wi_D_refuse_32 rfl), rfl⟩
theorem dD_refuse_62 : dn tD_refuse 62 (.iconst 0) 1 63 := ⟨o_3 (oW (K := 32) (r := 30) wi_D_refuse_32 rfl), rfl⟩
theorem dD_refuse_63 : dn tD_refuse 63 (.ireturn) 1 64 := ⟨o_172 (oW (K := 32) (r := 31) wi_D_refuse_32 rfl), rfl⟩
def tX_state : MM := (⟨"GingerRents", "state", "(I)I"⟩, prog_1_method_2_code, 3, (some .int))
theorem okX_state : mV tX_state 1 := ⟨⟨tb_in (in_t2 _ (List.mem_of_getElem? (i := 162) rfl)) rfl, tb_in (in_t1 _ (List.mem_of_getElem? (i := 1) rfl)) rfl, ⟨cq_16.1, cq_16.2, by decide +kernel⟩, by decide⟩, tb_in (in_t2 _ (List.mem_of_getElem? (i := 160) rfl)) rfl, tb_in (in_t2 _ (List.mem_of_getElem? (i := 161) rfl)) rfl⟩
def tX_house : MM := (⟨"GingerRents", "house", "(III)I"⟩, prog_1_method_3_code, 5, (some .int))
theorem okX_house : mV tX_house 3 := ⟨⟨tb_in (in_t2 _ (List.mem_of_getElem? (i := 170) rfl)) rfl, tb_in (in_t1 _ (List.mem_of_getElem? (i := 1) rfl)) rfl, ⟨cq_16.1, cq_16.2, by decide +kernel⟩, by decide⟩, tb_in (in_t2 _ (List.mem_of_getElem? (i := 168) rfl)) rfl, tb_in (in_t2 _ (List.mem_of_getElem? (i := 169) rfl)) rfl⟩
def tX_set : MM := (⟨"GingerRents", "set", "(III)Z"⟩, prog_1_method_4_code, 4, (some .boolean))
theorem okX_set : mV tX_set 3 := ⟨⟨tb_in (in_t2 _ (List.mem_of_getElem? (i := 185) rfl)) rfl, tb_in (in_t1 _ (List.mem_of_getElem? (i := 1) rfl)) rfl, ⟨cq_16.1, cq_16.2, by decide +kernel⟩, by decide⟩, tb_in (in_t2 _ (List.mem_of_getElem? (i := 183) rfl)) rfl, tb_in (in_t2 _ (List.mem_of_getElem? (i := 184) rfl)) rfl⟩
def tX_act : MM := (⟨"GingerRents", "act", "(III)Z"⟩, prog_1_method_5_code, 4, (some .boolean))
theorem okX_act : mV tX_act 3 := ⟨⟨tb_in (in_t2 _ (List.mem_of_getElem? (i := 197) rfl)) rfl, tb_in (in_t1 _ (List.mem_of_getElem? (i := 1) rfl)) rfl, ⟨cq_16.1, cq_16.2, by decide +kernel⟩, by decide⟩, tb_in (in_t2 _ (List.mem_of_getElem? (i := 195) rfl)) rfl, tb_in (in_t2 _ (List.mem_of_getElem? (i := 196) rfl)) rfl⟩
def tX_quarters : MM := (⟨"GingerRents", "quarters", "(I)I"⟩, prog_1_method_6_code, 4, (some .int))
theorem okX_quarters : mV tX_quarters 1 := ⟨⟨tb_in (in_t3 _ (List.mem_of_getElem? (i := 55) rfl)) rfl, tb_in (in_t1 _ (List.mem_of_getElem? (i := 1) rfl)) rfl, ⟨cq_16.1, cq_16.2, by decide +kernel⟩, by decide⟩, tb_in (in_t3 _ (List.mem_of_getElem? (i := 53) rfl)) rfl, tb_in (in_t3 _ (List.mem_of_getElem? (i := 54) rfl)) rfl⟩
def tX_feed : MM := (⟨"GingerRents", "feed", "(IIIII)I"⟩, prog_1_method_7_code, 6, (some .int))
theorem okX_feed : mV tX_feed 5 := ⟨⟨tb_in (in_t3 _ (List.mem_of_getElem? (i := 157) rfl)) rfl, tb_in (in_t1 _ (List.mem_of_getElem? (i := 1) rfl)) rfl, ⟨cq_16.1, cq_16.2, by decide +kernel⟩, by decide⟩, tb_in (in_t3 _ (List.mem_of_getElem? (i := 155) rfl)) rfl, tb_in (in_t3 _ (List.mem_of_getElem? (i := 156) rfl)) rfl⟩
def tX_end : MM := (⟨"GingerRents", "end", "(I)Z"⟩, prog_1_method_8_code, 2, (some .boolean))
theorem okX_end : mV tX_end 1 := ⟨⟨tb_in (in_t3 _ (List.mem_of_getElem? (i := 165) rfl)) rfl, tb_in (in_t1 _ (List.mem_of_getElem? (i := 1) rfl)) rfl, ⟨cq_16.1, cq_16.2, by decide +kernel⟩, by decide⟩, tb_in (in_t3 _ (List.mem_of_getElem? (i := 163) rfl)) rfl, tb_in (in_t3 _ (List.mem_of_getElem? (i := 164) rfl)) rfl⟩
def tX_text : MM := (⟨"GingerRents", "text", "(I)I"⟩, prog_1_method_9_code, 3, (some .int))
theorem okX_text : mV tX_text 1 := ⟨⟨tb_in (in_t3 _ (List.mem_of_getElem? (i := 169) rfl)) rfl, tb_in (in_t1 _ (List.mem_of_getElem? (i := 1) rfl)) rfl, ⟨cq_16.1, cq_16.2, by decide +kernel⟩, by decide⟩, tb_in (in_t3 _ (List.mem_of_getElem? (i := 167) rfl)) rfl, tb_in (in_t3 _ (List.mem_of_getElem? (i := 168) rfl)) rfl⟩
def tX_fault : MM := (⟨"GingerRents", "fault", "(I)I"⟩, prog_1_method_10_code, 2, (some .int))
theorem okX_fault : mV tX_fault 1 := ⟨⟨tb_in (in_t4 _ (List.mem_of_getElem? (i := 169) rfl)) rfl, tb_in (in_t1 _ (List.mem_of_getElem? (i := 1) rfl)) rfl, ⟨cq_16.1, cq_16.2, by decide +kernel⟩, by decide⟩, tb_in (in_t4 _ (List.mem_of_getElem? (i := 167) rfl)) rfl, tb_in (in_t4 _ (List.mem_of_getElem? (i := 168) rfl)) rfl⟩
def tX_of : MM := (⟨"GingerRents", "of", "(II)I"⟩, prog_1_method_11_code, 3, (some .int))
theorem okX_of : mV tX_of 2 := ⟨⟨tb_in (in_t4 _ (List.mem_of_getElem? (i := 173) rfl)) rfl, tb_in (in_t1 _ (List.mem_of_getElem? (i := 1) rfl)) rfl, ⟨cq_16.1, cq_16.2, by decide +kernel⟩, by decide⟩, tb_in (in_t4 _ (List.mem_of_getElem? (i := 171) rfl)) rfl, tb_in (in_t4 _ (List.mem_of_getElem? (i := 172) rfl)) rfl⟩
def tX_book : MM := (⟨"GingerRents", "book", "(II)I"⟩, prog_1_method_12_code, 3, (some .int))
theorem okX_book : mV tX_book 2 := ⟨⟨tb_in (in_t4 _ (List.mem_of_getElem? (i := 181) rfl)) rfl, tb_in (in_t1 _ (List.mem_of_getElem? (i := 1) rfl)) rfl, ⟨cq_16.1, cq_16.2, by decide +kernel⟩, by decide⟩, tb_in (in_t4 _ (List.mem_of_getElem? (i := 179) rfl)) rfl, tb_in (in_t4 _ (List.mem_of_getElem? (i := 180) rfl)) rfl⟩
def tX_goes : MM := (⟨"GingerRents", "goes", "(II)I"⟩, prog_1_method_13_code, 4, (some .int))
theorem okX_goes : mV tX_goes 2 := ⟨⟨tb_in (in_t4 _ (List.mem_of_getElem? (i := 186) rfl)) rfl, tb_in (in_t1 _ (List.mem_of_getElem? (i := 1) rfl)) rfl, ⟨cq_16.1, cq_16.2, by decide +kernel⟩, by decide⟩, tb_in (in_t4 _ (List.mem_of_getElem? (i := 184) rfl)) rfl, tb_in (in_t4 _ (List.mem_of_getElem? (i := 185) rfl)) rfl⟩
def tX_stands : MM := (⟨"GingerRents", "stands", "(I)I"⟩, prog_1_method_14_code, 3, (some .int))
theorem okX_stands : mV tX_stands 1 := ⟨⟨tb_in (in_t4 _ (List.mem_of_getElem? (i := 196) rfl)) rfl, tb_in (in_t1 _ (List.mem_of_getElem? (i := 1) rfl)) rfl, ⟨cq_16.1, cq_16.2, by decide +kernel⟩, by decide⟩, tb_in (in_t4 _ (List.mem_of_getElem? (i := 194) rfl)) rfl, tb_in (in_t4 _ (List.mem_of_getElem? (i := 195) rfl)) rfl⟩
def tX_hears : MM := (⟨"GingerRents", "hears", "(II)I"⟩, prog_1_method_15_code, 3, (some .int))
theorem okX_hears : mV tX_hears 2 := ⟨⟨tb_in (in_t4 _ (List.mem_of_getElem? (i := 201) rfl)) rfl, tb_in (in_t1 _ (List.mem_of_getElem? (i := 1) rfl)) rfl, ⟨cq_16.1, cq_16.2, by decide +kernel⟩, by decide⟩, tb_in (in_t4 _ (List.mem_of_getElem? (i := 199) rfl)) rfl, tb_in (in_t4 _ (List.mem_of_getElem? (i := 200) rfl)) rfl⟩
def tX_heard : MM := (⟨"GingerRents", "heard", "(II)I"⟩, prog_1_method_16_code, 3, (some .int))
theorem okX_heard : mV tX_heard 2 := ⟨⟨tb_in (in_t4 _ (List.mem_of_getElem? (i := 226) rfl)) rfl, tb_in (in_t1 _ (List.mem_of_getElem? (i := 1) rfl)) rfl, ⟨cq_16.1, cq_16.2, by decide +kernel⟩, by decide⟩, tb_in (in_t4 _ (List.mem_of_getElem? (i := 224) rfl)) rfl, tb_in (in_t4 _ (List.mem_of_getElem? (i := 225) rfl)) rfl⟩
def tX_ants : MM := (⟨"GingerRents", "ants", "(II)I"⟩, prog_1_method_17_code, 3, (some .int))
theorem okX_ants : mV tX_ants 2 := ⟨⟨tb_in (in_t4 _ (List.mem_of_getElem? (i := 234) rfl)) rfl, tb_in (in_t1 _ (List.mem_of_getElem? (i := 1) rfl)) rfl, ⟨cq_16.1, cq_16.2, by decide +kernel⟩, by decide⟩, tb_in (in_t4 _ (List.mem_of_getElem? (i := 232) rfl)) rfl, tb_in (in_t4 _ (List.mem_of_getElem? (i := 233) rfl)) rfl⟩
def tX_piece : MM := (⟨"GingerRents", "piece", "(I)I"⟩, prog_1_method_18_code, 2, (some .int))
theorem okX_piece : mV tX_piece 1 := ⟨⟨tb_in (in_t4 _ (List.mem_of_getElem? (i := 238) rfl)) rfl, tb_in (in_t1 _ (List.mem_of_getElem? (i := 1) rfl)) rfl, ⟨cq_16.1, cq_16.2, by decide +kernel⟩, by decide⟩, tb_in (in_t4 _ (List.mem_of_getElem? (i := 236) rfl)) rfl, tb_in (in_t4 _ (List.mem_of_getElem? (i := 237) rfl)) rfl⟩
def tX_plate : MM := (⟨"GingerRents", "plate", "(II)I"⟩, prog_1_method_19_code, 3, (some .int))
theorem okX_plate : mV tX_plate 2 := ⟨⟨tb_in (in_t5 _ (List.mem_of_getElem? (i := 6) rfl)) rfl, tb_in (in_t1 _ (List.mem_of_getElem? (i := 1) rfl)) rfl, ⟨cq_16.1, cq_16.2, by decide +kernel⟩, by decide⟩, tb_in (in_t5 _ (List.mem_of_getElem? (i := 4) rfl)) rfl, tb_in (in_t5 _ (List.mem_of_getElem? (i := 5) rfl)) rfl⟩
def tX_dough : MM := (⟨"GingerRents", "dough", "(I)I"⟩, prog_1_method_20_code, 2, (some .int))
theorem okX_dough : mV tX_dough 1 := ⟨⟨tb_in (in_t5 _ (List.mem_of_getElem? (i := 20) rfl)) rfl, tb_in (in_t1 _ (List.mem_of_getElem? (i := 1) rfl)) rfl, ⟨cq_16.1, cq_16.2, by decide +kernel⟩, by decide⟩, tb_in (in_t5 _ (List.mem_of_getElem? (i := 18) rfl)) rfl, tb_in (in_t5 _ (List.mem_of_getElem? (i := 19) rfl)) rfl⟩
def tX_pans : MM := (⟨"GingerRents", "pans", "(II)I"⟩, prog_1_method_21_code, 3, (some .int))
theorem okX_pans : mV tX_pans 2 := ⟨⟨tb_in (in_t5 _ (List.mem_of_getElem? (i := 24) rfl)) rfl, tb_in (in_t1 _ (List.mem_of_getElem? (i := 1) rfl)) rfl, ⟨cq_16.1, cq_16.2, by decide +kernel⟩, by decide⟩, tb_in (in_t5 _ (List.mem_of_getElem? (i := 22) rfl)) rfl, tb_in (in_t5 _ (List.mem_of_getElem? (i := 23) rfl)) rfl⟩
def tX_mortgage : MM := (⟨"GingerRents", "mortgage", "(IIII)I"⟩, prog_1_method_22_code, 6, (some .int))
theorem okX_mortgage : mV tX_mortgage 4 := ⟨⟨tb_in (in_t5 _ (List.mem_of_getElem? (i := 42) rfl)) rfl, tb_in (in_t1 _ (List.mem_of_getElem? (i := 1) rfl)) rfl, ⟨cq_16.1, cq_16.2, by decide +kernel⟩, by decide⟩, tb_in (in_t5 _ (List.mem_of_getElem? (i := 40) rfl)) rfl, tb_in (in_t5 _ (List.mem_of_getElem? (i := 41) rfl)) rfl⟩
def tX_mark : MM := (⟨"GingerRents", "mark", "(I)I"⟩, prog_1_method_23_code, 2, (some .int))
theorem okX_mark : mV tX_mark 1 := ⟨⟨tb_in (in_t5 _ (List.mem_of_getElem? (i := 49) rfl)) rfl, tb_in (in_t1 _ (List.mem_of_getElem? (i := 1) rfl)) rfl, ⟨cq_16.1, cq_16.2, by decide +kernel⟩, by decide⟩, tb_in (in_t5 _ (List.mem_of_getElem? (i := 47) rfl)) rfl, tb_in (in_t5 _ (List.mem_of_getElem? (i := 48) rfl)) rfl⟩
def tX_measures : MM := (⟨"GingerRents", "measures", "(I)I"⟩, prog_1_method_24_code, 2, (some .int))
theorem okX_measures : mV tX_measures 1 := ⟨⟨tb_in (in_t5 _ (List.mem_of_getElem? (i := 53) rfl)) rfl, tb_in (in_t1 _ (List.mem_of_getElem? (i := 1) rfl)) rfl, ⟨cq_16.1, cq_16.2, by decide +kernel⟩, by decide⟩, tb_in (in_t5 _ (List.mem_of_getElem? (i := 51) rfl)) rfl, tb_in (in_t5 _ (List.mem_of_getElem? (i := 52) rfl)) rfl⟩
def tX_bite : MM := (⟨"GingerRents", "bite", "(II)I"⟩, prog_1_method_25_code, 3, (some .int))
theorem okX_bite : mV tX_bite 2 := ⟨⟨tb_in (in_t5 _ (List.mem_of_getElem? (i := 76) rfl)) rfl, tb_in (in_t1 _ (List.mem_of_getElem? (i := 1) rfl)) rfl, ⟨cq_16.1, cq_16.2, by decide +kernel⟩, by decide⟩, tb_in (in_t5 _ (List.mem_of_getElem? (i := 74) rfl)) rfl, tb_in (in_t5 _ (List.mem_of_getElem? (i := 75) rfl)) rfl⟩
def tX_whose : MM := (⟨"GingerRents", "whose", "(II)I"⟩, prog_1_method_26_code, 3, (some .int))
theorem okX_whose : mV tX_whose 2 := ⟨⟨tb_in (in_t5 _ (List.mem_of_getElem? (i := 80) rfl)) rfl, tb_in (in_t1 _ (List.mem_of_getElem? (i := 1) rfl)) rfl, ⟨cq_16.1, cq_16.2, by decide +kernel⟩, by decide⟩, tb_in (in_t5 _ (List.mem_of_getElem? (i := 78) rfl)) rfl, tb_in (in_t5 _ (List.mem_of_getElem? (i := 79) rfl)) rfl⟩
def tX_crumb : MM := (⟨"GingerRents", "crumb", "(I)I"⟩, prog_1_method_27_code, 2, (some .int))
theorem okX_crumb : mV tX_crumb 1 := ⟨⟨tb_in (in_t5 _ (List.mem_of_getElem? (i := 87) rfl)) rfl, tb_in (in_t1 _ (List.mem_of_getElem? (i := 1) rfl)) rfl, ⟨cq_16.1, cq_16.2, by decide +kernel⟩, by decide⟩, tb_in (in_t5 _ (List.mem_of_getElem? (i := 85) rfl)) rfl, tb_in (in_t5 _ (List.mem_of_getElem? (i := 86) rfl)) rfl⟩
def tX_crumbs : MM := (⟨"GingerRents", "crumbs", "(I)I"⟩, prog_1_method_28_code, 2, (some .int))
theorem okX_crumbs : mV tX_crumbs 1 := ⟨⟨tb_in (in_t5 _ (List.mem_of_getElem? (i := 91) rfl)) rfl, tb_in (in_t1 _ (List.mem_of_getElem? (i := 1) rfl)) rfl, ⟨cq_16.1, cq_16.2, by decide +kernel⟩, by decide⟩, tb_in (in_t5 _ (List.mem_of_getElem? (i := 89) rfl)) rfl, tb_in (in_t5 _ (List.mem_of_getElem? (i := 90) rfl)) rfl⟩
def tX_loaf : MM := (⟨"GingerRents", "loaf", "(II)I"⟩, prog_1_method_29_code, 3, (some .int))
theorem okX_loaf : mV tX_loaf 2 := ⟨⟨tb_in (in_t5 _ (List.mem_of_getElem? (i := 107) rfl)) rfl, tb_in (in_t1 _ (List.mem_of_getElem? (i := 1) rfl)) rfl, ⟨cq_16.1, cq_16.2, by decide +kernel⟩, by decide⟩, tb_in (in_t5 _ (List.mem_of_getElem? (i := 105) rfl)) rfl, tb_in (in_t5 _ (List.mem_of_getElem? (i := 106) rfl)) rfl⟩
def tX_ovens : MM := (⟨"GingerRents", "ovens", "(I)I"⟩, prog_1_method_30_code, 2, (some .int))
theorem okX_ovens : mV tX_ovens 1 := ⟨⟨tb_in (in_t5 _ (List.mem_of_getElem? (i := 111) rfl)) rfl, tb_in (in_t1 _ (List.mem_of_getElem? (i := 1) rfl)) rfl, ⟨cq_16.1, cq_16.2, by decide +kernel⟩, by decide⟩, tb_in (in_t5 _ (List.mem_of_getElem? (i := 109) rfl)) rfl, tb_in (in_t5 _ (List.mem_of_getElem? (i := 110) rfl)) rfl⟩
def tX_alone : MM := (⟨"GingerRents", "alone", "(I)I"⟩, prog_1_method_31_code, 3, (some .int))
theorem okX_alone : mV tX_alone 1 := ⟨⟨tb_in (in_t5 _ (List.mem_of_getElem? (i := 126) rfl)) rfl, tb_in (in_t1 _ (List.mem_of_getElem? (i := 1) rfl)) rfl, ⟨cq_16.1, cq_16.2, by decide +kernel⟩, by decide⟩, tb_in (in_t5 _ (List.mem_of_getElem? (i := 124) rfl)) rfl, tb_in (in_t5 _ (List.mem_of_getElem? (i := 125) rfl)) rfl⟩
def tX_heir : MM := (⟨"GingerRents", "heir", "(II)I"⟩, prog_1_method_32_code, 4, (some .int))
theorem okX_heir : mV tX_heir 2 := ⟨⟨tb_in (in_t5 _ (List.mem_of_getElem? (i := 142) rfl)) rfl, tb_in (in_t1 _ (List.mem_of_getElem? (i := 1) rfl)) rfl, ⟨cq_16.1, cq_16.2, by decide +kernel⟩, by decide⟩, tb_in (in_t5 _ (List.mem_of_getElem? (i := 140) rfl)) rfl, tb_in (in_t5 _ (List.mem_of_getElem? (i := 141) rfl)) rfl⟩
def tX_line : MM := (⟨"GingerRents", "line", "(II)I"⟩, prog_1_method_33_code, 3, (some .int))
theorem okX_line : mV tX_line 2 := ⟨⟨tb_in (in_t5 _ (List.mem_of_getElem? (i := 146) rfl)) rfl, tb_in (in_t1 _ (List.mem_of_getElem? (i := 1) rfl)) rfl, ⟨cq_16.1, cq_16.2, by decide +kernel⟩, by decide⟩, tb_in (in_t5 _ (List.mem_of_getElem? (i := 144) rfl)) rfl, tb_in (in_t5 _ (List.mem_of_getElem? (i := 145) rfl)) rfl⟩
def tX_window : MM := (⟨"GingerRents", "window", "(I)I"⟩, prog_1_method_34_code, 2, (some .int))
theorem okX_window : mV tX_window 1 := ⟨⟨tb_in (in_t5 _ (List.mem_of_getElem? (i := 156) rfl)) rfl, tb_in (in_t1 _ (List.mem_of_getElem? (i := 1) rfl)) rfl, ⟨cq_16.1, cq_16.2, by decide +kernel⟩, by decide⟩, tb_in (in_t5 _ (List.mem_of_getElem? (i := 154) rfl)) rfl, tb_in (in_t5 _ (List.mem_of_getElem? (i := 155) rfl)) rfl⟩
def tX_member : MM := (⟨"GingerRents", "member", "(II)I"⟩, prog_1_method_35_code, 3, (some .int))
theorem okX_member : mV tX_member 2 := ⟨⟨tb_in (in_t5 _ (List.mem_of_getElem? (i := 163) rfl)) rfl, tb_in (in_t1 _ (List.mem_of_getElem? (i := 1) rfl)) rfl, ⟨cq_16.1, cq_16.2, by decide +kernel⟩, by decide⟩, tb_in (in_t5 _ (List.mem_of_getElem? (i := 161) rfl)) rfl, tb_in (in_t5 _ (List.mem_of_getElem? (i := 162) rfl)) rfl⟩
def tX_council : MM := (⟨"GingerRents", "council", "(I)I"⟩, prog_1_method_36_code, 2, (some .int))
theorem okX_council : mV tX_council 1 := ⟨⟨tb_in (in_t5 _ (List.mem_of_getElem? (i := 167) rfl)) rfl, tb_in (in_t1 _ (List.mem_of_getElem? (i := 1) rfl)) rfl, ⟨cq_16.1, cq_16.2, by decide +kernel⟩, by decide⟩, tb_in (in_t5 _ (List.mem_of_getElem? (i := 165) rfl)) rfl, tb_in (in_t5 _ (List.mem_of_getElem? (i := 166) rfl)) rfl⟩
def tX_game : MM := (⟨"GingerRents", "game", "(II)I"⟩, prog_1_method_37_code, 3, (some .int))
theorem okX_game : mV tX_game 2 := ⟨⟨tb_in (in_t5 _ (List.mem_of_getElem? (i := 180) rfl)) rfl, tb_in (in_t1 _ (List.mem_of_getElem? (i := 1) rfl)) rfl, ⟨cq_16.1, cq_16.2, by decide +kernel⟩, by decide⟩, tb_in (in_t5 _ (List.mem_of_getElem? (i := 178) rfl)) rfl, tb_in (in_t5 _ (List.mem_of_getElem? (i := 179) rfl)) rfl⟩
def tX_undo : MM := (⟨"GingerRents", "undo", "()Z"⟩, prog_1_method_38_code, 1, (some .boolean))
theorem okX_undo : mV tX_undo 0 := ⟨⟨tb_in (in_t5 _ (List.mem_of_getElem? (i := 211) rfl)) rfl, tb_in (in_t1 _ (List.mem_of_getElem? (i := 1) rfl)) rfl, ⟨cq_16.1, cq_16.2, by decide +kernel⟩, by decide⟩, tb_in (in_t5 _ (List.mem_of_getElem? (i := 209) rfl)) rfl, tb_in (in_t5 _ (List.mem_of_getElem? (i := 210) rfl)) rfl⟩
def tX_image : MM := (⟨"GingerRents", "image", "(Z)Z"⟩, prog_1_method_39_code, 2, (some .boolean))
theorem okX_image : mV tX_image 1 := ⟨⟨tb_in (in_t5 _ (List.mem_of_getElem? (i := 220) rfl)) rfl, tb_in (in_t1 _ (List.mem_of_getElem? (i := 1) rfl)) rfl, ⟨cq_16.1, cq_16.2, by decide +kernel⟩, by decide⟩, tb_in (in_t5 _ (List.mem_of_getElem? (i := 218) rfl)) rfl, tb_in (in_t5 _ (List.mem_of_getElem? (i := 219) rfl)) rfl⟩
def tX_look : MM := (⟨"GingerRents", "look", "(I)I"⟩, prog_1_method_40_code, 2, (some .int))
theorem okX_look : mV tX_look 1 := ⟨⟨tb_in (in_t5 _ (List.mem_of_getElem? (i := 229) rfl)) rfl, tb_in (in_t1 _ (List.mem_of_getElem? (i := 1) rfl)) rfl, ⟨cq_16.1, cq_16.2, by decide +kernel⟩, by decide⟩, tb_in (in_t5 _ (List.mem_of_getElem? (i := 227) rfl)) rfl, tb_in (in_t5 _ (List.mem_of_getElem? (i := 228) rfl)) rfl⟩
def tX_within : MM := (⟨"GingerRents", "within", "(III)Z"⟩, prog_1_method_41_code, 3, (some .boolean))
theorem okX_within : mS tX_within 3 := ⟨⟨tb_in (in_t2 _ (List.mem_of_getElem? (i := 173) rfl)) rfl, tb_in (in_t1 _ (List.mem_of_getElem? (i := 1) rfl)) rfl, ⟨cq_16.1, cq_16.2, by decide +kernel⟩, by decide⟩, tb_in (in_t2 _ (List.mem_of_getElem? (i := 172) rfl)) rfl⟩
def tX_mostToSet : MM := (⟨"GingerRents", "mostToSet", "(I)I"⟩, prog_1_method_42_code, 1, (some .int))
theorem okX_mostToSet : mS tX_mostToSet 1 := ⟨⟨tb_in (in_t2 _ (List.mem_of_getElem? (i := 192) rfl)) rfl, tb_in (in_t1 _ (List.mem_of_getElem? (i := 1) rfl)) rfl, ⟨cq_16.1, cq_16.2, by decide +kernel⟩, by decide⟩, tb_in (in_t2 _ (List.mem_of_getElem? (i := 191) rfl)) rfl⟩
def tX_tell : MM := (⟨"GingerRents", "tell", "(LGingerRents$Rows;ZZII)I"⟩, prog_1_method_43_code, 5, (some .int))
theorem okX_tell : mS tX_tell 5 := ⟨⟨tb_in (in_t5 _ (List.mem_of_getElem? (i := 1) rfl)) rfl, tb_in (in_t1 _ (List.mem_of_getElem? (i := 1) rfl)) rfl, ⟨cq_16.1, cq_16.2, by decide +kernel⟩, by decide⟩, tb_in (in_t5 _ (List.mem_of_getElem? (i := 0) rfl)) rfl⟩
def tX_keepText : MM := (⟨"GingerRents", "keepText", "(I)I"⟩, prog_1_method_44_code, 3, (some .int))
theorem okX_keepText : mV tX_keepText 1 := ⟨⟨tb_in (in_t4 _ (List.mem_of_getElem? (i := 160) rfl)) rfl, tb_in (in_t1 _ (List.mem_of_getElem? (i := 1) rfl)) rfl, ⟨cq_16.1, cq_16.2, by decide +kernel⟩, by decide⟩, tb_in (in_t4 _ (List.mem_of_getElem? (i := 159) rfl)) rfl, tb_in (in_s _ (List.mem_of_getElem? (i := 44) rfl)) rfl⟩
def tX_cheapestWay : MM := (⟨"GingerRents", "cheapestWay", "(IIZ)I"⟩, prog_1_method_45_code, 4, (some .int))
theorem okX_cheapestWay : mV tX_cheapestWay 3 := ⟨⟨tb_in (in_t4 _ (List.mem_of_getElem? (i := 205) rfl)) rfl, tb_in (in_t1 _ (List.mem_of_getElem? (i := 1) rfl)) rfl, ⟨cq_16.1, cq_16.2, by decide +kernel⟩, by decide⟩, tb_in (in_t4 _ (List.mem_of_getElem? (i := 204) rfl)) rfl, tb_in (in_s _ (List.mem_of_getElem? (i := 45) rfl)) rfl⟩
theorem fuX_25 : fu "GingerRents" 25 0 0 := ⟨_, _, _, rfl, by decide, rfl, tb_in (in_t2 _ (List.mem_of_getElem? (i := 116) rfl)) rfl⟩
theorem fuX_104 : fu "GingerRents" 104 1 7 := ⟨_, _, _, rfl, by decide, rfl, tb_in (in_t1 _ (List.mem_of_getElem? (i := 59) rfl)) rfl⟩
theorem fuX_59 : fu "GingerRents" 59 0 7 := ⟨_, _, _, rfl, by decide, rfl, tb_in (in_t2 _ (List.mem_of_getElem? (i := 123) rfl)) rfl⟩
theorem mlX_108 : Cond.methodLink "GingerRents" 108 ⟨"GingerRents$Past", "forget", "()V"⟩ ∈ tb := tb_in (in_t2 _ (List.mem_of_getElem? (i := 163) rfl)) rfl
theorem mlX_111 : Cond.methodLink "GingerRents" 111 ⟨"GingerRents", "within", "(III)Z"⟩ ∈ tb := tb_in (in_t2 _ (List.mem_of_getElem? (i := 171) rfl)) rfl
theorem fuX_115 : fu "GingerRents" 115 1 1 := ⟨_, _, _, rfl, by decide, rfl, tb_in (in_t1 _ (List.mem_of_getElem? (i := 40) rfl)) rfl⟩
theorem mlX_118 : Cond.methodLink "GingerRents" 118 ⟨"GingerRents$Borough", "build", "(III)I"⟩ ∈ tb := tb_in (in_t2 _ (List.mem_of_getElem? (i := 174) rfl)) rfl
theorem fuX_122 : fu "GingerRents" 122 1 2 := ⟨_, _, _, rfl, by decide, rfl, tb_in (in_t1 _ (List.mem_of_getElem? (i := 43) rfl)) rfl⟩
theorem mlX_125 : Cond.methodLink "GingerRents" 125 ⟨"GingerRents$Borough", "has", "(I)Z"⟩ ∈ tb := tb_in (in_t2 _ (List.mem_of_getElem? (i := 186) rfl)) rfl
theorem mlX_129 : Cond.methodLink "GingerRents" 129 ⟨"GingerRents", "mostToSet", "(I)I"⟩ ∈ tb := tb_in (in_t2 _ (List.mem_of_getElem? (i := 190) rfl)) rfl
theorem mlX_133 : Cond.methodLink "GingerRents" 133 ⟨"GingerRents$Borough", "write", "(III)V"⟩ ∈ tb := tb_in (in_t2 _ (List.mem_of_getElem? (i := 193) rfl)) rfl
theorem fuX_49 : fu "GingerRents" 49 0 5 := ⟨_, _, _, rfl, by decide, rfl, tb_in (in_t2 _ (List.mem_of_getElem? (i := 121) rfl)) rfl⟩
theorem mlX_137 : Cond.methodLink "GingerRents" 137 ⟨"GingerRents$Season", "mayAct", "(III)Z"⟩ ∈ tb := tb_in (in_t2 _ (List.mem_of_getElem? (i := 198) rfl)) rfl
theorem fuX_34 : fu "GingerRents" 34 0 3 := ⟨_, _, _, rfl, by decide, rfl, tb_in (in_t2 _ (List.mem_of_getElem? (i := 119) rfl)) rfl⟩
theorem fuX_140 : fu "GingerRents" 140 11 5 := ⟨_, _, _, rfl, by decide, rfl, tb_in (in_t1 _ (List.mem_of_getElem? (i := 127) rfl)) rfl⟩
theorem fuX_143 : fu "GingerRents" 143 6 3 := ⟨_, _, _, rfl, by decide, rfl, tb_in (in_t1 _ (List.mem_of_getElem? (i := 104) rfl)) rfl⟩
theorem mlX_148 : Cond.methodLink "GingerRents" 148 ⟨"GingerRents$Past", "keep", "(LGingerRents$Borough;I)V"⟩ ∈ tb := tb_in (in_t2 _ (List.mem_of_getElem? (i := 220) rfl)) rfl
theorem mlX_152 : Cond.methodLink "GingerRents" 152 ⟨"GingerRents$Season", "actByHand", "(III)V"⟩ ∈ tb := tb_in (in_t2 _ (List.mem_of_getElem? (i := 231) rfl)) rfl
theorem fuX_155 : fu "GingerRents" 155 1 6 := ⟨_, _, _, rfl, by decide, rfl, tb_in (in_t1 _ (List.mem_of_getElem? (i := 57) rfl)) rfl⟩
theorem mlX_158 : Cond.methodLink "GingerRents" 158 ⟨"GingerRents$Season", "pass", "()I"⟩ ∈ tb := tb_in (in_t3 _ (List.mem_of_getElem? (i := 56) rfl)) rfl
theorem fuX_66 : fu "GingerRents" 66 0 8 := ⟨_, _, _, rfl, by decide, rfl, tb_in (in_t2 _ (List.mem_of_getElem? (i := 124) rfl)) rfl⟩
theorem fuX_162 : fu "GingerRents" 162 10 4 := ⟨_, _, _, rfl, by decide, rfl, tb_in (in_t2 _ (List.mem_of_getElem? (i := 13) rfl)) rfl⟩
theorem mlX_165 : Cond.methodLink "GingerRents" 165 ⟨"GingerRents$Tape", "take", "(I)V"⟩ ∈ tb := tb_in (in_t3 _ (List.mem_of_getElem? (i := 158) rfl)) rfl
theorem fuX_75 : fu "GingerRents" 75 0 9 := ⟨_, _, _, rfl, by decide, rfl, tb_in (in_t2 _ (List.mem_of_getElem? (i := 125) rfl)) rfl⟩
theorem mlX_169 : Cond.methodLink "GingerRents" 169 ⟨"GingerRents$Reader", "forgetFault", "()V"⟩ ∈ tb := tb_in (in_t3 _ (List.mem_of_getElem? (i := 170) rfl)) rfl
theorem mlX_172 : Cond.methodLink "GingerRents" 172 ⟨"GingerRents$Reader", "reads", "(II)Z"⟩ ∈ tb := tb_in (in_t3 _ (List.mem_of_getElem? (i := 174) rfl)) rfl
theorem mlX_176 : Cond.methodLink "GingerRents" 176 ⟨"GingerRents", "keepText", "(I)I"⟩ ∈ tb := tb_in (in_t4 _ (List.mem_of_getElem? (i := 157) rfl)) rfl
theorem fuX_179 : fu "GingerRents" 179 5 2 := ⟨_, _, _, rfl, by decide, rfl, tb_in (in_t2 _ (List.mem_of_getElem? (i := 44) rfl)) rfl⟩
theorem fuX_182 : fu "GingerRents" 182 5 3 := ⟨_, _, _, rfl, by decide, rfl, tb_in (in_t2 _ (List.mem_of_getElem? (i := 46) rfl)) rfl⟩
theorem mlX_185 : Cond.methodLink "GingerRents" 185 ⟨"GingerRents$Borough", "read", "(II)I"⟩ ∈ tb := tb_in (in_t4 _ (List.mem_of_getElem? (i := 174) rfl)) rfl
theorem fuX_189 : fu "GingerRents" 189 7 2 := ⟨_, _, _, rfl, by decide, rfl, tb_in (in_t1 _ (List.mem_of_getElem? (i := 205) rfl)) rfl⟩
theorem mlX_192 : Cond.methodLink "GingerRents" 192 ⟨"GingerRents$Borough", "thickest", "(I)I"⟩ ∈ tb := tb_in (in_t4 _ (List.mem_of_getElem? (i := 175) rfl)) rfl
theorem mlX_195 : Cond.methodLink "GingerRents" 195 ⟨"GingerRents$Law", "tells", "(LGingerRents$Borough;III)I"⟩ ∈ tb := tb_in (in_t4 _ (List.mem_of_getElem? (i := 176) rfl)) rfl
theorem mlX_199 : Cond.methodLink "GingerRents" 199 ⟨"GingerRents$Told", "nextTo", "(I)I"⟩ ∈ tb := tb_in (in_t4 _ (List.mem_of_getElem? (i := 177) rfl)) rfl
theorem mlX_202 : Cond.methodLink "GingerRents" 202 ⟨"GingerRents$Rows", "at", "(II)I"⟩ ∈ tb := tb_in (in_t4 _ (List.mem_of_getElem? (i := 182) rfl)) rfl
theorem fuX_31 : fu "GingerRents" 31 0 2 := ⟨_, _, _, rfl, by decide, rfl, tb_in (in_t2 _ (List.mem_of_getElem? (i := 118) rfl)) rfl⟩
theorem mlX_205 : Cond.methodLink "GingerRents" 205 ⟨"GingerRents$Borough", "copyFrom", "(LGingerRents$Borough;)V"⟩ ∈ tb := tb_in (in_t4 _ (List.mem_of_getElem? (i := 187) rfl)) rfl
theorem fuX_53 : fu "GingerRents" 53 0 6 := ⟨_, _, _, rfl, by decide, rfl, tb_in (in_t2 _ (List.mem_of_getElem? (i := 122) rfl)) rfl⟩
theorem fuX_209 : fu "GingerRents" 209 1 4 := ⟨_, _, _, rfl, by decide, rfl, tb_in (in_t1 _ (List.mem_of_getElem? (i := 50) rfl)) rfl⟩
theorem mlX_212 : Cond.methodLink "GingerRents" 212 ⟨"GingerRents$Borough", "countUp", "()I"⟩ ∈ tb := tb_in (in_t4 _ (List.mem_of_getElem? (i := 188) rfl)) rfl
theorem mlX_215 : Cond.methodLink "GingerRents" 215 ⟨"GingerRents$Borough", "total", "(I)I"⟩ ∈ tb := tb_in (in_t4 _ (List.mem_of_getElem? (i := 189) rfl)) rfl
theorem mlX_218 : Cond.methodLink "GingerRents" 218 ⟨"GingerRents$Borough", "isUp", "(I)Z"⟩ ∈ tb := tb_in (in_t4 _ (List.mem_of_getElem? (i := 197) rfl)) rfl
theorem mlX_221 : Cond.methodLink "GingerRents" 221 ⟨"GingerRents", "cheapestWay", "(IIZ)I"⟩ ∈ tb := tb_in (in_t4 _ (List.mem_of_getElem? (i := 202) rfl)) rfl
theorem fuX_82 : fu "GingerRents" 82 0 10 := ⟨_, _, _, rfl, by decide, rfl, tb_in (in_t2 _ (List.mem_of_getElem? (i := 126) rfl)) rfl⟩
theorem fuX_225 : fu "GingerRents" 225 11 4 := ⟨_, _, _, rfl, by decide, rfl, tb_in (in_t1 _ (List.mem_of_getElem? (i := 125) rfl)) rfl⟩
theorem mlX_228 : Cond.methodLink "GingerRents" 228 ⟨"GingerRents$Street", "spread", "(LGingerRents$Borough;LGingerRents$Rows;IZ)V"⟩ ∈ tb := tb_in (in_t4 _ (List.mem_of_getElem? (i := 206) rfl)) rfl
theorem mlX_232 : Cond.methodLink "GingerRents" 232 ⟨"GingerRents$Street", "countWithin", "(III)I"⟩ ∈ tb := tb_in (in_t4 _ (List.mem_of_getElem? (i := 227) rfl)) rfl
theorem fuX_235 : fu "GingerRents" 235 11 6 := ⟨_, _, _, rfl, by decide, rfl, tb_in (in_t1 _ (List.mem_of_getElem? (i := 130) rfl)) rfl⟩
theorem mlX_238 : Cond.methodLink "GingerRents" 238 ⟨"GingerRents", "tell", "(LGingerRents$Rows;ZZII)I"⟩ ∈ tb := tb_in (in_t4 _ (List.mem_of_getElem? (i := 239) rfl)) rfl
theorem mlX_242 : ("GingerRents", 242, (⟨"GingerRents$Kitchen", "leastShare", "(LGingerRents$Rows;II)I"⟩ : MethodName)) ∈ nsL := by decide
theorem mlX_246 : Cond.methodLink "GingerRents" 246 ⟨"GingerRents$Kitchen", "secondShare", "(LGingerRents$Rows;I)I"⟩ ∈ tb := tb_in (in_t5 _ (List.mem_of_getElem? (i := 14) rfl)) rfl
theorem fuX_250 : fu "GingerRents" 250 11 7 := ⟨_, _, _, rfl, by decide, rfl, tb_in (in_t1 _ (List.mem_of_getElem? (i := 132) rfl)) rfl⟩
theorem mlX_253 : Cond.methodLink "GingerRents" 253 ⟨"GingerRents$Kitchen", "greatest", "(LGingerRents$Rows;)I"⟩ ∈ tb := tb_in (in_t5 _ (List.mem_of_getElem? (i := 25) rfl)) rfl
theorem fuX_89 : fu "GingerRents" 89 0 11 := ⟨_, _, _, rfl, by decide, rfl, tb_in (in_t2 _ (List.mem_of_getElem? (i := 127) rfl)) rfl⟩
theorem mlX_257 : Cond.methodLink "GingerRents" 257 ⟨"GingerRents$Kitchen", "fewestPans", "(LGingerRents$Rows;I)I"⟩ ∈ tb := tb_in (in_t5 _ (List.mem_of_getElem? (i := 28) rfl)) rfl
theorem mlX_260 : Cond.methodLink "GingerRents" 260 ⟨"GingerRents$Kitchen", "firstFitPans", "(LGingerRents$Rows;I)I"⟩ ∈ tb := tb_in (in_t5 _ (List.mem_of_getElem? (i := 35) rfl)) rfl
theorem mlX_263 : Cond.methodLink "GingerRents" 263 ⟨"GingerRents$Kitchen", "payOff", "(IIIZ)I"⟩ ∈ tb := tb_in (in_t5 _ (List.mem_of_getElem? (i := 43) rfl)) rfl
theorem fuX_267 : fu "GingerRents" 267 11 8 := ⟨_, _, _, rfl, by decide, rfl, tb_in (in_t1 _ (List.mem_of_getElem? (i := 134) rfl)) rfl⟩
theorem mlX_270 : Cond.methodLink "GingerRents" 270 ⟨"GingerRents$Kitchen", "countLengths", "(LGingerRents$Rows;)I"⟩ ∈ tb := tb_in (in_t5 _ (List.mem_of_getElem? (i := 54) rfl)) rfl
theorem mlX_273 : Cond.methodLink "GingerRents" 273 ⟨"GingerRents$Kitchen", "leastMissing", "(LGingerRents$Rows;)I"⟩ ∈ tb := tb_in (in_t5 _ (List.mem_of_getElem? (i := 70) rfl)) rfl
theorem fuX_276 : fu "GingerRents" 276 11 9 := ⟨_, _, _, rfl, by decide, rfl, tb_in (in_t1 _ (List.mem_of_getElem? (i := 136) rfl)) rfl⟩
theorem mlX_279 : Cond.methodLink "GingerRents" 279 ⟨"GingerRents$Kitchen", "biters", "(LGingerRents$Rows;II)I"⟩ ∈ tb := tb_in (in_t5 _ (List.mem_of_getElem? (i := 81) rfl)) rfl
theorem fuX_282 : fu "GingerRents" 282 11 10 := ⟨_, _, _, rfl, by decide, rfl, tb_in (in_t1 _ (List.mem_of_getElem? (i := 138) rfl)) rfl⟩
theorem mlX_285 : Cond.methodLink "GingerRents" 285 ⟨"GingerRents$Kitchen", "wayHome", "(LGingerRents$Rows;)I"⟩ ∈ tb := tb_in (in_t5 _ (List.mem_of_getElem? (i := 92) rfl)) rfl
theorem mlX_288 : Cond.methodLink "GingerRents" 288 ⟨"GingerRents$Kitchen", "placesCrossed", "(LGingerRents$Rows;)I"⟩ ∈ tb := tb_in (in_t5 _ (List.mem_of_getElem? (i := 100) rfl)) rfl
theorem fuX_291 : fu "GingerRents" 291 11 11 := ⟨_, _, _, rfl, by decide, rfl, tb_in (in_t1 _ (List.mem_of_getElem? (i := 140) rfl)) rfl⟩
theorem mlX_294 : ("GingerRents", 294, (⟨"GingerRents$Kitchen", "doneBy", "(LGingerRents$Rows;III)I"⟩ : MethodName)) ∈ nsL := by decide
theorem mlX_298 : Cond.methodLink "GingerRents" 298 ⟨"GingerRents$Kitchen", "loafAt", "(LGingerRents$Rows;I)I"⟩ ∈ tb := tb_in (in_t5 _ (List.mem_of_getElem? (i := 117) rfl)) rfl
theorem mlX_301 : Cond.methodLink "GingerRents" 301 ⟨"GingerRents$Street", "mostAlone", "(LGingerRents$Borough;LGingerRents$Told;)I"⟩ ∈ tb := tb_in (in_t5 _ (List.mem_of_getElem? (i := 127) rfl)) rfl
theorem mlX_305 : Cond.methodLink "GingerRents" 305 ⟨"java/lang/Integer", "bitCount", "(I)I"⟩ ∈ tb := tb_in (in_t5 _ (List.mem_of_getElem? (i := 138) rfl)) rfl
theorem fuX_310 : fu "GingerRents" 310 11 12 := ⟨_, _, _, rfl, by decide, rfl, tb_in (in_t1 _ (List.mem_of_getElem? (i := 142) rfl)) rfl⟩
theorem mlX_313 : Cond.methodLink "GingerRents" 313 ⟨"GingerRents$Kitchen", "lineOf", "(LGingerRents$Rows;IZ)I"⟩ ∈ tb := tb_in (in_t5 _ (List.mem_of_getElem? (i := 147) rfl)) rfl
theorem mlX_317 : Cond.methodLink "GingerRents" 317 ⟨"GingerRents$Kitchen", "windowWays", "(I)I"⟩ ∈ tb := tb_in (in_t5 _ (List.mem_of_getElem? (i := 157) rfl)) rfl
theorem fuX_320 : fu "GingerRents" 320 11 13 := ⟨_, _, _, rfl, by decide, rfl, tb_in (in_t1 _ (List.mem_of_getElem? (i := 144) rfl)) rfl⟩
theorem mlX_323 : Cond.methodLink "GingerRents" 323 ⟨"GingerRents$Kitchen", "agreed", "(LGingerRents$Rows;)I"⟩ ∈ tb := tb_in (in_t5 _ (List.mem_of_getElem? (i := 168) rfl)) rfl
theorem mlX_326 : Cond.methodLink "GingerRents" 326 ⟨"GingerRents$Kitchen", "leastMajority", "(LGingerRents$Rows;)I"⟩ ∈ tb := tb_in (in_t5 _ (List.mem_of_getElem? (i := 174) rfl)) rfl
theorem fuX_96 : fu "GingerRents" 96 0 12 := ⟨_, _, _, rfl, by decide, rfl, tb_in (in_t2 _ (List.mem_of_getElem? (i := 128) rfl)) rfl⟩
theorem mlX_329 : Cond.methodLink "GingerRents" 329 ⟨"GingerRents$Slab", "bestBite", "(II)I"⟩ ∈ tb := tb_in (in_t5 _ (List.mem_of_getElem? (i := 181) rfl)) rfl
theorem fuX_332 : fu "GingerRents" 332 4 3 := ⟨_, _, _, rfl, by decide, rfl, tb_in (in_t1 _ (List.mem_of_getElem? (i := 229) rfl)) rfl⟩
theorem mlX_335 : Cond.methodLink "GingerRents" 335 ⟨"GingerRents$Past", "goBack", "(LGingerRents$Borough;)I"⟩ ∈ tb := tb_in (in_t5 _ (List.mem_of_getElem? (i := 212) rfl)) rfl
theorem fuX_38 : fu "GingerRents" 38 0 1 := ⟨_, _, _, rfl, by decide, rfl, tb_in (in_t2 _ (List.mem_of_getElem? (i := 117) rfl)) rfl⟩
theorem fuX_41 : fu "GingerRents" 41 0 4 := ⟨_, _, _, rfl, by decide, rfl, tb_in (in_t2 _ (List.mem_of_getElem? (i := 120) rfl)) rfl⟩
theorem mlX_339 : Cond.methodLink "GingerRents" 339 ⟨"GingerRents$Told", "copyFrom", "(LGingerRents$Told;)V"⟩ ∈ tb := tb_in (in_t5 _ (List.mem_of_getElem? (i := 221) rfl)) rfl
theorem fuX_100 : fu "GingerRents" 100 0 13 := ⟨_, _, _, rfl, by decide, rfl, tb_in (in_t2 _ (List.mem_of_getElem? (i := 129) rfl)) rfl⟩
theorem fuX_342 : fu "GingerRents" 342 1 3 := ⟨_, _, _, rfl, by decide, rfl, tb_in (in_t1 _ (List.mem_of_getElem? (i := 48) rfl)) rfl⟩
theorem fuX_345 : fu "GingerRents" 345 1 5 := ⟨_, _, _, rfl, by decide, rfl, tb_in (in_t1 _ (List.mem_of_getElem? (i := 54) rfl)) rfl⟩
theorem mlX_348 : Cond.methodLink "GingerRents" 348 ⟨"GingerRents$Borough", "upSet", "()I"⟩ ∈ tb := tb_in (in_t5 _ (List.mem_of_getElem? (i := 230) rfl)) rfl
theorem fuX_15 : fu "GingerRents" 15 11 0 := ⟨_, _, _, rfl, by decide, rfl, tb_in (in_t1 _ (List.mem_of_getElem? (i := 115) rfl)) rfl⟩
theorem fuX_351 : fu "GingerRents" 351 11 2 := ⟨_, _, _, rfl, by decide, rfl, tb_in (in_t1 _ (List.mem_of_getElem? (i := 120) rfl)) rfl⟩
theorem fuX_354 : fu "GingerRents" 354 11 3 := ⟨_, _, _, rfl, by decide, rfl, tb_in (in_t1 _ (List.mem_of_getElem? (i := 123) rfl)) rfl⟩
theorem mlX_357 : Cond.methodLink "GingerRents" 357 ⟨"GingerRents$Rows", "add", "(IIIII)Z"⟩ ∈ tb := tb_in (in_t5 _ (List.mem_of_getElem? (i := 2) rfl)) rfl
theorem fuX_361 : fu "GingerRents" 361 5 0 := ⟨_, _, _, rfl, by decide, rfl, tb_in (in_t2 _ (List.mem_of_getElem? (i := 40) rfl)) rfl⟩
theorem mlX_363 : Cond.methodLink "GingerRents" 363 ⟨"GingerRents$Rows", "copyFrom", "(LGingerRents$Rows;)V"⟩ ∈ tb := tb_in (in_t4 _ (List.mem_of_getElem? (i := 161) rfl)) rfl
theorem fuX_19 : fu "GingerRents" 19 11 1 := ⟨_, _, _, rfl, by decide, rfl, tb_in (in_t1 _ (List.mem_of_getElem? (i := 117) rfl)) rfl⟩
theorem fuX_366 : fu "GingerRents" 366 5 1 := ⟨_, _, _, rfl, by decide, rfl, tb_in (in_t2 _ (List.mem_of_getElem? (i := 42) rfl)) rfl⟩
theorem mlX_367 : Cond.methodLink "GingerRents" 367 ⟨"GingerRents$Street", "costTo", "(I)I"⟩ ∈ tb := tb_in (in_t4 _ (List.mem_of_getElem? (i := 219) rfl)) rfl
def wl_X_state_0 : List Nat := [42, 180, 0, 25, 180, 0, 104, 61, 42, 180, 0, 25, 27, 181, 0, 104, 42, 180, 0, 59, 182, 0, 108, 28, 172]
theorem wi_X_state_0 : oC tX_state.2.1 0 wl_X_state_0 = true := by decide +kernel
theorem dX_state_0 : dl tX_state 0 .aload_n .aload 0 1 := Or.inl ⟨0, o_42 (oW (K := 0) (r := 0) wi_X_state_0 rfl), rfl, rfl⟩
theorem dX_state_1 : dn tX_state 1 (.getfield 25) 3 4 := ⟨o_180 0 25 25 (oWd (K := 0) (r := 1) wi_X_state_0 rfl), rfl⟩
theorem dX_state_4 : dn tX_state 4 (.getfield 104) 3 7 := ⟨o_180 0 104 104 (oWd (K := 0) (r := 4) wi_X_state_0 rfl), rfl⟩
theorem dX_state_7 : dl tX_state 7 .istore_n .istore 2 8 := Or.inl ⟨2, o_61 (oW (K := 0) (r := 7) wi_X_state_0 rfl), rfl, rfl⟩
theorem dX_state_8 : dl tX_state 8 .aload_n .aload 0 9 := Or.inl ⟨0, o_42 (oW (K := 0) (r := 8) wi_X_state_0 rfl), rfl, rfl⟩
theorem dX_state_9 : dn tX_state 9 (.getfield 25) 3 12 := ⟨o_180 0 25 25 (oWd (K := 0) (r := 9) wi_X_state_0 rfl), rfl⟩
theorem dX_state_12 : dl tX_state 12 .iload_n .iload 1 13 := Or.inl ⟨1, o_27 (oW (K := 0) (r := 12) wi_X_state_0 rfl), rfl, rfl⟩
theorem dX_state_13 : dn tX_state 13 (.putfield 104) 3 16 := ⟨o_181 0 104 104 (oWd (K := 0) (r := 13) wi_X_state_0 rfl), rfl⟩
theorem dX_state_16 : dl tX_state 16 .aload_n .aload 0 17 := Or.inl ⟨0, o_42 (oW (K := 0) (r := 16) wi_X_state_0 rfl), rfl, rfl⟩
theorem dX_state_17 : dn tX_state 17 (.getfield 59) 3 20 := ⟨o_180 0 59 59 (oWd (K := 0) (r := 17) wi_X_state_0 rfl), rfl⟩
theorem dX_state_20 : dn tX_state 20 (.invokevirtual 108) 3 23 := ⟨o_182 0 108 108 (oWd (K := 0) (r := 20) wi_X_state_0 rfl), rfl⟩
theorem dX_state_23 : dl tX_state 23 .iload_n .iload 2 24 := Or.inl ⟨2, o_28 (oW (K := 0) (r := 23) wi_X_state_0 rfl), rfl, rfl⟩
theorem dX_state_24 : dn tX_state 24 (.ireturn) 1 25 := ⟨o_172 (oW (K := 0) (r := 24) wi_X_state_0 rfl), rfl⟩
def wl_X_house_0 : List Nat := [27, 3, 16, 99, 184, 0, 111, 153, 0, 27, 28, 3, 16, 9, 184, 0, 111, 153, 0, 17, 29, 3, 16, 9, 184, 0, 111, 153, 0, 7, 4, 167, 0, 4, 3, 54, 4, 21]
theorem wi_X_house_0 : oC tX_house.2.1 0 wl_X_house_0 = true := by decide +kernel
theorem dX_house_0 : dl tX_house 0 .iload_n .iload 1 1 := Or.inl ⟨1, o_27 (oW (K := 0) (r := 0) wi_X_house_0 rfl), rfl, rfl⟩
theorem dX_house_1 : dn tX_house 1 (.iconst 0) 1 2 := ⟨o_3 (oW (K := 0) (r := 1) wi_X_house_0 rfl), rfl⟩
theorem dX_house_2 : dn tX_house 2 (.bipush 99) 2 4 := ⟨o_16 99 99 (oWd (K := 0) (r := 2) wi_X_house_0 rfl), rfl⟩
theorem dX_house_4 : dn tX_house 4 (.invokestatic 111) 3 7 := ⟨o_184 0 111 111 (oWd (K := 0) (r := 4) wi_X_house_0 rfl), rfl⟩
theorem dX_house_7 : db tX_house 7 (.ifCond .eq) 34 10 := ⟨27, o_153 0 27 27 (oWd (K := 0) (r := 7) wi_X_house_0 rfl), rfl, rfl⟩
theorem dX_house_10 : dl tX_house 10 .iload_n .iload 2 11 := Or.inl ⟨2, o_28 (oW (K := 0) (r := 10) wi_X_house_0 rfl), rfl, rfl⟩
theorem dX_house_11 : dn tX_house 11 (.iconst 0) 1 12 := ⟨o_3 (oW (K := 0) (r := 11) wi_X_house_0 rfl), rfl⟩
theorem dX_house_12 : dn tX_house 12 (.bipush 9) 2 14 := ⟨o_16 9 9 (oWd (K := 0) (r := 12) wi_X_house_0 rfl), rfl⟩
theorem dX_house_14 : dn tX_house 14 (.invokestatic 111) 3 17 := ⟨o_184 0 111 111 (oWd (K := 0) (r := 14) wi_X_house_0 rfl), rfl⟩
theorem dX_house_17 : db tX_house 17 (.ifCond .eq) 34 20 := ⟨17, o_153 0 17 17 (oWd (K := 0) (r := 17) wi_X_house_0 rfl), rfl, rfl⟩
theorem dX_house_20 : dl tX_house 20 .iload_n .iload 3 21 := Or.inl ⟨3, o_29 (oW (K := 0) (r := 20) wi_X_house_0 rfl), rfl, rfl⟩
theorem dX_house_21 : dn tX_house 21 (.iconst 0) 1 22 := ⟨o_3 (oW (K := 0) (r := 21) wi_X_house_0 rfl), rfl⟩
theorem dX_house_22 : dn tX_house 22 (.bipush 9) 2 24 := ⟨o_16 9 9 (oWd (K := 0) (r := 22) wi_X_house_0 rfl), rfl⟩
theorem dX_house_24 : dn tX_house 24 (.invokestatic 111) 3 27 := ⟨o_184 0 111 111 (oWd (K := 0) (r := 24) wi_X_house_0 rfl), rfl⟩
theorem dX_house_27 : db tX_house 27 (.ifCond .eq) 34 30 := ⟨7, o_153 0 7 7 (oWd (K := 0) (r := 27) wi_X_house_0 rfl), rfl, rfl⟩
theorem dX_house_30 : dn tX_house 30 (.iconst 1) 1 31 := ⟨o_4 (oW (K := 0) (r := 30) wi_X_house_0 rfl), rfl⟩
theorem dX_house_31 : db tX_house 31 .goto 35 34 := ⟨4, o_167 0 4 4 (oWd (K := 0) (r := 31) wi_X_house_0 rfl), rfl, rfl⟩
def wl_X_house_32 : List Nat := [0, 4, 3, 54, 4, 21, 4, 153, 0, 15, 42, 180, 0, 25, 180, 0, 115, 16, 12, 161, 0, 5, 2, 172, 42, 180, 0, 59, 182, 0, 108, 42, 180, 0, 25, 27, 28, 29]
theorem wi_X_house_32 : oC tX_house.2.1 32 wl_X_house_32 = true := by decide +kernel
theorem dX_house_34 : dn tX_house 34 (.iconst 0) 1 35 := ⟨o_3 (oW (K := 32) (r := 2) wi_X_house_32 rfl), rfl⟩
theorem dX_house_35 : dl tX_house 35 .istore_n .istore 4 37 := Or.inr ⟨o_54 4 (oW (K := 32) (r := 3) wi_X_house_32 rfl), rfl⟩
theorem dX_house_37 : dl tX_house 37 .iload_n .iload 4 39 := Or.inr ⟨o_21 4 (oW (K := 32) (r := 5) wi_X_house_32 rfl), rfl⟩
theorem dX_house_39 : db tX_house 39 (.ifCond .eq) 54 42 := ⟨15, o_153 0 15 15 (oWd (K := 32) (r := 7) wi_X_house_32 rfl), rfl, rfl⟩
theorem dX_house_42 : dl tX_house 42 .aload_n .aload 0 43 := Or.inl ⟨0, o_42 (oW (K := 32) (r := 10) wi_X_house_32 rfl), rfl, rfl⟩
theorem dX_house_43 : dn tX_house 43 (.getfield 25) 3 46 := ⟨o_180 0 25 25 (oWd (K := 32) (r := 11) wi_X_house_32 rfl), rfl⟩
theorem dX_house_46 : dn tX_house 46 (.getfield 115) 3 49 := ⟨o_180 0 115 115 (oWd (K := 32) (r := 14) wi_X_house_32 rfl), rfl⟩
theorem dX_house_49 : dn tX_house 49 (.bipush 12) 2 51 := ⟨o_16 12 12 (oWd (K := 32) (r := 17) wi_X_house_32 rfl), rfl⟩
theorem dX_house_51 : db tX_house 51 (.if_icmp .lt) 56 54 := ⟨5, o_161 0 5 5 (oWd (K := 32) (r := 19) wi_X_house_32 rfl), rfl, rfl⟩
theorem dX_house_54 : dn tX_house 54 (.iconst (-1)) 1 55 := ⟨o_2 (oW (K := 32) (r := 22) wi_X_house_32 rfl), rfl⟩
theorem dX_house_55 : dn tX_house 55 (.ireturn) 1 56 := ⟨o_172 (oW (K := 32) (r := 23) wi_X_house_32 rfl), rfl⟩
theorem dX_house_56 : dl tX_house 56 .aload_n .aload 0 57 := Or.inl ⟨0, o_42 (oW (K := 32) (r := 24) wi_X_house_32 rfl), rfl, rfl⟩
theorem dX_house_57 : dn tX_house 57 (.getfield 59) 3 60 := ⟨o_180 0 59 59 (oWd (K := 32) (r := 25) wi_X_house_32 rfl), rfl⟩
theorem dX_house_60 : dn tX_house 60 (.invokevirtual 108) 3 63 := ⟨o_182 0 108 108 (oWd (K := 32) (r := 28) wi_X_house_32 rfl), rfl⟩
theorem dX_house_63 : dl tX_house 63 .aload_n .aload 0 64 := Or.inl ⟨0, o_42 (oW (K := 32) (r := 31) wi_X_house_32 rfl), rfl, rfl⟩
def wl_X_house_64 : List Nat := [180, 0, 25, 27, 28, 29, 182, 0, 118, 172]
theorem wi_X_house_64 : oC tX_house.2.1 64 wl_X_house_64 = true := by decide +kernel
theorem dX_house_64 : dn tX_house 64 (.getfield 25) 3 67 := ⟨o_180 0 25 25 (oWd (K := 64) (r := 0) wi_X_house_64 rfl), rfl⟩
theorem dX_house_67 : dl tX_house 67 .iload_n .iload 1 68 := Or.inl ⟨1, o_27 (oW (K := 64) (r := 3) wi_X_house_64 rfl), rfl, rfl⟩
theorem dX_house_68 : dl tX_house 68 .iload_n .iload 2 69 := Or.inl ⟨2, o_28 (oW (K := 64) (r := 4) wi_X_house_64 rfl), rfl, rfl⟩
theorem dX_house_69 : dl tX_house 69 .iload_n .iload 3 70 := Or.inl ⟨3, o_29 (oW (K := 64) (r := 5) wi_X_house_64 rfl), rfl, rfl⟩
theorem dX_house_70 : dn tX_house 70 (.invokevirtual 118) 3 73 := ⟨o_182 0 118 118 (oWd (K := 64) (r := 6) wi_X_house_64 rfl), rfl⟩
theorem dX_house_73 : dn tX_house 73 (.ireturn) 1 74 := ⟨o_172 (oW (K := 64) (r := 9) wi_X_house_64 rfl), rfl⟩
def wl_X_set_0 : List Nat := [27, 16, 8, 160, 0, 26, 29, 3, 16, 9, 184, 0, 111, 154, 0, 5, 3, 172, 42, 180, 0, 25, 29, 181, 0, 122, 167, 0, 48, 27, 3, 16, 7, 184, 0, 111, 153, 0]
theorem wi_X_set_0 : oC tX_set.2.1 0 wl_X_set_0 = true := by decide +kernel
theorem dX_set_0 : dl tX_set 0 .iload_n .iload 1 1 := Or.inl ⟨1, o_27 (oW (K := 0) (r := 0) wi_X_set_0 rfl), rfl, rfl⟩
theorem dX_set_1 : dn tX_set 1 (.bipush 8) 2 3 := ⟨o_16 8 8 (oWd (K := 0) (r := 1) wi_X_set_0 rfl), rfl⟩
theorem dX_set_3 : db tX_set 3 (.if_icmp .ne) 29 6 := ⟨26, o_160 0 26 26 (oWd (K := 0) (r := 3) wi_X_set_0 rfl), rfl, rfl⟩
theorem dX_set_6 : dl tX_set 6 .iload_n .iload 3 7 := Or.inl ⟨3, o_29 (oW (K := 0) (r := 6) wi_X_set_0 rfl), rfl, rfl⟩
theorem dX_set_7 : dn tX_set 7 (.iconst 0) 1 8 := ⟨o_3 (oW (K := 0) (r := 7) wi_X_set_0 rfl), rfl⟩
theorem dX_set_8 : dn tX_set 8 (.bipush 9) 2 10 := ⟨o_16 9 9 (oWd (K := 0) (r := 8) wi_X_set_0 rfl), rfl⟩
theorem dX_set_10 : dn tX_set 10 (.invokestatic 111) 3 13 := ⟨o_184 0 111 111 (oWd (K := 0) (r := 10) wi_X_set_0 rfl), rfl⟩
theorem dX_set_13 : db tX_set 13 (.ifCond .ne) 18 16 := ⟨5, o_154 0 5 5 (oWd (K := 0) (r := 13) wi_X_set_0 rfl), rfl, rfl⟩
theorem dX_set_16 : dn tX_set 16 (.iconst 0) 1 17 := ⟨o_3 (oW (K := 0) (r := 16) wi_X_set_0 rfl), rfl⟩
theorem dX_set_17 : dn tX_set 17 (.ireturn) 1 18 := ⟨o_172 (oW (K := 0) (r := 17) wi_X_set_0 rfl), rfl⟩
theorem dX_set_18 : dl tX_set 18 .aload_n .aload 0 19 := Or.inl ⟨0, o_42 (oW (K := 0) (r := 18) wi_X_set_0 rfl), rfl, rfl⟩
theorem dX_set_19 : dn tX_set 19 (.getfield 25) 3 22 := ⟨o_180 0 25 25 (oWd (K := 0) (r := 19) wi_X_set_0 rfl), rfl⟩
theorem dX_set_22 : dl tX_set 22 .iload_n .iload 3 23 := Or.inl ⟨3, o_29 (oW (K := 0) (r := 22) wi_X_set_0 rfl), rfl, rfl⟩
theorem dX_set_23 : dn tX_set 23 (.putfield 122) 3 26 := ⟨o_181 0 122 122 (oWd (K := 0) (r := 23) wi_X_set_0 rfl), rfl⟩
theorem dX_set_26 : db tX_set 26 .goto 74 29 := ⟨48, o_167 0 48 48 (oWd (K := 0) (r := 26) wi_X_set_0 rfl), rfl, rfl⟩
theorem dX_set_29 : dl tX_set 29 .iload_n .iload 1 30 := Or.inl ⟨1, o_27 (oW (K := 0) (r := 29) wi_X_set_0 rfl), rfl, rfl⟩
theorem dX_set_30 : dn tX_set 30 (.iconst 0) 1 31 := ⟨o_3 (oW (K := 0) (r := 30) wi_X_set_0 rfl), rfl⟩
theorem dX_set_31 : dn tX_set 31 (.bipush 7) 2 33 := ⟨o_16 7 7 (oWd (K := 0) (r := 31) wi_X_set_0 rfl), rfl⟩
def wl_X_set_32 : List Nat := [7, 184, 0, 111, 153, 0, 26, 42, 180, 0, 25, 28, 182, 0, 125, 153, 0, 15, 29, 3, 27, 184, 0, 129, 184, 0, 111, 154, 0, 5, 3, 172, 42, 180, 0, 25, 28, 27]
theorem wi_X_set_32 : oC tX_set.2.1 32 wl_X_set_32 = true := by decide +kernel
theorem dX_set_33 : dn tX_set 33 (.invokestatic 111) 3 36 := ⟨o_184 0 111 111 (oWd (K := 32) (r := 1) wi_X_set_32 rfl), rfl⟩
theorem dX_set_36 : db tX_set 36 (.ifCond .eq) 62 39 := ⟨26, o_153 0 26 26 (oWd (K := 32) (r := 4) wi_X_set_32 rfl), rfl, rfl⟩
theorem dX_set_39 : dl tX_set 39 .aload_n .aload 0 40 := Or.inl ⟨0, o_42 (oW (K := 32) (r := 7) wi_X_set_32 rfl), rfl, rfl⟩
theorem dX_set_40 : dn tX_set 40 (.getfield 25) 3 43 := ⟨o_180 0 25 25 (oWd (K := 32) (r := 8) wi_X_set_32 rfl), rfl⟩
theorem dX_set_43 : dl tX_set 43 .iload_n .iload 2 44 := Or.inl ⟨2, o_28 (oW (K := 32) (r := 11) wi_X_set_32 rfl), rfl, rfl⟩
theorem dX_set_44 : dn tX_set 44 (.invokevirtual 125) 3 47 := ⟨o_182 0 125 125 (oWd (K := 32) (r := 12) wi_X_set_32 rfl), rfl⟩
theorem dX_set_47 : db tX_set 47 (.ifCond .eq) 62 50 := ⟨15, o_153 0 15 15 (oWd (K := 32) (r := 15) wi_X_set_32 rfl), rfl, rfl⟩
theorem dX_set_50 : dl tX_set 50 .iload_n .iload 3 51 := Or.inl ⟨3, o_29 (oW (K := 32) (r := 18) wi_X_set_32 rfl), rfl, rfl⟩
theorem dX_set_51 : dn tX_set 51 (.iconst 0) 1 52 := ⟨o_3 (oW (K := 32) (r := 19) wi_X_set_32 rfl), rfl⟩
theorem dX_set_52 : dl tX_set 52 .iload_n .iload 1 53 := Or.inl ⟨1, o_27 (oW (K := 32) (r := 20) wi_X_set_32 rfl), rfl, rfl⟩
theorem dX_set_53 : dn tX_set 53 (.invokestatic 129) 3 56 := ⟨o_184 0 129 129 (oWd (K := 32) (r := 21) wi_X_set_32 rfl), rfl⟩
theorem dX_set_56 : dn tX_set 56 (.invokestatic 111) 3 59 := ⟨o_184 0 111 111 (oWd (K := 32) (r := 24) wi_X_set_32 rfl), rfl⟩
theorem dX_set_59 : db tX_set 59 (.ifCond .ne) 64 62 := ⟨5, o_154 0 5 5 (oWd (K := 32) (r := 27) wi_X_set_32 rfl), rfl, rfl⟩
theorem dX_set_62 : dn tX_set 62 (.iconst 0) 1 63 := ⟨o_3 (oW (K := 32) (r := 30) wi_X_set_32 rfl), rfl⟩
theorem dX_set_63 : dn tX_set 63 (.ireturn) 1 64 := ⟨o_172 (oW (K := 32) (r := 31) wi_X_set_32 rfl), rfl⟩
def wl_X_set_64 : List Nat := [42, 180, 0, 25, 28, 27, 29, 182, 0, 133, 42, 180, 0, 59, 182, 0, 108, 4, 172]
theorem wi_X_set_64 : oC tX_set.2.1 64 wl_X_set_64 = true := by decide +kernel
theorem dX_set_64 : dl tX_set 64 .aload_n .aload 0 65 := Or.inl ⟨0, o_42 (oW (K := 64) (r := 0) wi_X_set_64 rfl), rfl, rfl⟩
theorem dX_set_65 : dn tX_set 65 (.getfield 25) 3 68 := ⟨o_180 0 25 25 (oWd (K := 64) (r := 1) wi_X_set_64 rfl), rfl⟩
theorem dX_set_68 : dl tX_set 68 .iload_n .iload 2 69 := Or.inl ⟨2, o_28 (oW (K := 64) (r := 4) wi_X_set_64 rfl), rfl, rfl⟩
theorem dX_set_69 : dl tX_set 69 .iload_n .iload 1 70 := Or.inl ⟨1, o_27 (oW (K := 64) (r := 5) wi_X_set_64 rfl), rfl, rfl⟩
theorem dX_set_70 : dl tX_set 70 .iload_n .iload 3 71 := Or.inl ⟨3, o_29 (oW (K := 64) (r := 6) wi_X_set_64 rfl), rfl, rfl⟩
theorem dX_set_71 : dn tX_set 71 (.invokevirtual 133) 3 74 := ⟨o_182 0 133 133 (oWd (K := 64) (r := 7) wi_X_set_64 rfl), rfl⟩
theorem dX_set_74 : dl tX_set 74 .aload_n .aload 0 75 := Or.inl ⟨0, o_42 (oW (K := 64) (r := 10) wi_X_set_64 rfl), rfl, rfl⟩
theorem dX_set_75 : dn tX_set 75 (.getfield 59) 3 78 := ⟨o_180 0 59 59 (oWd (K := 64) (r := 11) wi_X_set_64 rfl), rfl⟩
theorem dX_set_78 : dn tX_set 78 (.invokevirtual 108) 3 81 := ⟨o_182 0 108 108 (oWd (K := 64) (r := 14) wi_X_set_64 rfl), rfl⟩
theorem dX_set_81 : dn tX_set 81 (.iconst 1) 1 82 := ⟨o_4 (oW (K := 64) (r := 17) wi_X_set_64 rfl), rfl⟩
theorem dX_set_82 : dn tX_set 82 (.ireturn) 1 83 := ⟨o_172 (oW (K := 64) (r := 18) wi_X_set_64 rfl), rfl⟩
def wl_X_act_0 : List Nat := [42, 180, 0, 49, 27, 28, 29, 182, 0, 137, 154, 0, 5, 3, 172, 42, 180, 0, 59, 42, 180, 0, 25, 42, 180, 0, 34, 180, 0, 140, 180, 0, 143, 182, 0, 148, 42, 180]
theorem wi_X_act_0 : oC tX_act.2.1 0 wl_X_act_0 = true := by decide +kernel
theorem dX_act_0 : dl tX_act 0 .aload_n .aload 0 1 := Or.inl ⟨0, o_42 (oW (K := 0) (r := 0) wi_X_act_0 rfl), rfl, rfl⟩
theorem dX_act_1 : dn tX_act 1 (.getfield 49) 3 4 := ⟨o_180 0 49 49 (oWd (K := 0) (r := 1) wi_X_act_0 rfl), rfl⟩
theorem dX_act_4 : dl tX_act 4 .iload_n .iload 1 5 := Or.inl ⟨1, o_27 (oW (K := 0) (r := 4) wi_X_act_0 rfl), rfl, rfl⟩
theorem dX_act_5 : dl tX_act 5 .iload_n .iload 2 6 := Or.inl ⟨2, o_28 (oW (K := 0) (r := 5) wi_X_act_0 rfl), rfl, rfl⟩
theorem dX_act_6 : dl tX_act 6 .iload_n .iload 3 7 := Or.inl ⟨3, o_29 (oW (K := 0) (r := 6) wi_X_act_0 rfl), rfl, rfl⟩
theorem dX_act_7 : dn tX_act 7 (.invokevirtual 137) 3 10 := ⟨o_182 0 137 137 (oWd (K := 0) (r := 7) wi_X_act_0 rfl), rfl⟩
theorem dX_act_10 : db tX_act 10 (.ifCond .ne) 15 13 := ⟨5, o_154 0 5 5 (oWd (K := 0) (r := 10) wi_X_act_0 rfl), rfl, rfl⟩
theorem dX_act_13 : dn tX_act 13 (.iconst 0) 1 14 := ⟨o_3 (oW (K := 0) (r := 13) wi_X_act_0 rfl), rfl⟩
theorem dX_act_14 : dn tX_act 14 (.ireturn) 1 15 := ⟨o_172 (oW (K := 0) (r := 14) wi_X_act_0 rfl), rfl⟩
theorem dX_act_15 : dl tX_act 15 .aload_n .aload 0 16 := Or.inl ⟨0, o_42 (oW (K := 0) (r := 15) wi_X_act_0 rfl), rfl, rfl⟩
theorem dX_act_16 : dn tX_act 16 (.getfield 59) 3 19 := ⟨o_180 0 59 59 (oWd (K := 0) (r := 16) wi_X_act_0 rfl), rfl⟩
theorem dX_act_19 : dl tX_act 19 .aload_n .aload 0 20 := Or.inl ⟨0, o_42 (oW (K := 0) (r := 19) wi_X_act_0 rfl), rfl, rfl⟩
theorem dX_act_20 : dn tX_act 20 (.getfield 25) 3 23 := ⟨o_180 0 25 25 (oWd (K := 0) (r := 20) wi_X_act_0 rfl), rfl⟩
theorem dX_act_23 : dl tX_act 23 .aload_n .aload 0 24 := Or.inl ⟨0, o_42 (oW (K := 0) (r := 23) wi_X_act_0 rfl), rfl, rfl⟩
theorem dX_act_24 : dn tX_act 24 (.getfield 34) 3 27 := ⟨o_180 0 34 34 (oWd (K := 0) (r := 24) wi_X_act_0 rfl), rfl⟩
theorem dX_act_27 : dn tX_act 27 (.getfield 140) 3 30 := ⟨o_180 0 140 140 (oWd (K := 0) (r := 27) wi_X_act_0 rfl), rfl⟩
theorem dX_act_30 : dn tX_act 30 (.getfield 143) 3 33 := ⟨o_180 0 143 143 (oWd (K := 0) (r := 30) wi_X_act_0 rfl), rfl⟩
def wl_X_act_32 : List Nat := [143, 182, 0, 148, 42, 180, 0, 49, 27, 28, 29, 182, 0, 152, 4, 172]
theorem wi_X_act_32 : oC tX_act.2.1 32 wl_X_act_32 = true := by decide +kernel
theorem dX_act_33 : dn tX_act 33 (.invokevirtual 148) 3 36 := ⟨o_182 0 148 148 (oWd (K := 32) (r := 1) wi_X_act_32 rfl), rfl⟩
theorem dX_act_36 : dl tX_act 36 .aload_n .aload 0 37 := Or.inl ⟨0, o_42 (oW (K := 32) (r := 4) wi_X_act_32 rfl), rfl, rfl⟩
theorem dX_act_37 : dn tX_act 37 (.getfield 49) 3 40 := ⟨o_180 0 49 49 (oWd (K := 32) (r := 5) wi_X_act_32 rfl), rfl⟩
theorem dX_act_40 : dl tX_act 40 .iload_n .iload 1 41 := Or.inl ⟨1, o_27 (oW (K := 32) (r := 8) wi_X_act_32 rfl), rfl, rfl⟩
theorem dX_act_41 : dl tX_act 41 .iload_n .iload 2 42 := Or.inl ⟨2, o_28 (oW (K := 32) (r := 9) wi_X_act_32 rfl), rfl, rfl⟩
theorem dX_act_42 : dl tX_act 42 .iload_n .iload 3 43 := Or.inl ⟨3, o_29 (oW (K := 32) (r := 10) wi_X_act_32 rfl), rfl, rfl⟩
theorem dX_act_43 : dn tX_act 43 (.invokevirtual 152) 3 46 := ⟨o_182 0 152 152 (oWd (K := 32) (r := 11) wi_X_act_32 rfl), rfl⟩
theorem dX_act_46 : dn tX_act 46 (.iconst 1) 1 47 := ⟨o_4 (oW (K := 32) (r := 14) wi_X_act_32 rfl), rfl⟩
theorem dX_act_47 : dn tX_act 47 (.ireturn) 1 48 := ⟨o_172 (oW (K := 32) (r := 15) wi_X_act_32 rfl), rfl⟩
def wl_X_quarters_0 : List Nat := [27, 4, 16, 60, 184, 0, 111, 153, 0, 18, 42, 180, 0, 25, 180, 0, 155, 27, 96, 17, 39, 15, 164, 0, 5, 2, 172, 3, 61, 3, 62, 29, 27, 162, 0, 40, 42, 180]
theorem wi_X_quarters_0 : oC tX_quarters.2.1 0 wl_X_quarters_0 = true := by decide +kernel
theorem dX_quarters_0 : dl tX_quarters 0 .iload_n .iload 1 1 := Or.inl ⟨1, o_27 (oW (K := 0) (r := 0) wi_X_quarters_0 rfl), rfl, rfl⟩
theorem dX_quarters_1 : dn tX_quarters 1 (.iconst 1) 1 2 := ⟨o_4 (oW (K := 0) (r := 1) wi_X_quarters_0 rfl), rfl⟩
theorem dX_quarters_2 : dn tX_quarters 2 (.bipush 60) 2 4 := ⟨o_16 60 60 (oWd (K := 0) (r := 2) wi_X_quarters_0 rfl), rfl⟩
theorem dX_quarters_4 : dn tX_quarters 4 (.invokestatic 111) 3 7 := ⟨o_184 0 111 111 (oWd (K := 0) (r := 4) wi_X_quarters_0 rfl), rfl⟩
theorem dX_quarters_7 : db tX_quarters 7 (.ifCond .eq) 25 10 := ⟨18, o_153 0 18 18 (oWd (K := 0) (r := 7) wi_X_quarters_0 rfl), rfl, rfl⟩
theorem dX_quarters_10 : dl tX_quarters 10 .aload_n .aload 0 11 := Or.inl ⟨0, o_42 (oW (K := 0) (r := 10) wi_X_quarters_0 rfl), rfl, rfl⟩
theorem dX_quarters_11 : dn tX_quarters 11 (.getfield 25) 3 14 := ⟨o_180 0 25 25 (oWd (K := 0) (r := 11) wi_X_quarters_0 rfl), rfl⟩
theorem dX_quarters_14 : dn tX_quarters 14 (.getfield 155) 3 17 := ⟨o_180 0 155 155 (oWd (K := 0) (r := 14) wi_X_quarters_0 rfl), rfl⟩
theorem dX_quarters_17 : dl tX_quarters 17 .iload_n .iload 1 18 := Or.inl ⟨1, o_27 (oW (K := 0) (r := 17) wi_X_quarters_0 rfl), rfl, rfl⟩
theorem dX_quarters_18 : dn tX_quarters 18 (.iadd) 1 19 := ⟨o_96 (oW (K := 0) (r := 18) wi_X_quarters_0 rfl), rfl⟩
theorem dX_quarters_19 : dn tX_quarters 19 (.sipush 9999) 3 22 := ⟨o_17 39 15 9999 (oWd (K := 0) (r := 19) wi_X_quarters_0 rfl), rfl⟩
theorem dX_quarters_22 : db tX_quarters 22 (.if_icmp .le) 27 25 := ⟨5, o_164 0 5 5 (oWd (K := 0) (r := 22) wi_X_quarters_0 rfl), rfl, rfl⟩
theorem dX_quarters_25 : dn tX_quarters 25 (.iconst (-1)) 1 26 := ⟨o_2 (oW (K := 0) (r := 25) wi_X_quarters_0 rfl), rfl⟩
theorem dX_quarters_26 : dn tX_quarters 26 (.ireturn) 1 27 := ⟨o_172 (oW (K := 0) (r := 26) wi_X_quarters_0 rfl), rfl⟩
theorem dX_quarters_27 : dn tX_quarters 27 (.iconst 0) 1 28 := ⟨o_3 (oW (K := 0) (r := 27) wi_X_quarters_0 rfl), rfl⟩
theorem dX_quarters_28 : dl tX_quarters 28 .istore_n .istore 2 29 := Or.inl ⟨2, o_61 (oW (K := 0) (r := 28) wi_X_quarters_0 rfl), rfl, rfl⟩
theorem dX_quarters_29 : dn tX_quarters 29 (.iconst 0) 1 30 := ⟨o_3 (oW (K := 0) (r := 29) wi_X_quarters_0 rfl), rfl⟩
theorem dX_quarters_30 : dl tX_quarters 30 .istore_n .istore 3 31 := Or.inl ⟨3, o_62 (oW (K := 0) (r := 30) wi_X_quarters_0 rfl), rfl, rfl⟩
theorem dX_quarters_31 : dl tX_quarters 31 .iload_n .iload 3 32 := Or.inl ⟨3, o_29 (oW (K := 0) (r := 31) wi_X_quarters_0 rfl), rfl, rfl⟩
def wl_X_quarters_32 : List Nat := [27, 162, 0, 40, 42, 180, 0, 59, 42, 180, 0, 25, 42, 180, 0, 34, 180, 0, 140, 180, 0, 143, 182, 0, 148, 28, 42, 180, 0, 49, 182, 0, 158, 96, 61, 132, 3, 1]
theorem wi_X_quarters_32 : oC tX_quarters.2.1 32 wl_X_quarters_32 = true := by decide +kernel
theorem dX_quarters_32 : dl tX_quarters 32 .iload_n .iload 1 33 := Or.inl ⟨1, o_27 (oW (K := 32) (r := 0) wi_X_quarters_32 rfl), rfl, rfl⟩
theorem dX_quarters_33 : db tX_quarters 33 (.if_icmp .ge) 73 36 := ⟨40, o_162 0 40 40 (oWd (K := 32) (r := 1) wi_X_quarters_32 rfl), rfl, rfl⟩
theorem dX_quarters_36 : dl tX_quarters 36 .aload_n .aload 0 37 := Or.inl ⟨0, o_42 (oW (K := 32) (r := 4) wi_X_quarters_32 rfl), rfl, rfl⟩
theorem dX_quarters_37 : dn tX_quarters 37 (.getfield 59) 3 40 := ⟨o_180 0 59 59 (oWd (K := 32) (r := 5) wi_X_quarters_32 rfl), rfl⟩
theorem dX_quarters_40 : dl tX_quarters 40 .aload_n .aload 0 41 := Or.inl ⟨0, o_42 (oW (K := 32) (r := 8) wi_X_quarters_32 rfl), rfl, rfl⟩
theorem dX_quarters_41 : dn tX_quarters 41 (.getfield 25) 3 44 := ⟨o_180 0 25 25 (oWd (K := 32) (r := 9) wi_X_quarters_32 rfl), rfl⟩
theorem dX_quarters_44 : dl tX_quarters 44 .aload_n .aload 0 45 := Or.inl ⟨0, o_42 (oW (K := 32) (r := 12) wi_X_quarters_32 rfl), rfl, rfl⟩
theorem dX_quarters_45 : dn tX_quarters 45 (.getfield 34) 3 48 := ⟨o_180 0 34 34 (oWd (K := 32) (r := 13) wi_X_quarters_32 rfl), rfl⟩
theorem dX_quarters_48 : dn tX_quarters 48 (.getfield 140) 3 51 := ⟨o_180 0 140 140 (oWd (K := 32) (r := 16) wi_X_quarters_32 rfl), rfl⟩
theorem dX_quarters_51 : dn tX_quarters 51 (.getfield 143) 3 54 := ⟨o_180 0 143 143 (oWd (K := 32) (r := 19) wi_X_quarters_32 rfl), rfl⟩
theorem dX_quarters_54 : dn tX_quarters 54 (.invokevirtual 148) 3 57 := ⟨o_182 0 148 148 (oWd (K := 32) (r := 22) wi_X_quarters_32 rfl), rfl⟩
theorem dX_quarters_57 : dl tX_quarters 57 .iload_n .iload 2 58 := Or.inl ⟨2, o_28 (oW (K := 32) (r := 25) wi_X_quarters_32 rfl), rfl, rfl⟩
theorem dX_quarters_58 : dl tX_quarters 58 .aload_n .aload 0 59 := Or.inl ⟨0, o_42 (oW (K := 32) (r := 26) wi_X_quarters_32 rfl), rfl, rfl⟩
theorem dX_quarters_59 : dn tX_quarters 59 (.getfield 49) 3 62 := ⟨o_180 0 49 49 (oWd (K := 32) (r := 27) wi_X_quarters_32 rfl), rfl⟩
theorem dX_quarters_62 : dn tX_quarters 62 (.invokevirtual 158) 3 65 := ⟨o_182 0 158 158 (oWd (K := 32) (r := 30) wi_X_quarters_32 rfl), rfl⟩
def wl_X_quarters_64 : List Nat := [158, 96, 61, 132, 3, 1, 167, 255, 217, 28, 172]
theorem wi_X_quarters_64 : oC tX_quarters.2.1 64 wl_X_quarters_64 = true := by decide +kernel
theorem dX_quarters_65 : dn tX_quarters 65 (.iadd) 1 66 := ⟨o_96 (oW (K := 64) (r := 1) wi_X_quarters_64 rfl), rfl⟩
theorem dX_quarters_66 : dl tX_quarters 66 .istore_n .istore 2 67 := Or.inl ⟨2, o_61 (oW (K := 64) (r := 2) wi_X_quarters_64 rfl), rfl, rfl⟩
theorem dX_quarters_67 : dn tX_quarters 67 (.iinc 3 1) 3 70 := ⟨o_132 3 1 1 (oWd (K := 64) (r := 3) wi_X_quarters_64 rfl), rfl⟩
theorem dX_quarters_70 : db tX_quarters 70 .goto 31 73 := ⟨-39, o_167 255 217 (-39) (oWd (K := 64) (r := 6) wi_X_quarters_64 rfl), rfl, rfl⟩
theorem dX_quarters_73 : dl tX_quarters 73 .iload_n .iload 2 74 := Or.inl ⟨2, o_28 (oW (K := 64) (r := 9) wi_X_quarters_64 rfl), rfl, rfl⟩
theorem dX_quarters_74 : dn tX_quarters 74 (.ireturn) 1 75 := ⟨o_172 (oW (K := 64) (r := 10) wi_X_quarters_64 rfl), rfl⟩
def wl_X_feed_0 : List Nat := [42, 180, 0, 66, 180, 0, 162, 16, 20, 96, 17, 1, 144, 164, 0, 5, 2, 172, 42, 180, 0, 66, 27, 182, 0, 165, 42, 180, 0, 66, 28, 182, 0, 165, 42, 180, 0, 66]
theorem wi_X_feed_0 : oC tX_feed.2.1 0 wl_X_feed_0 = true := by decide +kernel
theorem dX_feed_0 : dl tX_feed 0 .aload_n .aload 0 1 := Or.inl ⟨0, o_42 (oW (K := 0) (r := 0) wi_X_feed_0 rfl), rfl, rfl⟩
theorem dX_feed_1 : dn tX_feed 1 (.getfield 66) 3 4 := ⟨o_180 0 66 66 (oWd (K := 0) (r := 1) wi_X_feed_0 rfl), rfl⟩
theorem dX_feed_4 : dn tX_feed 4 (.getfield 162) 3 7 := ⟨o_180 0 162 162 (oWd (K := 0) (r := 4) wi_X_feed_0 rfl), rfl⟩
theorem dX_feed_7 : dn tX_feed 7 (.bipush 20) 2 9 := ⟨o_16 20 20 (oWd (K := 0) (r := 7) wi_X_feed_0 rfl), rfl⟩
theorem dX_feed_9 : dn tX_feed 9 (.iadd) 1 10 := ⟨o_96 (oW (K := 0) (r := 9) wi_X_feed_0 rfl), rfl⟩
theorem dX_feed_10 : dn tX_feed 10 (.sipush 400) 3 13 := ⟨o_17 1 144 400 (oWd (K := 0) (r := 10) wi_X_feed_0 rfl), rfl⟩
theorem dX_feed_13 : db tX_feed 13 (.if_icmp .le) 18 16 := ⟨5, o_164 0 5 5 (oWd (K := 0) (r := 13) wi_X_feed_0 rfl), rfl, rfl⟩
theorem dX_feed_16 : dn tX_feed 16 (.iconst (-1)) 1 17 := ⟨o_2 (oW (K := 0) (r := 16) wi_X_feed_0 rfl), rfl⟩
theorem dX_feed_17 : dn tX_feed 17 (.ireturn) 1 18 := ⟨o_172 (oW (K := 0) (r := 17) wi_X_feed_0 rfl), rfl⟩
theorem dX_feed_18 : dl tX_feed 18 .aload_n .aload 0 19 := Or.inl ⟨0, o_42 (oW (K := 0) (r := 18) wi_X_feed_0 rfl), rfl, rfl⟩
theorem dX_feed_19 : dn tX_feed 19 (.getfield 66) 3 22 := ⟨o_180 0 66 66 (oWd (K := 0) (r := 19) wi_X_feed_0 rfl), rfl⟩
theorem dX_feed_22 : dl tX_feed 22 .iload_n .iload 1 23 := Or.inl ⟨1, o_27 (oW (K := 0) (r := 22) wi_X_feed_0 rfl), rfl, rfl⟩
theorem dX_feed_23 : dn tX_feed 23 (.invokevirtual 165) 3 26 := ⟨o_182 0 165 165 (oWd (K := 0) (r := 23) wi_X_feed_0 rfl), rfl⟩
theorem dX_feed_26 : dl tX_feed 26 .aload_n .aload 0 27 := Or.inl ⟨0, o_42 (oW (K := 0) (r := 26) wi_X_feed_0 rfl), rfl, rfl⟩
theorem dX_feed_27 : dn tX_feed 27 (.getfield 66) 3 30 := ⟨o_180 0 66 66 (oWd (K := 0) (r := 27) wi_X_feed_0 rfl), rfl⟩
theorem dX_feed_30 : dl tX_feed 30 .iload_n .iload 2 31 := Or.inl ⟨2, o_28 (oW (K := 0) (r := 30) wi_X_feed_0 rfl), rfl, rfl⟩
theorem dX_feed_31 : dn tX_feed 31 (.invokevirtual 165) 3 34 := ⟨o_182 0 165 165 (oWd (K := 0) (r := 31) wi_X_feed_0 rfl), rfl⟩
def wl_X_feed_32 : List Nat := [0, 165, 42, 180, 0, 66, 29, 182, 0, 165, 42, 180, 0, 66, 21, 4, 182, 0, 165, 42, 180, 0, 66, 21, 5, 182, 0, 165, 42, 180, 0, 66, 180, 0, 162, 172]
theorem wi_X_feed_32 : oC tX_feed.2.1 32 wl_X_feed_32 = true := by decide +kernel
theorem dX_feed_34 : dl tX_feed 34 .aload_n .aload 0 35 := Or.inl ⟨0, o_42 (oW (K := 32) (r := 2) wi_X_feed_32 rfl), rfl, rfl⟩
theorem dX_feed_35 : dn tX_feed 35 (.getfield 66) 3 38 := ⟨o_180 0 66 66 (oWd (K := 32) (r := 3) wi_X_feed_32 rfl), rfl⟩
theorem dX_feed_38 : dl tX_feed 38 .iload_n .iload 3 39 := Or.inl ⟨3, o_29 (oW (K := 32) (r := 6) wi_X_feed_32 rfl), rfl, rfl⟩
theorem dX_feed_39 : dn tX_feed 39 (.invokevirtual 165) 3 42 := ⟨o_182 0 165 165 (oWd (K := 32) (r := 7) wi_X_feed_32 rfl), rfl⟩
theorem dX_feed_42 : dl tX_feed 42 .aload_n .aload 0 43 := Or.inl ⟨0, o_42 (oW (K := 32) (r := 10) wi_X_feed_32 rfl), rfl, rfl⟩
theorem dX_feed_43 : dn tX_feed 43 (.getfield 66) 3 46 := ⟨o_180 0 66 66 (oWd (K := 32) (r := 11) wi_X_feed_32 rfl), rfl⟩
theorem dX_feed_46 : dl tX_feed 46 .iload_n .iload 4 48 := Or.inr ⟨o_21 4 (oW (K := 32) (r := 14) wi_X_feed_32 rfl), rfl⟩
theorem dX_feed_48 : dn tX_feed 48 (.invokevirtual 165) 3 51 := ⟨o_182 0 165 165 (oWd (K := 32) (r := 16) wi_X_feed_32 rfl), rfl⟩
theorem dX_feed_51 : dl tX_feed 51 .aload_n .aload 0 52 := Or.inl ⟨0, o_42 (oW (K := 32) (r := 19) wi_X_feed_32 rfl), rfl, rfl⟩
theorem dX_feed_52 : dn tX_feed 52 (.getfield 66) 3 55 := ⟨o_180 0 66 66 (oWd (K := 32) (r := 20) wi_X_feed_32 rfl), rfl⟩
theorem dX_feed_55 : dl tX_feed 55 .iload_n .iload 5 57 := Or.inr ⟨o_21 5 (oW (K := 32) (r := 23) wi_X_feed_32 rfl), rfl⟩
theorem dX_feed_57 : dn tX_feed 57 (.invokevirtual 165) 3 60 := ⟨o_182 0 165 165 (oWd (K := 32) (r := 25) wi_X_feed_32 rfl), rfl⟩
theorem dX_feed_60 : dl tX_feed 60 .aload_n .aload 0 61 := Or.inl ⟨0, o_42 (oW (K := 32) (r := 28) wi_X_feed_32 rfl), rfl, rfl⟩
theorem dX_feed_61 : dn tX_feed 61 (.getfield 66) 3 64 := ⟨o_180 0 66 66 (oWd (K := 32) (r := 29) wi_X_feed_32 rfl), rfl⟩
def wl_X_feed_64 : List Nat := [180, 0, 162, 172]
theorem wi_X_feed_64 : oC tX_feed.2.1 64 wl_X_feed_64 = true := by decide +kernel
theorem dX_feed_64 : dn tX_feed 64 (.getfield 162) 3 67 := ⟨o_180 0 162 162 (oWd (K := 64) (r := 0) wi_X_feed_64 rfl), rfl⟩
theorem dX_feed_67 : dn tX_feed 67 (.ireturn) 1 68 := ⟨o_172 (oW (K := 64) (r := 3) wi_X_feed_64 rfl), rfl⟩
def wl_X_end_0 : List Nat := [27, 155, 0, 14, 27, 42, 180, 0, 66, 180, 0, 162, 164, 0, 5, 3, 172, 42, 180, 0, 66, 27, 181, 0, 162, 4, 172]
theorem wi_X_end_0 : oC tX_end.2.1 0 wl_X_end_0 = true := by decide +kernel
theorem dX_end_0 : dl tX_end 0 .iload_n .iload 1 1 := Or.inl ⟨1, o_27 (oW (K := 0) (r := 0) wi_X_end_0 rfl), rfl, rfl⟩
theorem dX_end_1 : db tX_end 1 (.ifCond .lt) 15 4 := ⟨14, o_155 0 14 14 (oWd (K := 0) (r := 1) wi_X_end_0 rfl), rfl, rfl⟩
theorem dX_end_4 : dl tX_end 4 .iload_n .iload 1 5 := Or.inl ⟨1, o_27 (oW (K := 0) (r := 4) wi_X_end_0 rfl), rfl, rfl⟩
theorem dX_end_5 : dl tX_end 5 .aload_n .aload 0 6 := Or.inl ⟨0, o_42 (oW (K := 0) (r := 5) wi_X_end_0 rfl), rfl, rfl⟩
theorem dX_end_6 : dn tX_end 6 (.getfield 66) 3 9 := ⟨o_180 0 66 66 (oWd (K := 0) (r := 6) wi_X_end_0 rfl), rfl⟩
theorem dX_end_9 : dn tX_end 9 (.getfield 162) 3 12 := ⟨o_180 0 162 162 (oWd (K := 0) (r := 9) wi_X_end_0 rfl), rfl⟩
theorem dX_end_12 : db tX_end 12 (.if_icmp .le) 17 15 := ⟨5, o_164 0 5 5 (oWd (K := 0) (r := 12) wi_X_end_0 rfl), rfl, rfl⟩
theorem dX_end_15 : dn tX_end 15 (.iconst 0) 1 16 := ⟨o_3 (oW (K := 0) (r := 15) wi_X_end_0 rfl), rfl⟩
theorem dX_end_16 : dn tX_end 16 (.ireturn) 1 17 := ⟨o_172 (oW (K := 0) (r := 16) wi_X_end_0 rfl), rfl⟩
theorem dX_end_17 : dl tX_end 17 .aload_n .aload 0 18 := Or.inl ⟨0, o_42 (oW (K := 0) (r := 17) wi_X_end_0 rfl), rfl, rfl⟩
theorem dX_end_18 : dn tX_end 18 (.getfield 66) 3 21 := ⟨o_180 0 66 66 (oWd (K := 0) (r := 18) wi_X_end_0 rfl), rfl⟩
theorem dX_end_21 : dl tX_end 21 .iload_n .iload 1 22 := Or.inl ⟨1, o_27 (oW (K := 0) (r := 21) wi_X_end_0 rfl), rfl, rfl⟩
theorem dX_end_22 : dn tX_end 22 (.putfield 162) 3 25 := ⟨o_181 0 162 162 (oWd (K := 0) (r := 22) wi_X_end_0 rfl), rfl⟩
theorem dX_end_25 : dn tX_end 25 (.iconst 1) 1 26 := ⟨o_4 (oW (K := 0) (r := 25) wi_X_end_0 rfl), rfl⟩
theorem dX_end_26 : dn tX_end 26 (.ireturn) 1 27 := ⟨o_172 (oW (K := 0) (r := 26) wi_X_end_0 rfl), rfl⟩
def wl_X_text_0 : List Nat := [42, 180, 0, 75, 182, 0, 169, 27, 3, 6, 184, 0, 111, 153, 0, 25, 42, 180, 0, 75, 27, 42, 180, 0, 25, 180, 0, 115, 182, 0, 172, 153, 0, 7, 4, 167, 0, 4]
theorem wi_X_text_0 : oC tX_text.2.1 0 wl_X_text_0 = true := by decide +kernel
theorem dX_text_0 : dl tX_text 0 .aload_n .aload 0 1 := Or.inl ⟨0, o_42 (oW (K := 0) (r := 0) wi_X_text_0 rfl), rfl, rfl⟩
theorem dX_text_1 : dn tX_text 1 (.getfield 75) 3 4 := ⟨o_180 0 75 75 (oWd (K := 0) (r := 1) wi_X_text_0 rfl), rfl⟩
theorem dX_text_4 : dn tX_text 4 (.invokevirtual 169) 3 7 := ⟨o_182 0 169 169 (oWd (K := 0) (r := 4) wi_X_text_0 rfl), rfl⟩
theorem dX_text_7 : dl tX_text 7 .iload_n .iload 1 8 := Or.inl ⟨1, o_27 (oW (K := 0) (r := 7) wi_X_text_0 rfl), rfl, rfl⟩
theorem dX_text_8 : dn tX_text 8 (.iconst 0) 1 9 := ⟨o_3 (oW (K := 0) (r := 8) wi_X_text_0 rfl), rfl⟩
theorem dX_text_9 : dn tX_text 9 (.iconst 3) 1 10 := ⟨o_6 (oW (K := 0) (r := 9) wi_X_text_0 rfl), rfl⟩
theorem dX_text_10 : dn tX_text 10 (.invokestatic 111) 3 13 := ⟨o_184 0 111 111 (oWd (K := 0) (r := 10) wi_X_text_0 rfl), rfl⟩
theorem dX_text_13 : db tX_text 13 (.ifCond .eq) 38 16 := ⟨25, o_153 0 25 25 (oWd (K := 0) (r := 13) wi_X_text_0 rfl), rfl, rfl⟩
theorem dX_text_16 : dl tX_text 16 .aload_n .aload 0 17 := Or.inl ⟨0, o_42 (oW (K := 0) (r := 16) wi_X_text_0 rfl), rfl, rfl⟩
theorem dX_text_17 : dn tX_text 17 (.getfield 75) 3 20 := ⟨o_180 0 75 75 (oWd (K := 0) (r := 17) wi_X_text_0 rfl), rfl⟩
theorem dX_text_20 : dl tX_text 20 .iload_n .iload 1 21 := Or.inl ⟨1, o_27 (oW (K := 0) (r := 20) wi_X_text_0 rfl), rfl, rfl⟩
theorem dX_text_21 : dl tX_text 21 .aload_n .aload 0 22 := Or.inl ⟨0, o_42 (oW (K := 0) (r := 21) wi_X_text_0 rfl), rfl, rfl⟩
theorem dX_text_22 : dn tX_text 22 (.getfield 25) 3 25 := ⟨o_180 0 25 25 (oWd (K := 0) (r := 22) wi_X_text_0 rfl), rfl⟩
theorem dX_text_25 : dn tX_text 25 (.getfield 115) 3 28 := ⟨o_180 0 115 115 (oWd (K := 0) (r := 25) wi_X_text_0 rfl), rfl⟩
theorem dX_text_28 : dn tX_text 28 (.invokevirtual 172) 3 31 := ⟨o_182 0 172 172 (oWd (K := 0) (r := 28) wi_X_text_0 rfl), rfl⟩
theorem dX_text_31 : db tX_text 31 (.ifCond .eq) 38 34 := ⟨7, o_153 0 7 7 (oWd (K := 0) (r := 31) wi_X_text_0 rfl), rfl, rfl⟩
def wl_X_text_32 : List Nat := [0, 7, 4, 167, 0, 4, 3, 61, 42, 180, 0, 66, 3, 181, 0, 162, 28, 153, 0, 11, 42, 27, 182, 0, 176, 167, 0, 4, 2, 172]
theorem wi_X_text_32 : oC tX_text.2.1 32 wl_X_text_32 = true := by decide +kernel
theorem dX_text_34 : dn tX_text 34 (.iconst 1) 1 35 := ⟨o_4 (oW (K := 32) (r := 2) wi_X_text_32 rfl), rfl⟩
theorem dX_text_35 : db tX_text 35 .goto 39 38 := ⟨4, o_167 0 4 4 (oWd (K := 32) (r := 3) wi_X_text_32 rfl), rfl, rfl⟩
theorem dX_text_38 : dn tX_text 38 (.iconst 0) 1 39 := ⟨o_3 (oW (K := 32) (r := 6) wi_X_text_32 rfl), rfl⟩
theorem dX_text_39 : dl tX_text 39 .istore_n .istore 2 40 := Or.inl ⟨2, o_61 (oW (K := 32) (r := 7) wi_X_text_32 rfl), rfl, rfl⟩
theorem dX_text_40 : dl tX_text 40 .aload_n .aload 0 41 := Or.inl ⟨0, o_42 (oW (K := 32) (r := 8) wi_X_text_32 rfl), rfl, rfl⟩
theorem dX_text_41 : dn tX_text 41 (.getfield 66) 3 44 := ⟨o_180 0 66 66 (oWd (K := 32) (r := 9) wi_X_text_32 rfl), rfl⟩
theorem dX_text_44 : dn tX_text 44 (.iconst 0) 1 45 := ⟨o_3 (oW (K := 32) (r := 12) wi_X_text_32 rfl), rfl⟩
theorem dX_text_45 : dn tX_text 45 (.putfield 162) 3 48 := ⟨o_181 0 162 162 (oWd (K := 32) (r := 13) wi_X_text_32 rfl), rfl⟩
theorem dX_text_48 : dl tX_text 48 .iload_n .iload 2 49 := Or.inl ⟨2, o_28 (oW (K := 32) (r := 16) wi_X_text_32 rfl), rfl, rfl⟩
theorem dX_text_49 : db tX_text 49 (.ifCond .eq) 60 52 := ⟨11, o_153 0 11 11 (oWd (K := 32) (r := 17) wi_X_text_32 rfl), rfl, rfl⟩
theorem dX_text_52 : dl tX_text 52 .aload_n .aload 0 53 := Or.inl ⟨0, o_42 (oW (K := 32) (r := 20) wi_X_text_32 rfl), rfl, rfl⟩
theorem dX_text_53 : dl tX_text 53 .iload_n .iload 1 54 := Or.inl ⟨1, o_27 (oW (K := 32) (r := 21) wi_X_text_32 rfl), rfl, rfl⟩
theorem dX_text_54 : dn tX_text 54 (.invokevirtual 176) 3 57 := ⟨o_182 0 176 176 (oWd (K := 32) (r := 22) wi_X_text_32 rfl), rfl⟩
theorem dX_text_57 : db tX_text 57 .goto 61 60 := ⟨4, o_167 0 4 4 (oWd (K := 32) (r := 25) wi_X_text_32 rfl), rfl, rfl⟩
theorem dX_text_60 : dn tX_text 60 (.iconst (-1)) 1 61 := ⟨o_2 (oW (K := 32) (r := 28) wi_X_text_32 rfl), rfl⟩
theorem dX_text_61 : dn tX_text 61 (.ireturn) 1 62 := ⟨o_172 (oW (K := 32) (r := 29) wi_X_text_32 rfl), rfl⟩
def wl_X_fault_0 : List Nat := [27, 171, 0, 0, 0, 0, 0, 43, 0, 0, 0, 2, 0, 0, 0, 0, 0, 0, 0, 27, 0, 0, 0, 1, 0, 0, 0, 35, 42, 180, 0, 75, 180, 0, 179, 172, 42, 180]
theorem wi_X_fault_0 : oC tX_fault.2.1 0 wl_X_fault_0 = true := by decide +kernel
theorem dX_fault_0 : dl tX_fault 0 .iload_n .iload 1 1 := Or.inl ⟨1, o_27 (oW (K := 0) (r := 0) wi_X_fault_0 rfl), rfl, rfl⟩
theorem dX_fault_1 : dsw tX_fault 1 [(0, 28), (1, 36)] 44 := dsw_l 43 #[(0, 27), (1, 35)] 27 (by decide +kernel) (by decide +kernel) (by decide +kernel)
theorem dX_fault_28 : dl tX_fault 28 .aload_n .aload 0 29 := Or.inl ⟨0, o_42 (oW (K := 0) (r := 28) wi_X_fault_0 rfl), rfl, rfl⟩
theorem dX_fault_29 : dn tX_fault 29 (.getfield 75) 3 32 := ⟨o_180 0 75 75 (oWd (K := 0) (r := 29) wi_X_fault_0 rfl), rfl⟩
def wl_X_fault_32 : List Nat := [180, 0, 179, 172, 42, 180, 0, 75, 180, 0, 182, 172, 2, 172]
theorem wi_X_fault_32 : oC tX_fault.2.1 32 wl_X_fault_32 = true := by decide +kernel
theorem dX_fault_32 : dn tX_fault 32 (.getfield 179) 3 35 := ⟨o_180 0 179 179 (oWd (K := 32) (r := 0) wi_X_fault_32 rfl), rfl⟩
theorem dX_fault_35 : dn tX_fault 35 (.ireturn) 1 36 := ⟨o_172 (oW (K := 32) (r := 3) wi_X_fault_32 rfl), rfl⟩
theorem dX_fault_36 : dl tX_fault 36 .aload_n .aload 0 37 := Or.inl ⟨0, o_42 (oW (K := 32) (r := 4) wi_X_fault_32 rfl), rfl, rfl⟩
theorem dX_fault_37 : dn tX_fault 37 (.getfield 75) 3 40 := ⟨o_180 0 75 75 (oWd (K := 32) (r := 5) wi_X_fault_32 rfl), rfl⟩
theorem dX_fault_40 : dn tX_fault 40 (.getfield 182) 3 43 := ⟨o_180 0 182 182 (oWd (K := 32) (r := 8) wi_X_fault_32 rfl), rfl⟩
theorem dX_fault_43 : dn tX_fault 43 (.ireturn) 1 44 := ⟨o_172 (oW (K := 32) (r := 11) wi_X_fault_32 rfl), rfl⟩
theorem dX_fault_44 : dn tX_fault 44 (.iconst (-1)) 1 45 := ⟨o_2 (oW (K := 32) (r := 12) wi_X_fault_32 rfl), rfl⟩
theorem dX_fault_45 : dn tX_fault 45 (.ireturn) 1 46 := ⟨o_172 (oW (K := 32) (r := 13) wi_X_fault_32 rfl), rfl⟩
def wl_X_of_0 : List Nat := [42, 180, 0, 25, 27, 182, 0, 125, 154, 0, 5, 2, 172, 28, 3, 16, 10, 184, 0, 111, 153, 0, 13, 42, 180, 0, 25, 27, 28, 182, 0, 185, 172, 28, 16, 11, 160, 0]
theorem wi_X_of_0 : oC tX_of.2.1 0 wl_X_of_0 = true := by decide +kernel
theorem dX_of_0 : dl tX_of 0 .aload_n .aload 0 1 := Or.inl ⟨0, o_42 (oW (K := 0) (r := 0) wi_X_of_0 rfl), rfl, rfl⟩
theorem dX_of_1 : dn tX_of 1 (.getfield 25) 3 4 := ⟨o_180 0 25 25 (oWd (K := 0) (r := 1) wi_X_of_0 rfl), rfl⟩
theorem dX_of_4 : dl tX_of 4 .iload_n .iload 1 5 := Or.inl ⟨1, o_27 (oW (K := 0) (r := 4) wi_X_of_0 rfl), rfl, rfl⟩
theorem dX_of_5 : dn tX_of 5 (.invokevirtual 125) 3 8 := ⟨o_182 0 125 125 (oWd (K := 0) (r := 5) wi_X_of_0 rfl), rfl⟩
theorem dX_of_8 : db tX_of 8 (.ifCond .ne) 13 11 := ⟨5, o_154 0 5 5 (oWd (K := 0) (r := 8) wi_X_of_0 rfl), rfl, rfl⟩
theorem dX_of_11 : dn tX_of 11 (.iconst (-1)) 1 12 := ⟨o_2 (oW (K := 0) (r := 11) wi_X_of_0 rfl), rfl⟩
theorem dX_of_12 : dn tX_of 12 (.ireturn) 1 13 := ⟨o_172 (oW (K := 0) (r := 12) wi_X_of_0 rfl), rfl⟩
theorem dX_of_13 : dl tX_of 13 .iload_n .iload 2 14 := Or.inl ⟨2, o_28 (oW (K := 0) (r := 13) wi_X_of_0 rfl), rfl, rfl⟩
theorem dX_of_14 : dn tX_of 14 (.iconst 0) 1 15 := ⟨o_3 (oW (K := 0) (r := 14) wi_X_of_0 rfl), rfl⟩
theorem dX_of_15 : dn tX_of 15 (.bipush 10) 2 17 := ⟨o_16 10 10 (oWd (K := 0) (r := 15) wi_X_of_0 rfl), rfl⟩
theorem dX_of_17 : dn tX_of 17 (.invokestatic 111) 3 20 := ⟨o_184 0 111 111 (oWd (K := 0) (r := 17) wi_X_of_0 rfl), rfl⟩
theorem dX_of_20 : db tX_of 20 (.ifCond .eq) 33 23 := ⟨13, o_153 0 13 13 (oWd (K := 0) (r := 20) wi_X_of_0 rfl), rfl, rfl⟩
theorem dX_of_23 : dl tX_of 23 .aload_n .aload 0 24 := Or.inl ⟨0, o_42 (oW (K := 0) (r := 23) wi_X_of_0 rfl), rfl, rfl⟩
theorem dX_of_24 : dn tX_of 24 (.getfield 25) 3 27 := ⟨o_180 0 25 25 (oWd (K := 0) (r := 24) wi_X_of_0 rfl), rfl⟩
theorem dX_of_27 : dl tX_of 27 .iload_n .iload 1 28 := Or.inl ⟨1, o_27 (oW (K := 0) (r := 27) wi_X_of_0 rfl), rfl, rfl⟩
theorem dX_of_28 : dl tX_of 28 .iload_n .iload 2 29 := Or.inl ⟨2, o_28 (oW (K := 0) (r := 28) wi_X_of_0 rfl), rfl, rfl⟩
theorem dX_of_29 : dn tX_of 29 (.invokevirtual 185) 3 32 := ⟨o_182 0 185 185 (oWd (K := 0) (r := 29) wi_X_of_0 rfl), rfl⟩
def wl_X_of_32 : List Nat := [172, 28, 16, 11, 160, 0, 28, 42, 180, 0, 49, 180, 0, 189, 42, 180, 0, 25, 27, 42, 180, 0, 25, 27, 182, 0, 192, 3, 182, 0, 195, 172, 28, 16, 12, 160, 0, 12]
theorem wi_X_of_32 : oC tX_of.2.1 32 wl_X_of_32 = true := by decide +kernel
theorem dX_of_32 : dn tX_of 32 (.ireturn) 1 33 := ⟨o_172 (oW (K := 32) (r := 0) wi_X_of_32 rfl), rfl⟩
theorem dX_of_33 : dl tX_of 33 .iload_n .iload 2 34 := Or.inl ⟨2, o_28 (oW (K := 32) (r := 1) wi_X_of_32 rfl), rfl, rfl⟩
theorem dX_of_34 : dn tX_of 34 (.bipush 11) 2 36 := ⟨o_16 11 11 (oWd (K := 32) (r := 2) wi_X_of_32 rfl), rfl⟩
theorem dX_of_36 : db tX_of 36 (.if_icmp .ne) 64 39 := ⟨28, o_160 0 28 28 (oWd (K := 32) (r := 4) wi_X_of_32 rfl), rfl, rfl⟩
theorem dX_of_39 : dl tX_of 39 .aload_n .aload 0 40 := Or.inl ⟨0, o_42 (oW (K := 32) (r := 7) wi_X_of_32 rfl), rfl, rfl⟩
theorem dX_of_40 : dn tX_of 40 (.getfield 49) 3 43 := ⟨o_180 0 49 49 (oWd (K := 32) (r := 8) wi_X_of_32 rfl), rfl⟩
theorem dX_of_43 : dn tX_of 43 (.getfield 189) 3 46 := ⟨o_180 0 189 189 (oWd (K := 32) (r := 11) wi_X_of_32 rfl), rfl⟩
theorem dX_of_46 : dl tX_of 46 .aload_n .aload 0 47 := Or.inl ⟨0, o_42 (oW (K := 32) (r := 14) wi_X_of_32 rfl), rfl, rfl⟩
theorem dX_of_47 : dn tX_of 47 (.getfield 25) 3 50 := ⟨o_180 0 25 25 (oWd (K := 32) (r := 15) wi_X_of_32 rfl), rfl⟩
theorem dX_of_50 : dl tX_of 50 .iload_n .iload 1 51 := Or.inl ⟨1, o_27 (oW (K := 32) (r := 18) wi_X_of_32 rfl), rfl, rfl⟩
theorem dX_of_51 : dl tX_of 51 .aload_n .aload 0 52 := Or.inl ⟨0, o_42 (oW (K := 32) (r := 19) wi_X_of_32 rfl), rfl, rfl⟩
theorem dX_of_52 : dn tX_of 52 (.getfield 25) 3 55 := ⟨o_180 0 25 25 (oWd (K := 32) (r := 20) wi_X_of_32 rfl), rfl⟩
theorem dX_of_55 : dl tX_of 55 .iload_n .iload 1 56 := Or.inl ⟨1, o_27 (oW (K := 32) (r := 23) wi_X_of_32 rfl), rfl, rfl⟩
theorem dX_of_56 : dn tX_of 56 (.invokevirtual 192) 3 59 := ⟨o_182 0 192 192 (oWd (K := 32) (r := 24) wi_X_of_32 rfl), rfl⟩
theorem dX_of_59 : dn tX_of 59 (.iconst 0) 1 60 := ⟨o_3 (oW (K := 32) (r := 27) wi_X_of_32 rfl), rfl⟩
theorem dX_of_60 : dn tX_of 60 (.invokevirtual 195) 3 63 := ⟨o_182 0 195 195 (oWd (K := 32) (r := 28) wi_X_of_32 rfl), rfl⟩
theorem dX_of_63 : dn tX_of 63 (.ireturn) 1 64 := ⟨o_172 (oW (K := 32) (r := 31) wi_X_of_32 rfl), rfl⟩
def wl_X_of_64 : List Nat := [28, 16, 12, 160, 0, 12, 42, 180, 0, 34, 27, 182, 0, 199, 172, 28, 16, 20, 16, 23, 184, 0, 111, 153, 0, 24, 42, 180, 0, 49, 180, 0, 189, 42, 180, 0, 25, 27]
theorem wi_X_of_64 : oC tX_of.2.1 64 wl_X_of_64 = true := by decide +kernel
theorem dX_of_64 : dl tX_of 64 .iload_n .iload 2 65 := Or.inl ⟨2, o_28 (oW (K := 64) (r := 0) wi_X_of_64 rfl), rfl, rfl⟩
theorem dX_of_65 : dn tX_of 65 (.bipush 12) 2 67 := ⟨o_16 12 12 (oWd (K := 64) (r := 1) wi_X_of_64 rfl), rfl⟩
theorem dX_of_67 : db tX_of 67 (.if_icmp .ne) 79 70 := ⟨12, o_160 0 12 12 (oWd (K := 64) (r := 3) wi_X_of_64 rfl), rfl, rfl⟩
theorem dX_of_70 : dl tX_of 70 .aload_n .aload 0 71 := Or.inl ⟨0, o_42 (oW (K := 64) (r := 6) wi_X_of_64 rfl), rfl, rfl⟩
theorem dX_of_71 : dn tX_of 71 (.getfield 34) 3 74 := ⟨o_180 0 34 34 (oWd (K := 64) (r := 7) wi_X_of_64 rfl), rfl⟩
theorem dX_of_74 : dl tX_of 74 .iload_n .iload 1 75 := Or.inl ⟨1, o_27 (oW (K := 64) (r := 10) wi_X_of_64 rfl), rfl, rfl⟩
theorem dX_of_75 : dn tX_of 75 (.invokevirtual 199) 3 78 := ⟨o_182 0 199 199 (oWd (K := 64) (r := 11) wi_X_of_64 rfl), rfl⟩
theorem dX_of_78 : dn tX_of 78 (.ireturn) 1 79 := ⟨o_172 (oW (K := 64) (r := 14) wi_X_of_64 rfl), rfl⟩
theorem dX_of_79 : dl tX_of 79 .iload_n .iload 2 80 := Or.inl ⟨2, o_28 (oW (K := 64) (r := 15) wi_X_of_64 rfl), rfl, rfl⟩
theorem dX_of_80 : dn tX_of 80 (.bipush 20) 2 82 := ⟨o_16 20 20 (oWd (K := 64) (r := 16) wi_X_of_64 rfl), rfl⟩
theorem dX_of_82 : dn tX_of 82 (.bipush 23) 2 84 := ⟨o_16 23 23 (oWd (K := 64) (r := 18) wi_X_of_64 rfl), rfl⟩
theorem dX_of_84 : dn tX_of 84 (.invokestatic 111) 3 87 := ⟨o_184 0 111 111 (oWd (K := 64) (r := 20) wi_X_of_64 rfl), rfl⟩
theorem dX_of_87 : db tX_of 87 (.ifCond .eq) 111 90 := ⟨24, o_153 0 24 24 (oWd (K := 64) (r := 23) wi_X_of_64 rfl), rfl, rfl⟩
theorem dX_of_90 : dl tX_of 90 .aload_n .aload 0 91 := Or.inl ⟨0, o_42 (oW (K := 64) (r := 26) wi_X_of_64 rfl), rfl, rfl⟩
theorem dX_of_91 : dn tX_of 91 (.getfield 49) 3 94 := ⟨o_180 0 49 49 (oWd (K := 64) (r := 27) wi_X_of_64 rfl), rfl⟩
theorem dX_of_94 : dn tX_of 94 (.getfield 189) 3 97 := ⟨o_180 0 189 189 (oWd (K := 64) (r := 30) wi_X_of_64 rfl), rfl⟩
def wl_X_of_96 : List Nat := [189, 42, 180, 0, 25, 27, 28, 16, 20, 100, 4, 182, 0, 195, 172, 28, 16, 30, 16, 33, 184, 0, 111, 153, 0, 24, 42, 180, 0, 49, 180, 0, 189, 42, 180, 0, 25, 27]
theorem wi_X_of_96 : oC tX_of.2.1 96 wl_X_of_96 = true := by decide +kernel
theorem dX_of_97 : dl tX_of 97 .aload_n .aload 0 98 := Or.inl ⟨0, o_42 (oW (K := 96) (r := 1) wi_X_of_96 rfl), rfl, rfl⟩
theorem dX_of_98 : dn tX_of 98 (.getfield 25) 3 101 := ⟨o_180 0 25 25 (oWd (K := 96) (r := 2) wi_X_of_96 rfl), rfl⟩
theorem dX_of_101 : dl tX_of 101 .iload_n .iload 1 102 := Or.inl ⟨1, o_27 (oW (K := 96) (r := 5) wi_X_of_96 rfl), rfl, rfl⟩
theorem dX_of_102 : dl tX_of 102 .iload_n .iload 2 103 := Or.inl ⟨2, o_28 (oW (K := 96) (r := 6) wi_X_of_96 rfl), rfl, rfl⟩
theorem dX_of_103 : dn tX_of 103 (.bipush 20) 2 105 := ⟨o_16 20 20 (oWd (K := 96) (r := 7) wi_X_of_96 rfl), rfl⟩
theorem dX_of_105 : dn tX_of 105 (.isub) 1 106 := ⟨o_100 (oW (K := 96) (r := 9) wi_X_of_96 rfl), rfl⟩
theorem dX_of_106 : dn tX_of 106 (.iconst 1) 1 107 := ⟨o_4 (oW (K := 96) (r := 10) wi_X_of_96 rfl), rfl⟩
theorem dX_of_107 : dn tX_of 107 (.invokevirtual 195) 3 110 := ⟨o_182 0 195 195 (oWd (K := 96) (r := 11) wi_X_of_96 rfl), rfl⟩
theorem dX_of_110 : dn tX_of 110 (.ireturn) 1 111 := ⟨o_172 (oW (K := 96) (r := 14) wi_X_of_96 rfl), rfl⟩
theorem dX_of_111 : dl tX_of 111 .iload_n .iload 2 112 := Or.inl ⟨2, o_28 (oW (K := 96) (r := 15) wi_X_of_96 rfl), rfl, rfl⟩
theorem dX_of_112 : dn tX_of 112 (.bipush 30) 2 114 := ⟨o_16 30 30 (oWd (K := 96) (r := 16) wi_X_of_96 rfl), rfl⟩
theorem dX_of_114 : dn tX_of 114 (.bipush 33) 2 116 := ⟨o_16 33 33 (oWd (K := 96) (r := 18) wi_X_of_96 rfl), rfl⟩
theorem dX_of_116 : dn tX_of 116 (.invokestatic 111) 3 119 := ⟨o_184 0 111 111 (oWd (K := 96) (r := 20) wi_X_of_96 rfl), rfl⟩
theorem dX_of_119 : db tX_of 119 (.ifCond .eq) 143 122 := ⟨24, o_153 0 24 24 (oWd (K := 96) (r := 23) wi_X_of_96 rfl), rfl, rfl⟩
theorem dX_of_122 : dl tX_of 122 .aload_n .aload 0 123 := Or.inl ⟨0, o_42 (oW (K := 96) (r := 26) wi_X_of_96 rfl), rfl, rfl⟩
theorem dX_of_123 : dn tX_of 123 (.getfield 49) 3 126 := ⟨o_180 0 49 49 (oWd (K := 96) (r := 27) wi_X_of_96 rfl), rfl⟩
theorem dX_of_126 : dn tX_of 126 (.getfield 189) 3 129 := ⟨o_180 0 189 189 (oWd (K := 96) (r := 30) wi_X_of_96 rfl), rfl⟩
def wl_X_of_128 : List Nat := [189, 42, 180, 0, 25, 27, 28, 16, 30, 100, 5, 182, 0, 195, 172, 2, 172]
theorem wi_X_of_128 : oC tX_of.2.1 128 wl_X_of_128 = true := by decide +kernel
theorem dX_of_129 : dl tX_of 129 .aload_n .aload 0 130 := Or.inl ⟨0, o_42 (oW (K := 128) (r := 1) wi_X_of_128 rfl), rfl, rfl⟩
theorem dX_of_130 : dn tX_of 130 (.getfield 25) 3 133 := ⟨o_180 0 25 25 (oWd (K := 128) (r := 2) wi_X_of_128 rfl), rfl⟩
theorem dX_of_133 : dl tX_of 133 .iload_n .iload 1 134 := Or.inl ⟨1, o_27 (oW (K := 128) (r := 5) wi_X_of_128 rfl), rfl, rfl⟩
theorem dX_of_134 : dl tX_of 134 .iload_n .iload 2 135 := Or.inl ⟨2, o_28 (oW (K := 128) (r := 6) wi_X_of_128 rfl), rfl, rfl⟩
theorem dX_of_135 : dn tX_of 135 (.bipush 30) 2 137 := ⟨o_16 30 30 (oWd (K := 128) (r := 7) wi_X_of_128 rfl), rfl⟩
theorem dX_of_137 : dn tX_of 137 (.isub) 1 138 := ⟨o_100 (oW (K := 128) (r := 9) wi_X_of_128 rfl), rfl⟩
theorem dX_of_138 : dn tX_of 138 (.iconst 2) 1 139 := ⟨o_5 (oW (K := 128) (r := 10) wi_X_of_128 rfl), rfl⟩
theorem dX_of_139 : dn tX_of 139 (.invokevirtual 195) 3 142 := ⟨o_182 0 195 195 (oWd (K := 128) (r := 11) wi_X_of_128 rfl), rfl⟩
theorem dX_of_142 : dn tX_of 142 (.ireturn) 1 143 := ⟨o_172 (oW (K := 128) (r := 14) wi_X_of_128 rfl), rfl⟩
theorem dX_of_143 : dn tX_of 143 (.iconst (-1)) 1 144 := ⟨o_2 (oW (K := 128) (r := 15) wi_X_of_128 rfl), rfl⟩
theorem dX_of_144 : dn tX_of 144 (.ireturn) 1 145 := ⟨o_172 (oW (K := 128) (r := 16) wi_X_of_128 rfl), rfl⟩
def wl_X_book_0 : List Nat := [27, 155, 0, 26, 27, 42, 180, 0, 34, 180, 0, 140, 180, 0, 143, 162, 0, 12, 28, 3, 6, 184, 0, 111, 154, 0, 6, 16, 254, 172, 42, 180, 0, 34, 180, 0, 140, 27]
theorem wi_X_book_0 : oC tX_book.2.1 0 wl_X_book_0 = true := by decide +kernel
theorem dX_book_0 : dl tX_book 0 .iload_n .iload 1 1 := Or.inl ⟨1, o_27 (oW (K := 0) (r := 0) wi_X_book_0 rfl), rfl, rfl⟩
theorem dX_book_1 : db tX_book 1 (.ifCond .lt) 27 4 := ⟨26, o_155 0 26 26 (oWd (K := 0) (r := 1) wi_X_book_0 rfl), rfl, rfl⟩
theorem dX_book_4 : dl tX_book 4 .iload_n .iload 1 5 := Or.inl ⟨1, o_27 (oW (K := 0) (r := 4) wi_X_book_0 rfl), rfl, rfl⟩
theorem dX_book_5 : dl tX_book 5 .aload_n .aload 0 6 := Or.inl ⟨0, o_42 (oW (K := 0) (r := 5) wi_X_book_0 rfl), rfl, rfl⟩
theorem dX_book_6 : dn tX_book 6 (.getfield 34) 3 9 := ⟨o_180 0 34 34 (oWd (K := 0) (r := 6) wi_X_book_0 rfl), rfl⟩
theorem dX_book_9 : dn tX_book 9 (.getfield 140) 3 12 := ⟨o_180 0 140 140 (oWd (K := 0) (r := 9) wi_X_book_0 rfl), rfl⟩
theorem dX_book_12 : dn tX_book 12 (.getfield 143) 3 15 := ⟨o_180 0 143 143 (oWd (K := 0) (r := 12) wi_X_book_0 rfl), rfl⟩
theorem dX_book_15 : db tX_book 15 (.if_icmp .ge) 27 18 := ⟨12, o_162 0 12 12 (oWd (K := 0) (r := 15) wi_X_book_0 rfl), rfl, rfl⟩
theorem dX_book_18 : dl tX_book 18 .iload_n .iload 2 19 := Or.inl ⟨2, o_28 (oW (K := 0) (r := 18) wi_X_book_0 rfl), rfl, rfl⟩
theorem dX_book_19 : dn tX_book 19 (.iconst 0) 1 20 := ⟨o_3 (oW (K := 0) (r := 19) wi_X_book_0 rfl), rfl⟩
theorem dX_book_20 : dn tX_book 20 (.iconst 3) 1 21 := ⟨o_6 (oW (K := 0) (r := 20) wi_X_book_0 rfl), rfl⟩
theorem dX_book_21 : dn tX_book 21 (.invokestatic 111) 3 24 := ⟨o_184 0 111 111 (oWd (K := 0) (r := 21) wi_X_book_0 rfl), rfl⟩
theorem dX_book_24 : db tX_book 24 (.ifCond .ne) 30 27 := ⟨6, o_154 0 6 6 (oWd (K := 0) (r := 24) wi_X_book_0 rfl), rfl, rfl⟩
theorem dX_book_27 : dn tX_book 27 (.bipush (-2)) 2 29 := ⟨o_16 254 (-2) (oWd (K := 0) (r := 27) wi_X_book_0 rfl), rfl⟩
theorem dX_book_29 : dn tX_book 29 (.ireturn) 1 30 := ⟨o_172 (oW (K := 0) (r := 29) wi_X_book_0 rfl), rfl⟩
theorem dX_book_30 : dl tX_book 30 .aload_n .aload 0 31 := Or.inl ⟨0, o_42 (oW (K := 0) (r := 30) wi_X_book_0 rfl), rfl, rfl⟩
theorem dX_book_31 : dn tX_book 31 (.getfield 34) 3 34 := ⟨o_180 0 34 34 (oWd (K := 0) (r := 31) wi_X_book_0 rfl), rfl⟩
def wl_X_book_32 : List Nat := [0, 34, 180, 0, 140, 27, 28, 182, 0, 202, 172]
theorem wi_X_book_32 : oC tX_book.2.1 32 wl_X_book_32 = true := by decide +kernel
theorem dX_book_34 : dn tX_book 34 (.getfield 140) 3 37 := ⟨o_180 0 140 140 (oWd (K := 32) (r := 2) wi_X_book_32 rfl), rfl⟩
theorem dX_book_37 : dl tX_book 37 .iload_n .iload 1 38 := Or.inl ⟨1, o_27 (oW (K := 32) (r := 5) wi_X_book_32 rfl), rfl, rfl⟩
theorem dX_book_38 : dl tX_book 38 .iload_n .iload 2 39 := Or.inl ⟨2, o_28 (oW (K := 32) (r := 6) wi_X_book_32 rfl), rfl, rfl⟩
theorem dX_book_39 : dn tX_book 39 (.invokevirtual 202) 3 42 := ⟨o_182 0 202 202 (oWd (K := 32) (r := 7) wi_X_book_32 rfl), rfl⟩
theorem dX_book_42 : dn tX_book 42 (.ireturn) 1 43 := ⟨o_172 (oW (K := 32) (r := 10) wi_X_book_32 rfl), rfl⟩
def wl_X_goes_0 : List Nat := [27, 4, 16, 60, 184, 0, 111, 153, 0, 12, 28, 3, 6, 184, 0, 111, 154, 0, 5, 2, 172, 42, 180, 0, 31, 42, 180, 0, 25, 182, 0, 205, 3, 62, 29, 27, 162, 0]
theorem wi_X_goes_0 : oC tX_goes.2.1 0 wl_X_goes_0 = true := by decide +kernel
theorem dX_goes_0 : dl tX_goes 0 .iload_n .iload 1 1 := Or.inl ⟨1, o_27 (oW (K := 0) (r := 0) wi_X_goes_0 rfl), rfl, rfl⟩
theorem dX_goes_1 : dn tX_goes 1 (.iconst 1) 1 2 := ⟨o_4 (oW (K := 0) (r := 1) wi_X_goes_0 rfl), rfl⟩
theorem dX_goes_2 : dn tX_goes 2 (.bipush 60) 2 4 := ⟨o_16 60 60 (oWd (K := 0) (r := 2) wi_X_goes_0 rfl), rfl⟩
theorem dX_goes_4 : dn tX_goes 4 (.invokestatic 111) 3 7 := ⟨o_184 0 111 111 (oWd (K := 0) (r := 4) wi_X_goes_0 rfl), rfl⟩
theorem dX_goes_7 : db tX_goes 7 (.ifCond .eq) 19 10 := ⟨12, o_153 0 12 12 (oWd (K := 0) (r := 7) wi_X_goes_0 rfl), rfl, rfl⟩
theorem dX_goes_10 : dl tX_goes 10 .iload_n .iload 2 11 := Or.inl ⟨2, o_28 (oW (K := 0) (r := 10) wi_X_goes_0 rfl), rfl, rfl⟩
theorem dX_goes_11 : dn tX_goes 11 (.iconst 0) 1 12 := ⟨o_3 (oW (K := 0) (r := 11) wi_X_goes_0 rfl), rfl⟩
theorem dX_goes_12 : dn tX_goes 12 (.iconst 3) 1 13 := ⟨o_6 (oW (K := 0) (r := 12) wi_X_goes_0 rfl), rfl⟩
theorem dX_goes_13 : dn tX_goes 13 (.invokestatic 111) 3 16 := ⟨o_184 0 111 111 (oWd (K := 0) (r := 13) wi_X_goes_0 rfl), rfl⟩
theorem dX_goes_16 : db tX_goes 16 (.ifCond .ne) 21 19 := ⟨5, o_154 0 5 5 (oWd (K := 0) (r := 16) wi_X_goes_0 rfl), rfl, rfl⟩
theorem dX_goes_19 : dn tX_goes 19 (.iconst (-1)) 1 20 := ⟨o_2 (oW (K := 0) (r := 19) wi_X_goes_0 rfl), rfl⟩
theorem dX_goes_20 : dn tX_goes 20 (.ireturn) 1 21 := ⟨o_172 (oW (K := 0) (r := 20) wi_X_goes_0 rfl), rfl⟩
theorem dX_goes_21 : dl tX_goes 21 .aload_n .aload 0 22 := Or.inl ⟨0, o_42 (oW (K := 0) (r := 21) wi_X_goes_0 rfl), rfl, rfl⟩
theorem dX_goes_22 : dn tX_goes 22 (.getfield 31) 3 25 := ⟨o_180 0 31 31 (oWd (K := 0) (r := 22) wi_X_goes_0 rfl), rfl⟩
theorem dX_goes_25 : dl tX_goes 25 .aload_n .aload 0 26 := Or.inl ⟨0, o_42 (oW (K := 0) (r := 25) wi_X_goes_0 rfl), rfl, rfl⟩
theorem dX_goes_26 : dn tX_goes 26 (.getfield 25) 3 29 := ⟨o_180 0 25 25 (oWd (K := 0) (r := 26) wi_X_goes_0 rfl), rfl⟩
theorem dX_goes_29 : dn tX_goes 29 (.invokevirtual 205) 3 32 := ⟨o_182 0 205 205 (oWd (K := 0) (r := 29) wi_X_goes_0 rfl), rfl⟩
def wl_X_goes_32 : List Nat := [3, 62, 29, 27, 162, 0, 17, 42, 180, 0, 53, 182, 0, 158, 87, 132, 3, 1, 167, 255, 240, 28, 170, 0, 0, 0, 0, 52, 0, 0, 0, 0, 0, 0, 0, 2, 0, 0]
theorem wi_X_goes_32 : oC tX_goes.2.1 32 wl_X_goes_32 = true := by decide +kernel
theorem dX_goes_32 : dn tX_goes 32 (.iconst 0) 1 33 := ⟨o_3 (oW (K := 32) (r := 0) wi_X_goes_32 rfl), rfl⟩
theorem dX_goes_33 : dl tX_goes 33 .istore_n .istore 3 34 := Or.inl ⟨3, o_62 (oW (K := 32) (r := 1) wi_X_goes_32 rfl), rfl, rfl⟩
theorem dX_goes_34 : dl tX_goes 34 .iload_n .iload 3 35 := Or.inl ⟨3, o_29 (oW (K := 32) (r := 2) wi_X_goes_32 rfl), rfl, rfl⟩
theorem dX_goes_35 : dl tX_goes 35 .iload_n .iload 1 36 := Or.inl ⟨1, o_27 (oW (K := 32) (r := 3) wi_X_goes_32 rfl), rfl, rfl⟩
theorem dX_goes_36 : db tX_goes 36 (.if_icmp .ge) 53 39 := ⟨17, o_162 0 17 17 (oWd (K := 32) (r := 4) wi_X_goes_32 rfl), rfl, rfl⟩
theorem dX_goes_39 : dl tX_goes 39 .aload_n .aload 0 40 := Or.inl ⟨0, o_42 (oW (K := 32) (r := 7) wi_X_goes_32 rfl), rfl, rfl⟩
theorem dX_goes_40 : dn tX_goes 40 (.getfield 53) 3 43 := ⟨o_180 0 53 53 (oWd (K := 32) (r := 8) wi_X_goes_32 rfl), rfl⟩
theorem dX_goes_43 : dn tX_goes 43 (.invokevirtual 158) 3 46 := ⟨o_182 0 158 158 (oWd (K := 32) (r := 11) wi_X_goes_32 rfl), rfl⟩
theorem dX_goes_46 : dn tX_goes 46 (.pop) 1 47 := ⟨o_87 (oW (K := 32) (r := 14) wi_X_goes_32 rfl), rfl⟩
theorem dX_goes_47 : dn tX_goes 47 (.iinc 3 1) 3 50 := ⟨o_132 3 1 1 (oWd (K := 32) (r := 15) wi_X_goes_32 rfl), rfl⟩
theorem dX_goes_50 : db tX_goes 50 .goto 34 53 := ⟨-16, o_167 255 240 (-16) (oWd (K := 32) (r := 18) wi_X_goes_32 rfl), rfl, rfl⟩
theorem dX_goes_53 : dl tX_goes 53 .iload_n .iload 2 54 := Or.inl ⟨2, o_28 (oW (K := 32) (r := 21) wi_X_goes_32 rfl), rfl, rfl⟩
theorem dX_goes_54 : dsw tX_goes 54 [(0, 80), (1, 88), (2, 96)] 106 := dsw_t 52 0 2 #[26, 34, 42] 26 (by decide +kernel) (by decide) (by decide) (by decide +kernel)
def wl_X_goes_64 : List Nat := [0, 0, 0, 2, 0, 0, 0, 26, 0, 0, 0, 34, 0, 0, 0, 42, 42, 180, 0, 31, 180, 0, 209, 172, 42, 180, 0, 31, 182, 0, 212, 172, 42, 180, 0, 31, 16, 8]
theorem wi_X_goes_64 : oC tX_goes.2.1 64 wl_X_goes_64 = true := by decide +kernel
theorem dX_goes_80 : dl tX_goes 80 .aload_n .aload 0 81 := Or.inl ⟨0, o_42 (oW (K := 64) (r := 16) wi_X_goes_64 rfl), rfl, rfl⟩
theorem dX_goes_81 : dn tX_goes 81 (.getfield 31) 3 84 := ⟨o_180 0 31 31 (oWd (K := 64) (r := 17) wi_X_goes_64 rfl), rfl⟩
theorem dX_goes_84 : dn tX_goes 84 (.getfield 209) 3 87 := ⟨o_180 0 209 209 (oWd (K := 64) (r := 20) wi_X_goes_64 rfl), rfl⟩
theorem dX_goes_87 : dn tX_goes 87 (.ireturn) 1 88 := ⟨o_172 (oW (K := 64) (r := 23) wi_X_goes_64 rfl), rfl⟩
theorem dX_goes_88 : dl tX_goes 88 .aload_n .aload 0 89 := Or.inl ⟨0, o_42 (oW (K := 64) (r := 24) wi_X_goes_64 rfl), rfl, rfl⟩
theorem dX_goes_89 : dn tX_goes 89 (.getfield 31) 3 92 := ⟨o_180 0 31 31 (oWd (K := 64) (r := 25) wi_X_goes_64 rfl), rfl⟩
theorem dX_goes_92 : dn tX_goes 92 (.invokevirtual 212) 3 95 := ⟨o_182 0 212 212 (oWd (K := 64) (r := 28) wi_X_goes_64 rfl), rfl⟩
theorem dX_goes_95 : dn tX_goes 95 (.ireturn) 1 96 := ⟨o_172 (oW (K := 64) (r := 31) wi_X_goes_64 rfl), rfl⟩
def wl_X_goes_96 : List Nat := [42, 180, 0, 31, 16, 8, 182, 0, 215, 172, 42, 180, 0, 31, 16, 7, 182, 0, 215, 172]
theorem wi_X_goes_96 : oC tX_goes.2.1 96 wl_X_goes_96 = true := by decide +kernel
theorem dX_goes_96 : dl tX_goes 96 .aload_n .aload 0 97 := Or.inl ⟨0, o_42 (oW (K := 96) (r := 0) wi_X_goes_96 rfl), rfl, rfl⟩
theorem dX_goes_97 : dn tX_goes 97 (.getfield 31) 3 100 := ⟨o_180 0 31 31 (oWd (K := 96) (r := 1) wi_X_goes_96 rfl), rfl⟩
theorem dX_goes_100 : dn tX_goes 100 (.bipush 8) 2 102 := ⟨o_16 8 8 (oWd (K := 96) (r := 4) wi_X_goes_96 rfl), rfl⟩
theorem dX_goes_102 : dn tX_goes 102 (.invokevirtual 215) 3 105 := ⟨o_182 0 215 215 (oWd (K := 96) (r := 6) wi_X_goes_96 rfl), rfl⟩
theorem dX_goes_105 : dn tX_goes 105 (.ireturn) 1 106 := ⟨o_172 (oW (K := 96) (r := 9) wi_X_goes_96 rfl), rfl⟩
theorem dX_goes_106 : dl tX_goes 106 .aload_n .aload 0 107 := Or.inl ⟨0, o_42 (oW (K := 96) (r := 10) wi_X_goes_96 rfl), rfl, rfl⟩
theorem dX_goes_107 : dn tX_goes 107 (.getfield 31) 3 110 := ⟨o_180 0 31 31 (oWd (K := 96) (r := 11) wi_X_goes_96 rfl), rfl⟩
theorem dX_goes_110 : dn tX_goes 110 (.bipush 7) 2 112 := ⟨o_16 7 7 (oWd (K := 96) (r := 14) wi_X_goes_96 rfl), rfl⟩
theorem dX_goes_112 : dn tX_goes 112 (.invokevirtual 215) 3 115 := ⟨o_182 0 215 215 (oWd (K := 96) (r := 16) wi_X_goes_96 rfl), rfl⟩
theorem dX_goes_115 : dn tX_goes 115 (.ireturn) 1 116 := ⟨o_172 (oW (K := 96) (r := 19) wi_X_goes_96 rfl), rfl⟩
def wl_X_stands_0 : List Nat := [42, 180, 0, 25, 27, 182, 0, 125, 154, 0, 6, 16, 254, 172, 42, 180, 0, 25, 27, 182, 0, 218, 154, 0, 5, 3, 172, 42, 180, 0, 31, 42, 180, 0, 25, 182, 0, 205]
theorem wi_X_stands_0 : oC tX_stands.2.1 0 wl_X_stands_0 = true := by decide +kernel
theorem dX_stands_0 : dl tX_stands 0 .aload_n .aload 0 1 := Or.inl ⟨0, o_42 (oW (K := 0) (r := 0) wi_X_stands_0 rfl), rfl, rfl⟩
theorem dX_stands_1 : dn tX_stands 1 (.getfield 25) 3 4 := ⟨o_180 0 25 25 (oWd (K := 0) (r := 1) wi_X_stands_0 rfl), rfl⟩
theorem dX_stands_4 : dl tX_stands 4 .iload_n .iload 1 5 := Or.inl ⟨1, o_27 (oW (K := 0) (r := 4) wi_X_stands_0 rfl), rfl, rfl⟩
theorem dX_stands_5 : dn tX_stands 5 (.invokevirtual 125) 3 8 := ⟨o_182 0 125 125 (oWd (K := 0) (r := 5) wi_X_stands_0 rfl), rfl⟩
theorem dX_stands_8 : db tX_stands 8 (.ifCond .ne) 14 11 := ⟨6, o_154 0 6 6 (oWd (K := 0) (r := 8) wi_X_stands_0 rfl), rfl, rfl⟩
theorem dX_stands_11 : dn tX_stands 11 (.bipush (-2)) 2 13 := ⟨o_16 254 (-2) (oWd (K := 0) (r := 11) wi_X_stands_0 rfl), rfl⟩
theorem dX_stands_13 : dn tX_stands 13 (.ireturn) 1 14 := ⟨o_172 (oW (K := 0) (r := 13) wi_X_stands_0 rfl), rfl⟩
theorem dX_stands_14 : dl tX_stands 14 .aload_n .aload 0 15 := Or.inl ⟨0, o_42 (oW (K := 0) (r := 14) wi_X_stands_0 rfl), rfl, rfl⟩
theorem dX_stands_15 : dn tX_stands 15 (.getfield 25) 3 18 := ⟨o_180 0 25 25 (oWd (K := 0) (r := 15) wi_X_stands_0 rfl), rfl⟩
theorem dX_stands_18 : dl tX_stands 18 .iload_n .iload 1 19 := Or.inl ⟨1, o_27 (oW (K := 0) (r := 18) wi_X_stands_0 rfl), rfl, rfl⟩
theorem dX_stands_19 : dn tX_stands 19 (.invokevirtual 218) 3 22 := ⟨o_182 0 218 218 (oWd (K := 0) (r := 19) wi_X_stands_0 rfl), rfl⟩
theorem dX_stands_22 : db tX_stands 22 (.ifCond .ne) 27 25 := ⟨5, o_154 0 5 5 (oWd (K := 0) (r := 22) wi_X_stands_0 rfl), rfl, rfl⟩
theorem dX_stands_25 : dn tX_stands 25 (.iconst 0) 1 26 := ⟨o_3 (oW (K := 0) (r := 25) wi_X_stands_0 rfl), rfl⟩
theorem dX_stands_26 : dn tX_stands 26 (.ireturn) 1 27 := ⟨o_172 (oW (K := 0) (r := 26) wi_X_stands_0 rfl), rfl⟩
theorem dX_stands_27 : dl tX_stands 27 .aload_n .aload 0 28 := Or.inl ⟨0, o_42 (oW (K := 0) (r := 27) wi_X_stands_0 rfl), rfl, rfl⟩
theorem dX_stands_28 : dn tX_stands 28 (.getfield 31) 3 31 := ⟨o_180 0 31 31 (oWd (K := 0) (r := 28) wi_X_stands_0 rfl), rfl⟩
theorem dX_stands_31 : dl tX_stands 31 .aload_n .aload 0 32 := Or.inl ⟨0, o_42 (oW (K := 0) (r := 31) wi_X_stands_0 rfl), rfl, rfl⟩
def wl_X_stands_32 : List Nat := [180, 0, 25, 182, 0, 205, 4, 61, 28, 17, 0, 200, 163, 0, 30, 42, 180, 0, 53, 182, 0, 158, 87, 42, 180, 0, 31, 27, 182, 0, 218, 154, 0, 5, 28, 172, 132, 2]
theorem wi_X_stands_32 : oC tX_stands.2.1 32 wl_X_stands_32 = true := by decide +kernel
theorem dX_stands_32 : dn tX_stands 32 (.getfield 25) 3 35 := ⟨o_180 0 25 25 (oWd (K := 32) (r := 0) wi_X_stands_32 rfl), rfl⟩
theorem dX_stands_35 : dn tX_stands 35 (.invokevirtual 205) 3 38 := ⟨o_182 0 205 205 (oWd (K := 32) (r := 3) wi_X_stands_32 rfl), rfl⟩
theorem dX_stands_38 : dn tX_stands 38 (.iconst 1) 1 39 := ⟨o_4 (oW (K := 32) (r := 6) wi_X_stands_32 rfl), rfl⟩
theorem dX_stands_39 : dl tX_stands 39 .istore_n .istore 2 40 := Or.inl ⟨2, o_61 (oW (K := 32) (r := 7) wi_X_stands_32 rfl), rfl, rfl⟩
theorem dX_stands_40 : dl tX_stands 40 .iload_n .iload 2 41 := Or.inl ⟨2, o_28 (oW (K := 32) (r := 8) wi_X_stands_32 rfl), rfl, rfl⟩
theorem dX_stands_41 : dn tX_stands 41 (.sipush 200) 3 44 := ⟨o_17 0 200 200 (oWd (K := 32) (r := 9) wi_X_stands_32 rfl), rfl⟩
theorem dX_stands_44 : db tX_stands 44 (.if_icmp .gt) 74 47 := ⟨30, o_163 0 30 30 (oWd (K := 32) (r := 12) wi_X_stands_32 rfl), rfl, rfl⟩
theorem dX_stands_47 : dl tX_stands 47 .aload_n .aload 0 48 := Or.inl ⟨0, o_42 (oW (K := 32) (r := 15) wi_X_stands_32 rfl), rfl, rfl⟩
theorem dX_stands_48 : dn tX_stands 48 (.getfield 53) 3 51 := ⟨o_180 0 53 53 (oWd (K := 32) (r := 16) wi_X_stands_32 rfl), rfl⟩
theorem dX_stands_51 : dn tX_stands 51 (.invokevirtual 158) 3 54 := ⟨o_182 0 158 158 (oWd (K := 32) (r := 19) wi_X_stands_32 rfl), rfl⟩
theorem dX_stands_54 : dn tX_stands 54 (.pop) 1 55 := ⟨o_87 (oW (K := 32) (r := 22) wi_X_stands_32 rfl), rfl⟩
theorem dX_stands_55 : dl tX_stands 55 .aload_n .aload 0 56 := Or.inl ⟨0, o_42 (oW (K := 32) (r := 23) wi_X_stands_32 rfl), rfl, rfl⟩
theorem dX_stands_56 : dn tX_stands 56 (.getfield 31) 3 59 := ⟨o_180 0 31 31 (oWd (K := 32) (r := 24) wi_X_stands_32 rfl), rfl⟩
theorem dX_stands_59 : dl tX_stands 59 .iload_n .iload 1 60 := Or.inl ⟨1, o_27 (oW (K := 32) (r := 27) wi_X_stands_32 rfl), rfl, rfl⟩
theorem dX_stands_60 : dn tX_stands 60 (.invokevirtual 218) 3 63 := ⟨o_182 0 218 218 (oWd (K := 32) (r := 28) wi_X_stands_32 rfl), rfl⟩
theorem dX_stands_63 : db tX_stands 63 (.ifCond .ne) 68 66 := ⟨5, o_154 0 5 5 (oWd (K := 32) (r := 31) wi_X_stands_32 rfl), rfl, rfl⟩
def wl_X_stands_64 : List Nat := [0, 5, 28, 172, 132, 2, 1, 167, 255, 225, 2, 172]
theorem wi_X_stands_64 : oC tX_stands.2.1 64 wl_X_stands_64 = true := by decide +kernel
theorem dX_stands_66 : dl tX_stands 66 .iload_n .iload 2 67 := Or.inl ⟨2, o_28 (oW (K := 64) (r := 2) wi_X_stands_64 rfl), rfl, rfl⟩
theorem dX_stands_67 : dn tX_stands 67 (.ireturn) 1 68 := ⟨o_172 (oW (K := 64) (r := 3) wi_X_stands_64 rfl), rfl⟩
theorem dX_stands_68 : dn tX_stands 68 (.iinc 2 1) 3 71 := ⟨o_132 2 1 1 (oWd (K := 64) (r := 4) wi_X_stands_64 rfl), rfl⟩
