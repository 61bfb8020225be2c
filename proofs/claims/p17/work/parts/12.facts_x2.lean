theorem dT_mostAlone_79 : dl tT_mostAlone 79 .iload_n .iload 6 81 := qs_21 6 (by decide +kernel)
theorem dT_mostAlone_81 : dl tT_mostAlone 81 .istore_n .istore 4 83 := qs_54 4 (by decide +kernel)
theorem dT_mostAlone_83 : dl tT_mostAlone 83 .iload_n .iload 6 85 := qs_21 6 (by decide +kernel)
theorem dT_mostAlone_85 : dn tT_mostAlone 85 (.invokestatic 60) 3 88 := qr_184 0 60 60 (by decide +kernel)
theorem dT_mostAlone_88 : dl tT_mostAlone 88 .istore_n .istore 5 90 := qs_54 5 (by decide +kernel)
theorem dT_mostAlone_90 : dn tT_mostAlone 90 (.iinc 6 1) 3 93 := qr_132 6 1 1 (by decide +kernel)
theorem dT_mostAlone_93 : db tT_mostAlone 93 .goto 43 96 := qr_167 255 206 (-50) (by decide +kernel) rfl
theorem dT_mostAlone_96 : dl tT_mostAlone 96 .iload_n .iload 4 98 := qs_21 4 (by decide +kernel)
theorem dT_mostAlone_98 : dn tT_mostAlone 98 (.ireturn) 1 99 := qr_172 (by decide +kernel)
theorem dT_isAlone_0 : dn tT_isAlone 0 (.iconst 0) 1 1 := qr_3 (by decide +kernel)
theorem dT_isAlone_1 : dl tT_isAlone 1 .istore_n .istore 2 2 := qr_61 (by decide +kernel)
theorem dT_isAlone_2 : dl tT_isAlone 2 .iload_n .iload 2 3 := qr_28 (by decide +kernel)
theorem dT_isAlone_3 : dn tT_isAlone 3 (.bipush 12) 2 5 := qr_16 12 12 (by decide +kernel)
theorem dT_isAlone_5 : db tT_isAlone 5 (.if_icmp .ge) 36 8 := qr_162 0 31 31 (by decide +kernel) rfl
theorem dT_isAlone_8 : dl tT_isAlone 8 .iload_n .iload 1 9 := qr_27 (by decide +kernel)
theorem dT_isAlone_9 : dl tT_isAlone 9 .iload_n .iload 2 10 := qr_28 (by decide +kernel)
theorem dT_isAlone_10 : dn tT_isAlone 10 (.ishr) 1 11 := qr_122 (by decide +kernel)
theorem dT_isAlone_11 : dn tT_isAlone 11 (.iconst 1) 1 12 := qr_4 (by decide +kernel)
theorem dT_isAlone_12 : dn tT_isAlone 12 (.iand) 1 13 := qr_126 (by decide +kernel)
theorem dT_isAlone_13 : dn tT_isAlone 13 (.iconst 1) 1 14 := qr_4 (by decide +kernel)
theorem dT_isAlone_14 : db tT_isAlone 14 (.if_icmp .ne) 30 17 := qr_160 0 16 16 (by decide +kernel) rfl
theorem dT_isAlone_17 : dl tT_isAlone 17 .aload_n .aload 0 18 := qr_42 (by decide +kernel)
theorem dT_isAlone_18 : dn tT_isAlone 18 (.getfield 15) 3 21 := qr_180 0 15 15 (by decide +kernel)
theorem dT_isAlone_21 : dl tT_isAlone 21 .iload_n .iload 2 22 := qr_28 (by decide +kernel)
theorem dT_isAlone_22 : dn tT_isAlone 22 (.iaload) 1 23 := qr_46 (by decide +kernel)
theorem dT_isAlone_23 : dl tT_isAlone 23 .iload_n .iload 1 24 := qr_27 (by decide +kernel)
theorem dT_isAlone_24 : dn tT_isAlone 24 (.iand) 1 25 := qr_126 (by decide +kernel)
theorem dT_isAlone_25 : db tT_isAlone 25 (.ifCond .eq) 30 28 := qr_153 0 5 5 (by decide +kernel) rfl
theorem dT_isAlone_28 : dn tT_isAlone 28 (.iconst 0) 1 29 := qr_3 (by decide +kernel)
theorem dT_isAlone_29 : dn tT_isAlone 29 (.ireturn) 1 30 := qr_172 (by decide +kernel)
theorem dT_isAlone_30 : dn tT_isAlone 30 (.iinc 2 1) 3 33 := qr_132 2 1 1 (by decide +kernel)
theorem dT_isAlone_33 : db tT_isAlone 33 .goto 2 36 := qr_167 255 225 (-31) (by decide +kernel) rfl
theorem dT_isAlone_36 : dn tT_isAlone 36 (.iconst 1) 1 37 := qr_4 (by decide +kernel)
theorem dT_isAlone_37 : dn tT_isAlone 37 (.ireturn) 1 38 := qr_172 (by decide +kernel)
def tA_take : MM := (⟨"GingerRents$Tape", "take", "(I)V"⟩, prog_11_method_2_code, 3, none)
theorem okA_take : mV tA_take 1 := ⟨⟨tb_in (ch_3_10 _ (List.mem_of_getElem? (i := 1) rfl)) rfl, tb_in (ch_1_0 _ (List.mem_of_getElem? (i := 9) rfl)) rfl, ⟨cq_13.1, cq_13.2, by decide +kernel⟩, by decide⟩, tb_in (ch_3_9 _ (List.mem_of_getElem? (i := 15) rfl)) rfl, tb_in (ch_3_10 _ (List.mem_of_getElem? (i := 0) rfl)) rfl⟩
def tA_scan : MM := (⟨"GingerRents$Tape", "scan", "(Ljava/lang/String;)V"⟩, prog_11_method_3_code, 6, none)
theorem okA_scan : mV tA_scan 1 := ⟨⟨tb_in (ch_3_11 _ (List.mem_of_getElem? (i := 12) rfl)) rfl, tb_in (ch_1_0 _ (List.mem_of_getElem? (i := 9) rfl)) rfl, ⟨cq_13.1, cq_13.2, by decide +kernel⟩, by decide⟩, tb_in (ch_3_11 _ (List.mem_of_getElem? (i := 10) rfl)) rfl, tb_in (ch_3_11 _ (List.mem_of_getElem? (i := 11) rfl)) rfl⟩
def tA_keepToken : MM := (⟨"GingerRents$Tape", "keepToken", "(III)V"⟩, prog_11_method_4_code, 4, none)
theorem okA_keepToken : mV tA_keepToken 3 := ⟨⟨tb_in (ch_4_5 _ (List.mem_of_getElem? (i := 14) rfl)) rfl, tb_in (ch_1_0 _ (List.mem_of_getElem? (i := 9) rfl)) rfl, ⟨cq_13.1, cq_13.2, by decide +kernel⟩, by decide⟩, tb_in (ch_4_5 _ (List.mem_of_getElem? (i := 13) rfl)) rfl, tb_in (cs_2 _ (List.mem_of_getElem? (i := 12) (a := (⟨"GingerRents$Tape", "keepToken", "(III)V"⟩, 6)) rfl)) rfl⟩
def tA_behindToken : MM := (⟨"GingerRents$Tape", "behindToken", "(I)I"⟩, prog_11_method_5_code, 4, (some .int))
theorem okA_behindToken : mV tA_behindToken 1 := ⟨⟨tb_in (ch_3_12 _ (List.mem_of_getElem? (i := 0) rfl)) rfl, tb_in (ch_1_0 _ (List.mem_of_getElem? (i := 9) rfl)) rfl, ⟨cq_13.1, cq_13.2, by decide +kernel⟩, by decide⟩, tb_in (ch_3_11 _ (List.mem_of_getElem? (i := 15) rfl)) rfl, tb_in (cs_2 _ (List.mem_of_getElem? (i := 5) (a := (⟨"GingerRents$Tape", "behindToken", "(I)I"⟩, 6)) rfl)) rfl⟩
def tA_kindOf : MM := (⟨"GingerRents$Tape", "kindOf", "(Ljava/lang/String;II)I"⟩, prog_11_method_6_code, 5, (some .int))
theorem okA_kindOf : mV tA_kindOf 3 := ⟨⟨tb_in (ch_3_13 _ (List.mem_of_getElem? (i := 2) rfl)) rfl, tb_in (ch_1_0 _ (List.mem_of_getElem? (i := 9) rfl)) rfl, ⟨cq_13.1, cq_13.2, by decide +kernel⟩, by decide⟩, tb_in (ch_3_13 _ (List.mem_of_getElem? (i := 1) rfl)) rfl, tb_in (cs_2 _ (List.mem_of_getElem? (i := 7) (a := (⟨"GingerRents$Tape", "kindOf", "(Ljava/lang/String;II)I"⟩, 6)) rfl)) rfl⟩
def tA_valueOf : MM := (⟨"GingerRents$Tape", "valueOf", "(Ljava/lang/String;III)I"⟩, prog_11_method_7_code, 5, (some .int))
theorem okA_valueOf : mV tA_valueOf 4 := ⟨⟨tb_in (ch_4_5 _ (List.mem_of_getElem? (i := 6) rfl)) rfl, tb_in (ch_1_0 _ (List.mem_of_getElem? (i := 9) rfl)) rfl, ⟨cq_13.1, cq_13.2, by decide +kernel⟩, by decide⟩, tb_in (ch_4_5 _ (List.mem_of_getElem? (i := 5) rfl)) rfl, tb_in (cs_2 _ (List.mem_of_getElem? (i := 10) (a := (⟨"GingerRents$Tape", "valueOf", "(Ljava/lang/String;III)I"⟩, 6)) rfl)) rfl⟩
def tA_numberAt : MM := (⟨"GingerRents$Tape", "numberAt", "(II)I"⟩, prog_11_method_8_code, 5, (some .int))
theorem okA_numberAt : mV tA_numberAt 2 := ⟨⟨tb_in (ch_4_5 _ (List.mem_of_getElem? (i := 10) rfl)) rfl, tb_in (ch_1_0 _ (List.mem_of_getElem? (i := 9) rfl)) rfl, ⟨cq_13.1, cq_13.2, by decide +kernel⟩, by decide⟩, tb_in (ch_4_5 _ (List.mem_of_getElem? (i := 9) rfl)) rfl, tb_in (cs_2 _ (List.mem_of_getElem? (i := 11) (a := (⟨"GingerRents$Tape", "numberAt", "(II)I"⟩, 6)) rfl)) rfl⟩
def tA_wordNumber : MM := (⟨"GingerRents$Tape", "wordNumber", "(Ljava/lang/String;II)I"⟩, prog_11_method_9_code, 7, (some .int))
theorem okA_wordNumber : mV tA_wordNumber 3 := ⟨⟨tb_in (ch_3_13 _ (List.mem_of_getElem? (i := 6) rfl)) rfl, tb_in (ch_1_0 _ (List.mem_of_getElem? (i := 9) rfl)) rfl, ⟨cq_13.1, cq_13.2, by decide +kernel⟩, by decide⟩, tb_in (ch_3_13 _ (List.mem_of_getElem? (i := 5) rfl)) rfl, tb_in (cs_2 _ (List.mem_of_getElem? (i := 8) (a := (⟨"GingerRents$Tape", "wordNumber", "(Ljava/lang/String;II)I"⟩, 6)) rfl)) rfl⟩
def tA_isSame : MM := (⟨"GingerRents$Tape", "isSame", "(Ljava/lang/String;III)Z"⟩, prog_11_method_10_code, 7, (some .boolean))
theorem okA_isSame : mV tA_isSame 4 := ⟨⟨tb_in (ch_4_1 _ (List.mem_of_getElem? (i := 10) rfl)) rfl, tb_in (ch_1_0 _ (List.mem_of_getElem? (i := 9) rfl)) rfl, ⟨cq_13.1, cq_13.2, by decide +kernel⟩, by decide⟩, tb_in (ch_4_1 _ (List.mem_of_getElem? (i := 9) rfl)) rfl, tb_in (cs_2 _ (List.mem_of_getElem? (i := 9) (a := (⟨"GingerRents$Tape", "isSame", "(Ljava/lang/String;III)Z"⟩, 6)) rfl)) rfl⟩
def tA_byteAt : MM := (⟨"GingerRents$Tape", "byteAt", "(I)I"⟩, prog_11_method_11_code, 2, (some .int))
theorem okA_byteAt : mV tA_byteAt 1 := ⟨⟨tb_in (ch_3_12 _ (List.mem_of_getElem? (i := 4) rfl)) rfl, tb_in (ch_1_0 _ (List.mem_of_getElem? (i := 9) rfl)) rfl, ⟨cq_13.1, cq_13.2, by decide +kernel⟩, by decide⟩, tb_in (ch_3_12 _ (List.mem_of_getElem? (i := 3) rfl)) rfl, tb_in (cs_2 _ (List.mem_of_getElem? (i := 6) (a := (⟨"GingerRents$Tape", "byteAt", "(I)I"⟩, 6)) rfl)) rfl⟩
def tA_isBlank : MM := (⟨"GingerRents$Tape", "isBlank", "(I)Z"⟩, prog_11_method_12_code, 1, (some .boolean))
theorem okA_isBlank : mS tA_isBlank 1 := ⟨⟨tb_in (ch_3_12 _ (List.mem_of_getElem? (i := 14) rfl)) rfl, tb_in (ch_1_0 _ (List.mem_of_getElem? (i := 9) rfl)) rfl, ⟨cq_13.1, cq_13.2, by decide +kernel⟩, by decide⟩, tb_in (ch_3_12 _ (List.mem_of_getElem? (i := 13) rfl)) rfl⟩
def tA_isLetter : MM := (⟨"GingerRents$Tape", "isLetter", "(I)Z"⟩, prog_11_method_13_code, 1, (some .boolean))
theorem okA_isLetter : mS tA_isLetter 1 := ⟨⟨tb_in (ch_3_12 _ (List.mem_of_getElem? (i := 7) rfl)) rfl, tb_in (ch_1_0 _ (List.mem_of_getElem? (i := 9) rfl)) rfl, ⟨cq_13.1, cq_13.2, by decide +kernel⟩, by decide⟩, tb_in (ch_3_12 _ (List.mem_of_getElem? (i := 6) rfl)) rfl⟩
def tA_isDigit : MM := (⟨"GingerRents$Tape", "isDigit", "(I)Z"⟩, prog_11_method_14_code, 1, (some .boolean))
theorem okA_isDigit : mS tA_isDigit 1 := ⟨⟨tb_in (ch_3_12 _ (List.mem_of_getElem? (i := 11) rfl)) rfl, tb_in (ch_1_0 _ (List.mem_of_getElem? (i := 9) rfl)) rfl, ⟨cq_13.1, cq_13.2, by decide +kernel⟩, by decide⟩, tb_in (ch_3_12 _ (List.mem_of_getElem? (i := 10) rfl)) rfl⟩
theorem fuA_25 : fu "GingerRents$Tape" 25 10 4 := ⟨_, _, _, rfl, by decide, rfl, tb_in (ch_2_0 _ (List.mem_of_getElem? (i := 12) rfl)) rfl⟩
theorem fuA_9 : fu "GingerRents$Tape" 9 10 0 := ⟨_, _, _, rfl, by decide, rfl, tb_in (ch_2_0 _ (List.mem_of_getElem? (i := 5) rfl)) rfl⟩
theorem fuA_29 : fu "GingerRents$Tape" 29 10 5 := ⟨_, _, _, rfl, by decide, rfl, tb_in (ch_2_0 _ (List.mem_of_getElem? (i := 15) rfl)) rfl⟩
theorem mlA_32 : Cond.methodLink "GingerRents$Tape" 32 ⟨"GingerRents$Tape", "behindToken", "(I)I"⟩ ∈ tb := tb_in (ch_3_11 _ (List.mem_of_getElem? (i := 13) rfl)) rfl
theorem mlA_36 : Cond.methodLink "GingerRents$Tape" 36 ⟨"GingerRents$Tape", "byteAt", "(I)I"⟩ ∈ tb := tb_in (ch_3_12 _ (List.mem_of_getElem? (i := 1) rfl)) rfl
theorem mlA_39 : Cond.methodLink "GingerRents$Tape" 39 ⟨"GingerRents$Tape", "isBlank", "(I)Z"⟩ ∈ tb := tb_in (ch_3_12 _ (List.mem_of_getElem? (i := 12) rfl)) rfl
theorem mlA_43 : Cond.methodLink "GingerRents$Tape" 43 ⟨"GingerRents$Tape", "kindOf", "(Ljava/lang/String;II)I"⟩ ∈ tb := tb_in (ch_3_12 _ (List.mem_of_getElem? (i := 15) rfl)) rfl
theorem mlA_47 : Cond.methodLink "GingerRents$Tape" 47 ⟨"GingerRents$Tape", "valueOf", "(Ljava/lang/String;III)I"⟩ ∈ tb := tb_in (ch_4_5 _ (List.mem_of_getElem? (i := 3) rfl)) rfl
theorem mlA_51 : Cond.methodLink "GingerRents$Tape" 51 ⟨"GingerRents$Tape", "keepToken", "(III)V"⟩ ∈ tb := tb_in (ch_4_5 _ (List.mem_of_getElem? (i := 11) rfl)) rfl
theorem fuA_15 : fu "GingerRents$Tape" 15 10 1 := ⟨_, _, _, rfl, by decide, rfl, tb_in (ch_2_0 _ (List.mem_of_getElem? (i := 6) rfl)) rfl⟩
theorem fuA_19 : fu "GingerRents$Tape" 19 10 2 := ⟨_, _, _, rfl, by decide, rfl, tb_in (ch_2_0 _ (List.mem_of_getElem? (i := 8) rfl)) rfl⟩
theorem fuA_22 : fu "GingerRents$Tape" 22 10 3 := ⟨_, _, _, rfl, by decide, rfl, tb_in (ch_2_0 _ (List.mem_of_getElem? (i := 10) rfl)) rfl⟩
theorem mlA_55 : Cond.methodLink "GingerRents$Tape" 55 ⟨"GingerRents$Tape", "isLetter", "(I)Z"⟩ ∈ tb := tb_in (ch_3_12 _ (List.mem_of_getElem? (i := 5) rfl)) rfl
theorem mlA_58 : Cond.methodLink "GingerRents$Tape" 58 ⟨"GingerRents$Tape", "isDigit", "(I)Z"⟩ ∈ tb := tb_in (ch_3_12 _ (List.mem_of_getElem? (i := 9) rfl)) rfl
theorem mlA_61 : Cond.methodLink "GingerRents$Tape" 61 ⟨"GingerRents$Tape", "wordNumber", "(Ljava/lang/String;II)I"⟩ ∈ tb := tb_in (ch_3_13 _ (List.mem_of_getElem? (i := 3) rfl)) rfl
theorem mlA_66 : Cond.methodLink "GingerRents$Tape" 66 ⟨"java/lang/String", "indexOf", "(I)I"⟩ ∈ tb := tb_in (ch_4_1 _ (List.mem_of_getElem? (i := 12) rfl)) rfl
theorem mlA_71 : Cond.methodLink "GingerRents$Tape" 71 ⟨"GingerRents$Tape", "numberAt", "(II)I"⟩ ∈ tb := tb_in (ch_4_5 _ (List.mem_of_getElem? (i := 7) rfl)) rfl
theorem mlA_75 : Cond.methodLink "GingerRents$Tape" 75 ⟨"java/lang/String", "length", "()I"⟩ ∈ tb := tb_in (ch_3_13 _ (List.mem_of_getElem? (i := 7) rfl)) rfl
theorem mlA_78 : Cond.methodLink "GingerRents$Tape" 78 ⟨"java/lang/String", "charAt", "(I)C"⟩ ∈ tb := tb_in (ch_3_14 _ (List.mem_of_getElem? (i := 1) rfl)) rfl
theorem mlA_82 : Cond.methodLink "GingerRents$Tape" 82 ⟨"GingerRents$Tape", "isSame", "(Ljava/lang/String;III)Z"⟩ ∈ tb := tb_in (ch_4_1 _ (List.mem_of_getElem? (i := 7) rfl)) rfl
theorem mlA_86 : ("GingerRents$Tape", 86, (⟨"GingerRents", "within", "(III)Z"⟩ : MethodName)) ∈ nsL := by decide
theorem dA_take_0 : dn tA_take 0 (.bipush 24) 2 2 := qr_16 24 24 (by decide +kernel)
theorem dA_take_2 : dl tA_take 2 .istore_n .istore 2 3 := qr_61 (by decide +kernel)
theorem dA_take_3 : dl tA_take 3 .iload_n .iload 2 4 := qr_28 (by decide +kernel)
theorem dA_take_4 : db tA_take 4 (.ifCond .lt) 46 7 := qr_155 0 42 42 (by decide +kernel) rfl
theorem dA_take_7 : dl tA_take 7 .aload_n .aload 0 8 := qr_42 (by decide +kernel)
theorem dA_take_8 : dn tA_take 8 (.getfield 25) 3 11 := qr_180 0 25 25 (by decide +kernel)
theorem dA_take_11 : dn tA_take 11 (.sipush 400) 3 14 := qr_17 1 144 400 (by decide +kernel)
theorem dA_take_14 : db tA_take 14 (.if_icmp .ge) 40 17 := qr_162 0 26 26 (by decide +kernel) rfl
theorem dA_take_17 : dl tA_take 17 .aload_n .aload 0 18 := qr_42 (by decide +kernel)
theorem dA_take_18 : dn tA_take 18 (.getfield 9) 3 21 := qr_180 0 9 9 (by decide +kernel)
theorem dA_take_21 : dl tA_take 21 .aload_n .aload 0 22 := qr_42 (by decide +kernel)
theorem dA_take_22 : dn tA_take 22 (.getfield 25) 3 25 := qr_180 0 25 25 (by decide +kernel)
theorem dA_take_25 : dl tA_take 25 .iload_n .iload 1 26 := qr_27 (by decide +kernel)
theorem dA_take_26 : dl tA_take 26 .iload_n .iload 2 27 := qr_28 (by decide +kernel)
theorem dA_take_27 : dn tA_take 27 (.iushr) 1 28 := qr_124 (by decide +kernel)
theorem dA_take_28 : dn tA_take 28 (.i2b) 1 29 := qr_145 (by decide +kernel)
theorem dA_take_29 : dn tA_take 29 (.bastore) 1 30 := qr_84 (by decide +kernel)
theorem dA_take_30 : dl tA_take 30 .aload_n .aload 0 31 := qr_42 (by decide +kernel)
theorem dA_take_31 : dn tA_take 31 (.dup) 1 32 := qr_89 (by decide +kernel)
theorem dA_take_32 : dn tA_take 32 (.getfield 25) 3 35 := qr_180 0 25 25 (by decide +kernel)
theorem dA_take_35 : dn tA_take 35 (.iconst 1) 1 36 := qr_4 (by decide +kernel)
theorem dA_take_36 : dn tA_take 36 (.iadd) 1 37 := qr_96 (by decide +kernel)
theorem dA_take_37 : dn tA_take 37 (.putfield 25) 3 40 := qr_181 0 25 25 (by decide +kernel)
theorem dA_take_40 : dn tA_take 40 (.iinc 2 (-8)) 3 43 := qr_132 2 248 (-8) (by decide +kernel)
theorem dA_take_43 : db tA_take 43 .goto 3 46 := qr_167 255 216 (-40) (by decide +kernel) rfl
theorem dA_take_46 : dn tA_take 46 (.return_) 1 47 := qr_177 (by decide +kernel)
theorem dA_scan_0 : dl tA_scan 0 .aload_n .aload 0 1 := qr_42 (by decide +kernel)
theorem dA_scan_1 : dn tA_scan 1 (.iconst 0) 1 2 := qr_3 (by decide +kernel)
theorem dA_scan_2 : dn tA_scan 2 (.putfield 29) 3 5 := qr_181 0 29 29 (by decide +kernel)
theorem dA_scan_5 : dn tA_scan 5 (.iconst 0) 1 6 := qr_3 (by decide +kernel)
theorem dA_scan_6 : dl tA_scan 6 .istore_n .istore 2 7 := qr_61 (by decide +kernel)
theorem dA_scan_7 : dn tA_scan 7 (.iconst 0) 1 8 := qr_3 (by decide +kernel)
theorem dA_scan_8 : dl tA_scan 8 .istore_n .istore 3 9 := qr_62 (by decide +kernel)
theorem dA_scan_9 : dl tA_scan 9 .iload_n .iload 3 10 := qr_29 (by decide +kernel)
theorem dA_scan_10 : dn tA_scan 10 (.sipush 400) 3 13 := qr_17 1 144 400 (by decide +kernel)
theorem dA_scan_13 : db tA_scan 13 (.if_icmp .ge) 78 16 := qr_162 0 65 65 (by decide +kernel) rfl
theorem dA_scan_16 : dl tA_scan 16 .iload_n .iload 2 17 := qr_28 (by decide +kernel)
theorem dA_scan_17 : dl tA_scan 17 .aload_n .aload 0 18 := qr_42 (by decide +kernel)
theorem dA_scan_18 : dn tA_scan 18 (.getfield 25) 3 21 := qr_180 0 25 25 (by decide +kernel)
theorem dA_scan_21 : db tA_scan 21 (.if_icmp .ge) 78 24 := qr_162 0 57 57 (by decide +kernel) rfl
theorem dA_scan_24 : dl tA_scan 24 .aload_n .aload 0 25 := qr_42 (by decide +kernel)
theorem dA_scan_25 : dl tA_scan 25 .iload_n .iload 2 26 := qr_28 (by decide +kernel)
theorem dA_scan_26 : dn tA_scan 26 (.invokevirtual 32) 3 29 := qr_182 0 32 32 (by decide +kernel)
theorem dA_scan_29 : dl tA_scan 29 .istore_n .istore 4 31 := qs_54 4 (by decide +kernel)
theorem dA_scan_31 : dl tA_scan 31 .aload_n .aload 0 32 := qr_42 (by decide +kernel)
theorem dA_scan_32 : dl tA_scan 32 .iload_n .iload 2 33 := qr_28 (by decide +kernel)
theorem dA_scan_33 : dn tA_scan 33 (.invokevirtual 36) 3 36 := qr_182 0 36 36 (by decide +kernel)
theorem dA_scan_36 : dn tA_scan 36 (.invokestatic 39) 3 39 := qr_184 0 39 39 (by decide +kernel)
theorem dA_scan_39 : db tA_scan 39 (.ifCond .ne) 69 42 := qr_154 0 30 30 (by decide +kernel) rfl
theorem dA_scan_42 : dl tA_scan 42 .aload_n .aload 0 43 := qr_42 (by decide +kernel)
theorem dA_scan_43 : dl tA_scan 43 .aload_n .aload 1 44 := qr_43 (by decide +kernel)
theorem dA_scan_44 : dl tA_scan 44 .iload_n .iload 2 45 := qr_28 (by decide +kernel)
theorem dA_scan_45 : dl tA_scan 45 .iload_n .iload 4 47 := qs_21 4 (by decide +kernel)
theorem dA_scan_47 : dn tA_scan 47 (.invokevirtual 43) 3 50 := qr_182 0 43 43 (by decide +kernel)
theorem dA_scan_50 : dl tA_scan 50 .istore_n .istore 5 52 := qs_54 5 (by decide +kernel)
theorem dA_scan_52 : dl tA_scan 52 .aload_n .aload 0 53 := qr_42 (by decide +kernel)
theorem dA_scan_53 : dl tA_scan 53 .iload_n .iload 5 55 := qs_21 5 (by decide +kernel)
theorem dA_scan_55 : dl tA_scan 55 .aload_n .aload 0 56 := qr_42 (by decide +kernel)
theorem dA_scan_56 : dl tA_scan 56 .aload_n .aload 1 57 := qr_43 (by decide +kernel)
theorem dA_scan_57 : dl tA_scan 57 .iload_n .iload 5 59 := qs_21 5 (by decide +kernel)
theorem dA_scan_59 : dl tA_scan 59 .iload_n .iload 2 60 := qr_28 (by decide +kernel)
theorem dA_scan_60 : dl tA_scan 60 .iload_n .iload 4 62 := qs_21 4 (by decide +kernel)
theorem dA_scan_62 : dn tA_scan 62 (.invokevirtual 47) 3 65 := qr_182 0 47 47 (by decide +kernel)
theorem dA_scan_65 : dl tA_scan 65 .iload_n .iload 2 66 := qr_28 (by decide +kernel)
theorem dA_scan_66 : dn tA_scan 66 (.invokevirtual 51) 3 69 := qr_182 0 51 51 (by decide +kernel)
theorem dA_scan_69 : dl tA_scan 69 .iload_n .iload 4 71 := qs_21 4 (by decide +kernel)
theorem dA_scan_71 : dl tA_scan 71 .istore_n .istore 2 72 := qr_61 (by decide +kernel)
theorem dA_scan_72 : dn tA_scan 72 (.iinc 3 1) 3 75 := qr_132 3 1 1 (by decide +kernel)
theorem dA_scan_75 : db tA_scan 75 .goto 9 78 := qr_167 255 190 (-66) (by decide +kernel) rfl
theorem dA_scan_78 : dl tA_scan 78 .aload_n .aload 0 79 := qr_42 (by decide +kernel)
theorem dA_scan_79 : dn tA_scan 79 (.iconst 0) 1 80 := qr_3 (by decide +kernel)
theorem dA_scan_80 : dn tA_scan 80 (.iconst 0) 1 81 := qr_3 (by decide +kernel)
theorem dA_scan_81 : dl tA_scan 81 .aload_n .aload 0 82 := qr_42 (by decide +kernel)
theorem dA_scan_82 : dn tA_scan 82 (.getfield 25) 3 85 := qr_180 0 25 25 (by decide +kernel)
theorem dA_scan_85 : dn tA_scan 85 (.invokevirtual 51) 3 88 := qr_182 0 51 51 (by decide +kernel)
theorem dA_scan_88 : dn tA_scan 88 (.return_) 1 89 := qr_177 (by decide +kernel)
theorem dA_keepToken_0 : dl tA_keepToken 0 .aload_n .aload 0 1 := qr_42 (by decide +kernel)
theorem dA_keepToken_1 : dn tA_keepToken 1 (.getfield 29) 3 4 := qr_180 0 29 29 (by decide +kernel)
theorem dA_keepToken_4 : dn tA_keepToken 4 (.sipush 400) 3 7 := qr_17 1 144 400 (by decide +kernel)
theorem dA_keepToken_7 : db tA_keepToken 7 (.if_icmp .gt) 50 10 := qr_163 0 43 43 (by decide +kernel) rfl
theorem dA_keepToken_10 : dl tA_keepToken 10 .aload_n .aload 0 11 := qr_42 (by decide +kernel)
theorem dA_keepToken_11 : dn tA_keepToken 11 (.getfield 15) 3 14 := qr_180 0 15 15 (by decide +kernel)
theorem dA_keepToken_14 : dl tA_keepToken 14 .aload_n .aload 0 15 := qr_42 (by decide +kernel)
theorem dA_keepToken_15 : dn tA_keepToken 15 (.getfield 29) 3 18 := qr_180 0 29 29 (by decide +kernel)
theorem dA_keepToken_18 : dl tA_keepToken 18 .iload_n .iload 1 19 := qr_27 (by decide +kernel)
theorem dA_keepToken_19 : dn tA_keepToken 19 (.iastore) 1 20 := qr_79 (by decide +kernel)
theorem dA_keepToken_20 : dl tA_keepToken 20 .aload_n .aload 0 21 := qr_42 (by decide +kernel)
theorem dA_keepToken_21 : dn tA_keepToken 21 (.getfield 19) 3 24 := qr_180 0 19 19 (by decide +kernel)
theorem dA_keepToken_24 : dl tA_keepToken 24 .aload_n .aload 0 25 := qr_42 (by decide +kernel)
theorem dA_keepToken_25 : dn tA_keepToken 25 (.getfield 29) 3 28 := qr_180 0 29 29 (by decide +kernel)
theorem dA_keepToken_28 : dl tA_keepToken 28 .iload_n .iload 2 29 := qr_28 (by decide +kernel)
theorem dA_keepToken_29 : dn tA_keepToken 29 (.iastore) 1 30 := qr_79 (by decide +kernel)
theorem dA_keepToken_30 : dl tA_keepToken 30 .aload_n .aload 0 31 := qr_42 (by decide +kernel)
theorem dA_keepToken_31 : dn tA_keepToken 31 (.getfield 22) 3 34 := qr_180 0 22 22 (by decide +kernel)
theorem dA_keepToken_34 : dl tA_keepToken 34 .aload_n .aload 0 35 := qr_42 (by decide +kernel)
theorem dA_keepToken_35 : dn tA_keepToken 35 (.getfield 29) 3 38 := qr_180 0 29 29 (by decide +kernel)
theorem dA_keepToken_38 : dl tA_keepToken 38 .iload_n .iload 3 39 := qr_29 (by decide +kernel)
theorem dA_keepToken_39 : dn tA_keepToken 39 (.iastore) 1 40 := qr_79 (by decide +kernel)
theorem dA_keepToken_40 : dl tA_keepToken 40 .aload_n .aload 0 41 := qr_42 (by decide +kernel)
theorem dA_keepToken_41 : dn tA_keepToken 41 (.dup) 1 42 := qr_89 (by decide +kernel)
theorem dA_keepToken_42 : dn tA_keepToken 42 (.getfield 29) 3 45 := qr_180 0 29 29 (by decide +kernel)
theorem dA_keepToken_45 : dn tA_keepToken 45 (.iconst 1) 1 46 := qr_4 (by decide +kernel)
theorem dA_keepToken_46 : dn tA_keepToken 46 (.iadd) 1 47 := qr_96 (by decide +kernel)
theorem dA_keepToken_47 : dn tA_keepToken 47 (.putfield 29) 3 50 := qr_181 0 29 29 (by decide +kernel)
theorem dA_keepToken_50 : dn tA_keepToken 50 (.return_) 1 51 := qr_177 (by decide +kernel)
theorem dA_behindToken_0 : dl tA_behindToken 0 .aload_n .aload 0 1 := qr_42 (by decide +kernel)
theorem dA_behindToken_1 : dl tA_behindToken 1 .iload_n .iload 1 2 := qr_27 (by decide +kernel)
theorem dA_behindToken_2 : dn tA_behindToken 2 (.invokevirtual 36) 3 5 := qr_182 0 36 36 (by decide +kernel)
theorem dA_behindToken_5 : dl tA_behindToken 5 .istore_n .istore 2 6 := qr_61 (by decide +kernel)
theorem dA_behindToken_6 : dl tA_behindToken 6 .iload_n .iload 1 7 := qr_27 (by decide +kernel)
theorem dA_behindToken_7 : dn tA_behindToken 7 (.iconst 1) 1 8 := qr_4 (by decide +kernel)
theorem dA_behindToken_8 : dn tA_behindToken 8 (.iadd) 1 9 := qr_96 (by decide +kernel)
theorem dA_behindToken_9 : dl tA_behindToken 9 .istore_n .istore 3 10 := qr_62 (by decide +kernel)
theorem dA_behindToken_10 : dl tA_behindToken 10 .iload_n .iload 2 11 := qr_28 (by decide +kernel)
theorem dA_behindToken_11 : dn tA_behindToken 11 (.invokestatic 55) 3 14 := qr_184 0 55 55 (by decide +kernel)
theorem dA_behindToken_14 : db tA_behindToken 14 (.ifCond .eq) 42 17 := qr_153 0 28 28 (by decide +kernel) rfl
theorem dA_behindToken_17 : dl tA_behindToken 17 .iload_n .iload 3 18 := qr_29 (by decide +kernel)
theorem dA_behindToken_18 : dl tA_behindToken 18 .aload_n .aload 0 19 := qr_42 (by decide +kernel)
theorem dA_behindToken_19 : dn tA_behindToken 19 (.getfield 25) 3 22 := qr_180 0 25 25 (by decide +kernel)
theorem dA_behindToken_22 : db tA_behindToken 22 (.if_icmp .ge) 74 25 := qr_162 0 52 52 (by decide +kernel) rfl
theorem dA_behindToken_25 : dl tA_behindToken 25 .aload_n .aload 0 26 := qr_42 (by decide +kernel)
theorem dA_behindToken_26 : dl tA_behindToken 26 .iload_n .iload 3 27 := qr_29 (by decide +kernel)
theorem dA_behindToken_27 : dn tA_behindToken 27 (.invokevirtual 36) 3 30 := qr_182 0 36 36 (by decide +kernel)
theorem dA_behindToken_30 : dn tA_behindToken 30 (.invokestatic 55) 3 33 := qr_184 0 55 55 (by decide +kernel)
theorem dA_behindToken_33 : db tA_behindToken 33 (.ifCond .eq) 74 36 := qr_153 0 41 41 (by decide +kernel) rfl
theorem dA_behindToken_36 : dn tA_behindToken 36 (.iinc 3 1) 3 39 := qr_132 3 1 1 (by decide +kernel)
theorem dA_behindToken_39 : db tA_behindToken 39 .goto 17 42 := qr_167 255 234 (-22) (by decide +kernel) rfl
theorem dA_behindToken_42 : dl tA_behindToken 42 .iload_n .iload 2 43 := qr_28 (by decide +kernel)
theorem dA_behindToken_43 : dn tA_behindToken 43 (.invokestatic 58) 3 46 := qr_184 0 58 58 (by decide +kernel)
theorem dA_behindToken_46 : db tA_behindToken 46 (.ifCond .eq) 74 49 := qr_153 0 28 28 (by decide +kernel) rfl
theorem dA_behindToken_49 : dl tA_behindToken 49 .iload_n .iload 3 50 := qr_29 (by decide +kernel)
theorem dA_behindToken_50 : dl tA_behindToken 50 .aload_n .aload 0 51 := qr_42 (by decide +kernel)
theorem dA_behindToken_51 : dn tA_behindToken 51 (.getfield 25) 3 54 := qr_180 0 25 25 (by decide +kernel)
theorem dA_behindToken_54 : db tA_behindToken 54 (.if_icmp .ge) 74 57 := qr_162 0 20 20 (by decide +kernel) rfl
theorem dA_behindToken_57 : dl tA_behindToken 57 .aload_n .aload 0 58 := qr_42 (by decide +kernel)
theorem dA_behindToken_58 : dl tA_behindToken 58 .iload_n .iload 3 59 := qr_29 (by decide +kernel)
theorem dA_behindToken_59 : dn tA_behindToken 59 (.invokevirtual 36) 3 62 := qr_182 0 36 36 (by decide +kernel)
theorem dA_behindToken_62 : dn tA_behindToken 62 (.invokestatic 58) 3 65 := qr_184 0 58 58 (by decide +kernel)
theorem dA_behindToken_65 : db tA_behindToken 65 (.ifCond .eq) 74 68 := qr_153 0 9 9 (by decide +kernel) rfl
theorem dA_behindToken_68 : dn tA_behindToken 68 (.iinc 3 1) 3 71 := qr_132 3 1 1 (by decide +kernel)
theorem dA_behindToken_71 : db tA_behindToken 71 .goto 49 74 := qr_167 255 234 (-22) (by decide +kernel) rfl
theorem dA_behindToken_74 : dl tA_behindToken 74 .iload_n .iload 3 75 := qr_29 (by decide +kernel)
theorem dA_behindToken_75 : dn tA_behindToken 75 (.ireturn) 1 76 := qr_172 (by decide +kernel)
theorem dA_kindOf_0 : dl tA_kindOf 0 .aload_n .aload 0 1 := qr_42 (by decide +kernel)
theorem dA_kindOf_1 : dl tA_kindOf 1 .iload_n .iload 2 2 := qr_28 (by decide +kernel)
theorem dA_kindOf_2 : dn tA_kindOf 2 (.invokevirtual 36) 3 5 := qr_182 0 36 36 (by decide +kernel)
theorem dA_kindOf_5 : dl tA_kindOf 5 .istore_n .istore 4 7 := qs_54 4 (by decide +kernel)
theorem dA_kindOf_7 : dl tA_kindOf 7 .iload_n .iload 4 9 := qs_21 4 (by decide +kernel)
theorem dA_kindOf_9 : dn tA_kindOf 9 (.invokestatic 55) 3 12 := qr_184 0 55 55 (by decide +kernel)
theorem dA_kindOf_12 : db tA_kindOf 12 (.ifCond .eq) 32 15 := qr_153 0 20 20 (by decide +kernel) rfl
theorem dA_kindOf_15 : dl tA_kindOf 15 .aload_n .aload 0 16 := qr_42 (by decide +kernel)
theorem dA_kindOf_16 : dl tA_kindOf 16 .aload_n .aload 1 17 := qr_43 (by decide +kernel)
theorem dA_kindOf_17 : dl tA_kindOf 17 .iload_n .iload 2 18 := qr_28 (by decide +kernel)
theorem dA_kindOf_18 : dl tA_kindOf 18 .iload_n .iload 3 19 := qr_29 (by decide +kernel)
theorem dA_kindOf_19 : dn tA_kindOf 19 (.invokevirtual 61) 3 22 := qr_182 0 61 61 (by decide +kernel)
theorem dA_kindOf_22 : dn tA_kindOf 22 (.iconst (-1)) 1 23 := qr_2 (by decide +kernel)
theorem dA_kindOf_23 : db tA_kindOf 23 (.if_icmp .ne) 30 26 := qr_160 0 7 7 (by decide +kernel) rfl
theorem dA_kindOf_26 : dn tA_kindOf 26 (.iconst 4) 1 27 := qr_7 (by decide +kernel)
theorem dA_kindOf_27 : db tA_kindOf 27 .goto 31 30 := qr_167 0 4 4 (by decide +kernel) rfl
theorem dA_kindOf_30 : dn tA_kindOf 30 (.iconst 1) 1 31 := qr_4 (by decide +kernel)
theorem dA_kindOf_31 : dn tA_kindOf 31 (.ireturn) 1 32 := qr_172 (by decide +kernel)
theorem dA_kindOf_32 : dl tA_kindOf 32 .iload_n .iload 4 34 := qs_21 4 (by decide +kernel)
theorem dA_kindOf_34 : dn tA_kindOf 34 (.invokestatic 58) 3 37 := qr_184 0 58 58 (by decide +kernel)
theorem dA_kindOf_37 : db tA_kindOf 37 (.ifCond .eq) 53 40 := qr_153 0 16 16 (by decide +kernel) rfl
theorem dA_kindOf_40 : dl tA_kindOf 40 .iload_n .iload 3 41 := qr_29 (by decide +kernel)
theorem dA_kindOf_41 : dl tA_kindOf 41 .iload_n .iload 2 42 := qr_28 (by decide +kernel)
theorem dA_kindOf_42 : dn tA_kindOf 42 (.isub) 1 43 := qr_100 (by decide +kernel)
theorem dA_kindOf_43 : dn tA_kindOf 43 (.iconst 4) 1 44 := qr_7 (by decide +kernel)
theorem dA_kindOf_44 : db tA_kindOf 44 (.if_icmp .gt) 51 47 := qr_163 0 7 7 (by decide +kernel) rfl
theorem dA_kindOf_47 : dn tA_kindOf 47 (.iconst 2) 1 48 := qr_5 (by decide +kernel)
theorem dA_kindOf_48 : db tA_kindOf 48 .goto 52 51 := qr_167 0 4 4 (by decide +kernel) rfl
theorem dA_kindOf_51 : dn tA_kindOf 51 (.iconst 4) 1 52 := qr_7 (by decide +kernel)
theorem dA_kindOf_52 : dn tA_kindOf 52 (.ireturn) 1 53 := qr_172 (by decide +kernel)
theorem dA_kindOf_53 : dn tA_kindOf 53 (.ldc 64) 2 55 := qr_18 64 (by decide +kernel)
theorem dA_kindOf_55 : dl tA_kindOf 55 .iload_n .iload 4 57 := qs_21 4 (by decide +kernel)
theorem dA_kindOf_57 : dn tA_kindOf 57 (.i2c) 1 58 := qr_146 (by decide +kernel)
theorem dA_kindOf_58 : dn tA_kindOf 58 (.invokevirtual 66) 3 61 := qr_182 0 66 66 (by decide +kernel)
theorem dA_kindOf_61 : db tA_kindOf 61 (.ifCond .lt) 68 64 := qr_155 0 7 7 (by decide +kernel) rfl
theorem dA_kindOf_64 : dn tA_kindOf 64 (.iconst 3) 1 65 := qr_6 (by decide +kernel)
theorem dA_kindOf_65 : db tA_kindOf 65 .goto 69 68 := qr_167 0 4 4 (by decide +kernel) rfl
theorem dA_kindOf_68 : dn tA_kindOf 68 (.iconst 4) 1 69 := qr_7 (by decide +kernel)
theorem dA_kindOf_69 : dn tA_kindOf 69 (.ireturn) 1 70 := qr_172 (by decide +kernel)
theorem dA_valueOf_0 : dl tA_valueOf 0 .iload_n .iload 2 1 := qr_28 (by decide +kernel)
theorem dA_valueOf_1 : dsw tA_valueOf 1 [(1, 28), (2, 37)] 45 := dsw_l 44 #[(1, 27), (2, 36)] 27 (by decide +kernel) (by decide +kernel) (by decide +kernel)
theorem dA_valueOf_28 : dl tA_valueOf 28 .aload_n .aload 0 29 := qr_42 (by decide +kernel)
theorem dA_valueOf_29 : dl tA_valueOf 29 .aload_n .aload 1 30 := qr_43 (by decide +kernel)
theorem dA_valueOf_30 : dl tA_valueOf 30 .iload_n .iload 3 31 := qr_29 (by decide +kernel)
theorem dA_valueOf_31 : dl tA_valueOf 31 .iload_n .iload 4 33 := qs_21 4 (by decide +kernel)
theorem dA_valueOf_33 : dn tA_valueOf 33 (.invokevirtual 61) 3 36 := qr_182 0 61 61 (by decide +kernel)
theorem dA_valueOf_36 : dn tA_valueOf 36 (.ireturn) 1 37 := qr_172 (by decide +kernel)
theorem dA_valueOf_37 : dl tA_valueOf 37 .aload_n .aload 0 38 := qr_42 (by decide +kernel)
theorem dA_valueOf_38 : dl tA_valueOf 38 .iload_n .iload 3 39 := qr_29 (by decide +kernel)
theorem dA_valueOf_39 : dl tA_valueOf 39 .iload_n .iload 4 41 := qs_21 4 (by decide +kernel)
theorem dA_valueOf_41 : dn tA_valueOf 41 (.invokevirtual 71) 3 44 := qr_182 0 71 71 (by decide +kernel)
theorem dA_valueOf_44 : dn tA_valueOf 44 (.ireturn) 1 45 := qr_172 (by decide +kernel)
theorem dA_valueOf_45 : dl tA_valueOf 45 .aload_n .aload 0 46 := qr_42 (by decide +kernel)
theorem dA_valueOf_46 : dl tA_valueOf 46 .iload_n .iload 3 47 := qr_29 (by decide +kernel)
theorem dA_valueOf_47 : dn tA_valueOf 47 (.invokevirtual 36) 3 50 := qr_182 0 36 36 (by decide +kernel)
theorem dA_valueOf_50 : dn tA_valueOf 50 (.ireturn) 1 51 := qr_172 (by decide +kernel)
theorem dA_numberAt_0 : dn tA_numberAt 0 (.iconst 0) 1 1 := qr_3 (by decide +kernel)
theorem dA_numberAt_1 : dl tA_numberAt 1 .istore_n .istore 3 2 := qr_62 (by decide +kernel)
theorem dA_numberAt_2 : dl tA_numberAt 2 .iload_n .iload 1 3 := qr_27 (by decide +kernel)
theorem dA_numberAt_3 : dl tA_numberAt 3 .istore_n .istore 4 5 := qs_54 4 (by decide +kernel)
theorem dA_numberAt_5 : dl tA_numberAt 5 .iload_n .iload 4 7 := qs_21 4 (by decide +kernel)
theorem dA_numberAt_7 : dl tA_numberAt 7 .iload_n .iload 2 8 := qr_28 (by decide +kernel)
theorem dA_numberAt_8 : db tA_numberAt 8 (.if_icmp .ge) 32 11 := qr_162 0 24 24 (by decide +kernel) rfl
theorem dA_numberAt_11 : dn tA_numberAt 11 (.bipush 10) 2 13 := qr_16 10 10 (by decide +kernel)
theorem dA_numberAt_13 : dl tA_numberAt 13 .iload_n .iload 3 14 := qr_29 (by decide +kernel)
theorem dA_numberAt_14 : dn tA_numberAt 14 (.imul) 1 15 := qr_104 (by decide +kernel)
theorem dA_numberAt_15 : dl tA_numberAt 15 .aload_n .aload 0 16 := qr_42 (by decide +kernel)
theorem dA_numberAt_16 : dl tA_numberAt 16 .iload_n .iload 4 18 := qs_21 4 (by decide +kernel)
theorem dA_numberAt_18 : dn tA_numberAt 18 (.invokevirtual 36) 3 21 := qr_182 0 36 36 (by decide +kernel)
theorem dA_numberAt_21 : dn tA_numberAt 21 (.iadd) 1 22 := qr_96 (by decide +kernel)
theorem dA_numberAt_22 : dn tA_numberAt 22 (.bipush 48) 2 24 := qr_16 48 48 (by decide +kernel)
theorem dA_numberAt_24 : dn tA_numberAt 24 (.isub) 1 25 := qr_100 (by decide +kernel)
theorem dA_numberAt_25 : dl tA_numberAt 25 .istore_n .istore 3 26 := qr_62 (by decide +kernel)
theorem dA_numberAt_26 : dn tA_numberAt 26 (.iinc 4 1) 3 29 := qr_132 4 1 1 (by decide +kernel)
theorem dA_numberAt_29 : db tA_numberAt 29 .goto 5 32 := qr_167 255 232 (-24) (by decide +kernel) rfl
theorem dA_numberAt_32 : dl tA_numberAt 32 .iload_n .iload 3 33 := qr_29 (by decide +kernel)
theorem dA_numberAt_33 : dn tA_numberAt 33 (.ireturn) 1 34 := qr_172 (by decide +kernel)
theorem dA_wordNumber_0 : dn tA_wordNumber 0 (.iconst 0) 1 1 := qr_3 (by decide +kernel)
theorem dA_wordNumber_1 : dl tA_wordNumber 1 .istore_n .istore 4 3 := qs_54 4 (by decide +kernel)
theorem dA_wordNumber_3 : dn tA_wordNumber 3 (.iconst 0) 1 4 := qr_3 (by decide +kernel)
theorem dA_wordNumber_4 : dl tA_wordNumber 4 .istore_n .istore 5 6 := qs_54 5 (by decide +kernel)
theorem dA_wordNumber_6 : dn tA_wordNumber 6 (.iconst 0) 1 7 := qr_3 (by decide +kernel)
theorem dA_wordNumber_7 : dl tA_wordNumber 7 .istore_n .istore 6 9 := qs_54 6 (by decide +kernel)
theorem dA_wordNumber_9 : dl tA_wordNumber 9 .iload_n .iload 6 11 := qs_21 6 (by decide +kernel)
theorem dA_wordNumber_11 : dl tA_wordNumber 11 .aload_n .aload 1 12 := qr_43 (by decide +kernel)
theorem dA_wordNumber_12 : dn tA_wordNumber 12 (.invokevirtual 75) 3 15 := qr_182 0 75 75 (by decide +kernel)
theorem dA_wordNumber_15 : db tA_wordNumber 15 (.if_icmp .gt) 79 18 := qr_163 0 64 64 (by decide +kernel) rfl
theorem dA_wordNumber_18 : dl tA_wordNumber 18 .iload_n .iload 6 20 := qs_21 6 (by decide +kernel)
theorem dA_wordNumber_20 : dl tA_wordNumber 20 .aload_n .aload 1 21 := qr_43 (by decide +kernel)
theorem dA_wordNumber_21 : dn tA_wordNumber 21 (.invokevirtual 75) 3 24 := qr_182 0 75 75 (by decide +kernel)
theorem dA_wordNumber_24 : db tA_wordNumber 24 (.if_icmp .eq) 38 27 := qr_159 0 14 14 (by decide +kernel) rfl
theorem dA_wordNumber_27 : dl tA_wordNumber 27 .aload_n .aload 1 28 := qr_43 (by decide +kernel)
theorem dA_wordNumber_28 : dl tA_wordNumber 28 .iload_n .iload 6 30 := qs_21 6 (by decide +kernel)
theorem dA_wordNumber_30 : dn tA_wordNumber 30 (.invokevirtual 78) 3 33 := qr_182 0 78 78 (by decide +kernel)
theorem dA_wordNumber_33 : dn tA_wordNumber 33 (.bipush 32) 2 35 := qr_16 32 32 (by decide +kernel)
theorem dA_wordNumber_35 : db tA_wordNumber 35 (.if_icmp .ne) 73 38 := qr_160 0 38 38 (by decide +kernel) rfl
theorem dA_wordNumber_38 : dl tA_wordNumber 38 .iload_n .iload 6 40 := qs_21 6 (by decide +kernel)
theorem dA_wordNumber_40 : dl tA_wordNumber 40 .iload_n .iload 5 42 := qs_21 5 (by decide +kernel)
theorem dA_wordNumber_42 : dn tA_wordNumber 42 (.isub) 1 43 := qr_100 (by decide +kernel)
theorem dA_wordNumber_43 : dl tA_wordNumber 43 .iload_n .iload 3 44 := qr_29 (by decide +kernel)
theorem dA_wordNumber_44 : dl tA_wordNumber 44 .iload_n .iload 2 45 := qr_28 (by decide +kernel)
theorem dA_wordNumber_45 : dn tA_wordNumber 45 (.isub) 1 46 := qr_100 (by decide +kernel)
theorem dA_wordNumber_46 : db tA_wordNumber 46 (.if_icmp .ne) 64 49 := qr_160 0 18 18 (by decide +kernel) rfl
theorem dA_wordNumber_49 : dl tA_wordNumber 49 .aload_n .aload 0 50 := qr_42 (by decide +kernel)
theorem dA_wordNumber_50 : dl tA_wordNumber 50 .aload_n .aload 1 51 := qr_43 (by decide +kernel)
theorem dA_wordNumber_51 : dl tA_wordNumber 51 .iload_n .iload 5 53 := qs_21 5 (by decide +kernel)
theorem dA_wordNumber_53 : dl tA_wordNumber 53 .iload_n .iload 2 54 := qr_28 (by decide +kernel)
theorem dA_wordNumber_54 : dl tA_wordNumber 54 .iload_n .iload 3 55 := qr_29 (by decide +kernel)
theorem dA_wordNumber_55 : dn tA_wordNumber 55 (.invokevirtual 82) 3 58 := qr_182 0 82 82 (by decide +kernel)
theorem dA_wordNumber_58 : db tA_wordNumber 58 (.ifCond .eq) 64 61 := qr_153 0 6 6 (by decide +kernel) rfl
theorem dA_wordNumber_61 : dl tA_wordNumber 61 .iload_n .iload 4 63 := qs_21 4 (by decide +kernel)
theorem dA_wordNumber_63 : dn tA_wordNumber 63 (.ireturn) 1 64 := qr_172 (by decide +kernel)
theorem dA_wordNumber_64 : dn tA_wordNumber 64 (.iinc 4 1) 3 67 := qr_132 4 1 1 (by decide +kernel)
theorem dA_wordNumber_67 : dl tA_wordNumber 67 .iload_n .iload 6 69 := qs_21 6 (by decide +kernel)
theorem dA_wordNumber_69 : dn tA_wordNumber 69 (.iconst 1) 1 70 := qr_4 (by decide +kernel)
theorem dA_wordNumber_70 : dn tA_wordNumber 70 (.iadd) 1 71 := qr_96 (by decide +kernel)
theorem dA_wordNumber_71 : dl tA_wordNumber 71 .istore_n .istore 5 73 := qs_54 5 (by decide +kernel)
theorem dA_wordNumber_73 : dn tA_wordNumber 73 (.iinc 6 1) 3 76 := qr_132 6 1 1 (by decide +kernel)
theorem dA_wordNumber_76 : db tA_wordNumber 76 .goto 9 79 := qr_167 255 189 (-67) (by decide +kernel) rfl
theorem dA_wordNumber_79 : dn tA_wordNumber 79 (.iconst (-1)) 1 80 := qr_2 (by decide +kernel)
theorem dA_wordNumber_80 : dn tA_wordNumber 80 (.ireturn) 1 81 := qr_172 (by decide +kernel)
theorem dA_isSame_0 : dl tA_isSame 0 .iload_n .iload 3 1 := qr_29 (by decide +kernel)
theorem dA_isSame_1 : dl tA_isSame 1 .istore_n .istore 5 3 := qs_54 5 (by decide +kernel)
theorem dA_isSame_3 : dl tA_isSame 3 .iload_n .iload 5 5 := qs_21 5 (by decide +kernel)
theorem dA_isSame_5 : dl tA_isSame 5 .iload_n .iload 4 7 := qs_21 4 (by decide +kernel)
theorem dA_isSame_7 : db tA_isSame 7 (.if_icmp .ge) 50 10 := qr_162 0 43 43 (by decide +kernel) rfl
theorem dA_isSame_10 : dl tA_isSame 10 .iload_n .iload 2 11 := qr_28 (by decide +kernel)
theorem dA_isSame_11 : dl tA_isSame 11 .iload_n .iload 5 13 := qs_21 5 (by decide +kernel)
theorem dA_isSame_13 : dn tA_isSame 13 (.iadd) 1 14 := qr_96 (by decide +kernel)
theorem dA_isSame_14 : dl tA_isSame 14 .iload_n .iload 3 15 := qr_29 (by decide +kernel)
theorem dA_isSame_15 : dn tA_isSame 15 (.isub) 1 16 := qr_100 (by decide +kernel)
theorem dA_isSame_16 : dl tA_isSame 16 .istore_n .istore 6 18 := qs_54 6 (by decide +kernel)
theorem dA_isSame_18 : dl tA_isSame 18 .iload_n .iload 6 20 := qs_21 6 (by decide +kernel)
theorem dA_isSame_20 : dl tA_isSame 20 .aload_n .aload 1 21 := qr_43 (by decide +kernel)
theorem dA_isSame_21 : dn tA_isSame 21 (.invokevirtual 75) 3 24 := qr_182 0 75 75 (by decide +kernel)
theorem dA_isSame_24 : db tA_isSame 24 (.if_icmp .ge) 42 27 := qr_162 0 18 18 (by decide +kernel) rfl
theorem dA_isSame_27 : dl tA_isSame 27 .aload_n .aload 1 28 := qr_43 (by decide +kernel)
theorem dA_isSame_28 : dl tA_isSame 28 .iload_n .iload 6 30 := qs_21 6 (by decide +kernel)
theorem dA_isSame_30 : dn tA_isSame 30 (.invokevirtual 78) 3 33 := qr_182 0 78 78 (by decide +kernel)
theorem dA_isSame_33 : dl tA_isSame 33 .aload_n .aload 0 34 := qr_42 (by decide +kernel)
theorem dA_isSame_34 : dl tA_isSame 34 .iload_n .iload 5 36 := qs_21 5 (by decide +kernel)
theorem dA_isSame_36 : dn tA_isSame 36 (.invokevirtual 36) 3 39 := qr_182 0 36 36 (by decide +kernel)
theorem dA_isSame_39 : db tA_isSame 39 (.if_icmp .eq) 44 42 := qr_159 0 5 5 (by decide +kernel) rfl
theorem dA_isSame_42 : dn tA_isSame 42 (.iconst 0) 1 43 := qr_3 (by decide +kernel)
theorem dA_isSame_43 : dn tA_isSame 43 (.ireturn) 1 44 := qr_172 (by decide +kernel)
theorem dA_isSame_44 : dn tA_isSame 44 (.iinc 5 1) 3 47 := qr_132 5 1 1 (by decide +kernel)
theorem dA_isSame_47 : db tA_isSame 47 .goto 3 50 := qr_167 255 212 (-44) (by decide +kernel) rfl
theorem dA_isSame_50 : dn tA_isSame 50 (.iconst 1) 1 51 := qr_4 (by decide +kernel)
theorem dA_isSame_51 : dn tA_isSame 51 (.ireturn) 1 52 := qr_172 (by decide +kernel)
theorem dA_byteAt_0 : dl tA_byteAt 0 .iload_n .iload 1 1 := qr_27 (by decide +kernel)
theorem dA_byteAt_1 : db tA_byteAt 1 (.ifCond .lt) 32 4 := qr_155 0 31 31 (by decide +kernel) rfl
theorem dA_byteAt_4 : dl tA_byteAt 4 .iload_n .iload 1 5 := qr_27 (by decide +kernel)
theorem dA_byteAt_5 : dl tA_byteAt 5 .aload_n .aload 0 6 := qr_42 (by decide +kernel)
theorem dA_byteAt_6 : dn tA_byteAt 6 (.getfield 25) 3 9 := qr_180 0 25 25 (by decide +kernel)
theorem dA_byteAt_9 : db tA_byteAt 9 (.if_icmp .ge) 32 12 := qr_162 0 23 23 (by decide +kernel) rfl
theorem dA_byteAt_12 : dl tA_byteAt 12 .iload_n .iload 1 13 := qr_27 (by decide +kernel)
theorem dA_byteAt_13 : dn tA_byteAt 13 (.sipush 400) 3 16 := qr_17 1 144 400 (by decide +kernel)
theorem dA_byteAt_16 : db tA_byteAt 16 (.if_icmp .ge) 32 19 := qr_162 0 16 16 (by decide +kernel) rfl
theorem dA_byteAt_19 : dl tA_byteAt 19 .aload_n .aload 0 20 := qr_42 (by decide +kernel)
theorem dA_byteAt_20 : dn tA_byteAt 20 (.getfield 9) 3 23 := qr_180 0 9 9 (by decide +kernel)
theorem dA_byteAt_23 : dl tA_byteAt 23 .iload_n .iload 1 24 := qr_27 (by decide +kernel)
theorem dA_byteAt_24 : dn tA_byteAt 24 (.baload) 1 25 := qr_51 (by decide +kernel)
theorem dA_byteAt_25 : dn tA_byteAt 25 (.sipush 255) 3 28 := qr_17 0 255 255 (by decide +kernel)
theorem dA_byteAt_28 : dn tA_byteAt 28 (.iand) 1 29 := qr_126 (by decide +kernel)
theorem dA_byteAt_29 : db tA_byteAt 29 .goto 33 32 := qr_167 0 4 4 (by decide +kernel) rfl
theorem dA_byteAt_32 : dn tA_byteAt 32 (.iconst 0) 1 33 := qr_3 (by decide +kernel)
theorem dA_byteAt_33 : dn tA_byteAt 33 (.ireturn) 1 34 := qr_172 (by decide +kernel)
theorem dA_isBlank_0 : dl tA_isBlank 0 .iload_n .iload 0 1 := qr_26 (by decide +kernel)
theorem dA_isBlank_1 : dn tA_isBlank 1 (.bipush 32) 2 3 := qr_16 32 32 (by decide +kernel)
theorem dA_isBlank_3 : db tA_isBlank 3 (.if_icmp .eq) 12 6 := qr_159 0 9 9 (by decide +kernel) rfl
theorem dA_isBlank_6 : dl tA_isBlank 6 .iload_n .iload 0 7 := qr_26 (by decide +kernel)
theorem dA_isBlank_7 : dn tA_isBlank 7 (.bipush 10) 2 9 := qr_16 10 10 (by decide +kernel)
theorem dA_isBlank_9 : db tA_isBlank 9 (.if_icmp .ne) 16 12 := qr_160 0 7 7 (by decide +kernel) rfl
theorem dA_isBlank_12 : dn tA_isBlank 12 (.iconst 1) 1 13 := qr_4 (by decide +kernel)
theorem dA_isBlank_13 : db tA_isBlank 13 .goto 17 16 := qr_167 0 4 4 (by decide +kernel) rfl
theorem dA_isBlank_16 : dn tA_isBlank 16 (.iconst 0) 1 17 := qr_3 (by decide +kernel)
theorem dA_isBlank_17 : dn tA_isBlank 17 (.ireturn) 1 18 := qr_172 (by decide +kernel)
theorem dA_isLetter_0 : dl tA_isLetter 0 .iload_n .iload 0 1 := qr_26 (by decide +kernel)
theorem dA_isLetter_1 : dn tA_isLetter 1 (.bipush 97) 2 3 := qr_16 97 97 (by decide +kernel)
theorem dA_isLetter_3 : dn tA_isLetter 3 (.bipush 122) 2 5 := qr_16 122 122 (by decide +kernel)
theorem dA_isLetter_5 : dn tA_isLetter 5 (.invokestatic 86) 3 8 := qr_184 0 86 86 (by decide +kernel)
theorem dA_isLetter_8 : db tA_isLetter 8 (.ifCond .ne) 22 11 := qr_154 0 14 14 (by decide +kernel) rfl
theorem dA_isLetter_11 : dl tA_isLetter 11 .iload_n .iload 0 12 := qr_26 (by decide +kernel)
theorem dA_isLetter_12 : dn tA_isLetter 12 (.bipush 65) 2 14 := qr_16 65 65 (by decide +kernel)
theorem dA_isLetter_14 : dn tA_isLetter 14 (.bipush 90) 2 16 := qr_16 90 90 (by decide +kernel)
theorem dA_isLetter_16 : dn tA_isLetter 16 (.invokestatic 86) 3 19 := qr_184 0 86 86 (by decide +kernel)
theorem dA_isLetter_19 : db tA_isLetter 19 (.ifCond .eq) 26 22 := qr_153 0 7 7 (by decide +kernel) rfl
theorem dA_isLetter_22 : dn tA_isLetter 22 (.iconst 1) 1 23 := qr_4 (by decide +kernel)
theorem dA_isLetter_23 : db tA_isLetter 23 .goto 27 26 := qr_167 0 4 4 (by decide +kernel) rfl
theorem dA_isLetter_26 : dn tA_isLetter 26 (.iconst 0) 1 27 := qr_3 (by decide +kernel)
theorem dA_isLetter_27 : dn tA_isLetter 27 (.ireturn) 1 28 := qr_172 (by decide +kernel)
theorem dA_isDigit_0 : dl tA_isDigit 0 .iload_n .iload 0 1 := qr_26 (by decide +kernel)
theorem dA_isDigit_1 : dn tA_isDigit 1 (.bipush 48) 2 3 := qr_16 48 48 (by decide +kernel)
theorem dA_isDigit_3 : dn tA_isDigit 3 (.bipush 57) 2 5 := qr_16 57 57 (by decide +kernel)
theorem dA_isDigit_5 : dn tA_isDigit 5 (.invokestatic 86) 3 8 := qr_184 0 86 86 (by decide +kernel)
theorem dA_isDigit_8 : dn tA_isDigit 8 (.ireturn) 1 9 := qr_172 (by decide +kernel)
def tS_pass : MM := (⟨"GingerRents$Season", "pass", "()I"⟩, prog_8_method_2_code, 4, (some .int))
theorem okS_pass : mV tS_pass 0 := ⟨⟨tb_in (ch_3_3 _ (List.mem_of_getElem? (i := 11) rfl)) rfl, tb_in (ch_1_0 _ (List.mem_of_getElem? (i := 7) rfl)) rfl, ⟨cq_14.1, cq_14.2, by decide +kernel⟩, by decide⟩, tb_in (ch_3_3 _ (List.mem_of_getElem? (i := 9) rfl)) rfl, tb_in (ch_3_3 _ (List.mem_of_getElem? (i := 10) rfl)) rfl⟩
def tS_weather : MM := (⟨"GingerRents$Season", "weather", "()V"⟩, prog_8_method_3_code, 3, none)
theorem okS_weather : mV tS_weather 0 := ⟨⟨tb_in (ch_3_3 _ (List.mem_of_getElem? (i := 15) rfl)) rfl, tb_in (ch_1_0 _ (List.mem_of_getElem? (i := 7) rfl)) rfl, ⟨cq_14.1, cq_14.2, by decide +kernel⟩, by decide⟩, tb_in (ch_3_3 _ (List.mem_of_getElem? (i := 14) rfl)) rfl, tb_in (cs_1 _ (List.mem_of_getElem? (i := 8) (a := (⟨"GingerRents$Season", "weather", "()V"⟩, 4)) rfl)) rfl⟩
def tS_officeLine : MM := (⟨"GingerRents$Season", "officeLine", "(LGingerRents$Rows;I)V"⟩, prog_8_method_4_code, 5, none)
theorem okS_officeLine : mV tS_officeLine 2 := ⟨⟨tb_in (ch_3_4 _ (List.mem_of_getElem? (i := 4) rfl)) rfl, tb_in (ch_1_0 _ (List.mem_of_getElem? (i := 7) rfl)) rfl, ⟨cq_14.1, cq_14.2, by decide +kernel⟩, by decide⟩, tb_in (ch_3_4 _ (List.mem_of_getElem? (i := 3) rfl)) rfl, tb_in (cs_1 _ (List.mem_of_getElem? (i := 9) (a := (⟨"GingerRents$Season", "officeLine", "(LGingerRents$Rows;I)V"⟩, 4)) rfl)) rfl⟩
def tS_payRent : MM := (⟨"GingerRents$Season", "payRent", "(I)V"⟩, prog_8_method_5_code, 5, none)
theorem okS_payRent : mV tS_payRent 1 := ⟨⟨tb_in (ch_3_5 _ (List.mem_of_getElem? (i := 8) rfl)) rfl, tb_in (ch_1_0 _ (List.mem_of_getElem? (i := 7) rfl)) rfl, ⟨cq_14.1, cq_14.2, by decide +kernel⟩, by decide⟩, tb_in (ch_3_5 _ (List.mem_of_getElem? (i := 7) rfl)) rfl, tb_in (cs_1 _ (List.mem_of_getElem? (i := 10) (a := (⟨"GingerRents$Season", "payRent", "(I)V"⟩, 4)) rfl)) rfl⟩
def tS_gnaw : MM := (⟨"GingerRents$Season", "gnaw", "(I)V"⟩, prog_8_method_6_code, 4, none)
theorem okS_gnaw : mV tS_gnaw 1 := ⟨⟨tb_in (ch_3_8 _ (List.mem_of_getElem? (i := 2) rfl)) rfl, tb_in (ch_1_0 _ (List.mem_of_getElem? (i := 7) rfl)) rfl, ⟨cq_14.1, cq_14.2, by decide +kernel⟩, by decide⟩, tb_in (ch_3_8 _ (List.mem_of_getElem? (i := 1) rfl)) rfl, tb_in (cs_2 _ (List.mem_of_getElem? (i := 0) (a := (⟨"GingerRents$Season", "gnaw", "(I)V"⟩, 4)) rfl)) rfl⟩
def tS_ratsGnaw : MM := (⟨"GingerRents$Season", "ratsGnaw", "(I)Z"⟩, prog_8_method_7_code, 2, (some .boolean))
theorem okS_ratsGnaw : mV tS_ratsGnaw 1 := ⟨⟨tb_in (ch_3_8 _ (List.mem_of_getElem? (i := 6) rfl)) rfl, tb_in (ch_1_0 _ (List.mem_of_getElem? (i := 7) rfl)) rfl, ⟨cq_14.1, cq_14.2, by decide +kernel⟩, by decide⟩, tb_in (ch_3_8 _ (List.mem_of_getElem? (i := 5) rfl)) rfl, tb_in (cs_2 _ (List.mem_of_getElem? (i := 1) (a := (⟨"GingerRents$Season", "ratsGnaw", "(I)Z"⟩, 4)) rfl)) rfl⟩
def tS_melt : MM := (⟨"GingerRents$Season", "melt", "(I)V"⟩, prog_8_method_8_code, 4, none)
theorem okS_melt : mV tS_melt 1 := ⟨⟨tb_in (ch_3_9 _ (List.mem_of_getElem? (i := 0) rfl)) rfl, tb_in (ch_1_0 _ (List.mem_of_getElem? (i := 7) rfl)) rfl, ⟨cq_14.1, cq_14.2, by decide +kernel⟩, by decide⟩, tb_in (ch_3_8 _ (List.mem_of_getElem? (i := 15) rfl)) rfl, tb_in (cs_2 _ (List.mem_of_getElem? (i := 2) (a := (⟨"GingerRents$Season", "melt", "(I)V"⟩, 4)) rfl)) rfl⟩
def tS_harden : MM := (⟨"GingerRents$Season", "harden", "()V"⟩, prog_8_method_9_code, 2, none)
theorem okS_harden : mV tS_harden 0 := ⟨⟨tb_in (ch_3_9 _ (List.mem_of_getElem? (i := 4) rfl)) rfl, tb_in (ch_1_0 _ (List.mem_of_getElem? (i := 7) rfl)) rfl, ⟨cq_14.1, cq_14.2, by decide +kernel⟩, by decide⟩, tb_in (ch_3_9 _ (List.mem_of_getElem? (i := 3) rfl)) rfl, tb_in (cs_2 _ (List.mem_of_getElem? (i := 3) (a := (⟨"GingerRents$Season", "harden", "()V"⟩, 4)) rfl)) rfl⟩
def tS_grow : MM := (⟨"GingerRents$Season", "grow", "()V"⟩, prog_8_method_10_code, 2, none)
theorem okS_grow : mV tS_grow 0 := ⟨⟨tb_in (ch_3_9 _ (List.mem_of_getElem? (i := 9) rfl)) rfl, tb_in (ch_1_0 _ (List.mem_of_getElem? (i := 7) rfl)) rfl, ⟨cq_14.1, cq_14.2, by decide +kernel⟩, by decide⟩, tb_in (ch_3_9 _ (List.mem_of_getElem? (i := 8) rfl)) rfl, tb_in (cs_2 _ (List.mem_of_getElem? (i := 4) (a := (⟨"GingerRents$Season", "grow", "()V"⟩, 4)) rfl)) rfl⟩
def tS_leaveIfFallen : MM := (⟨"GingerRents$Season", "leaveIfFallen", "(I)V"⟩, prog_8_method_11_code, 2, none)
theorem okS_leaveIfFallen : mV tS_leaveIfFallen 1 := ⟨⟨tb_in (ch_3_1 _ (List.mem_of_getElem? (i := 2) rfl)) rfl, tb_in (ch_1_0 _ (List.mem_of_getElem? (i := 7) rfl)) rfl, ⟨cq_14.1, cq_14.2, by decide +kernel⟩, by decide⟩, tb_in (ch_3_1 _ (List.mem_of_getElem? (i := 1) rfl)) rfl, tb_in (cs_1 _ (List.mem_of_getElem? (i := 3) (a := (⟨"GingerRents$Season", "leaveIfFallen", "(I)V"⟩, 4)) rfl)) rfl⟩
def tS_refuge : MM := (⟨"GingerRents$Season", "refuge", "(I)I"⟩, prog_8_method_12_code, 4, (some .int))
theorem okS_refuge : mV tS_refuge 1 := ⟨⟨tb_in (ch_3_1 _ (List.mem_of_getElem? (i := 6) rfl)) rfl, tb_in (ch_1_0 _ (List.mem_of_getElem? (i := 7) rfl)) rfl, ⟨cq_14.1, cq_14.2, by decide +kernel⟩, by decide⟩, tb_in (ch_3_1 _ (List.mem_of_getElem? (i := 5) rfl)) rfl, tb_in (cs_1 _ (List.mem_of_getElem? (i := 4) (a := (⟨"GingerRents$Season", "refuge", "(I)I"⟩, 4)) rfl)) rfl⟩
def tS_moveLodgers : MM := (⟨"GingerRents$Season", "moveLodgers", "(II)V"⟩, prog_8_method_13_code, 4, none)
theorem okS_moveLodgers : mV tS_moveLodgers 2 := ⟨⟨tb_in (ch_3_2 _ (List.mem_of_getElem? (i := 2) rfl)) rfl, tb_in (ch_1_0 _ (List.mem_of_getElem? (i := 7) rfl)) rfl, ⟨cq_14.1, cq_14.2, by decide +kernel⟩, by decide⟩, tb_in (ch_3_2 _ (List.mem_of_getElem? (i := 1) rfl)) rfl, tb_in (cs_1 _ (List.mem_of_getElem? (i := 5) (a := (⟨"GingerRents$Season", "moveLodgers", "(II)V"⟩, 4)) rfl)) rfl⟩
def tS_note : MM := (⟨"GingerRents$Season", "note", "(III)V"⟩, prog_8_method_14_code, 4, none)
theorem okS_note : mV tS_note 3 := ⟨⟨tb_in (ch_3_0 _ (List.mem_of_getElem? (i := 10) rfl)) rfl, tb_in (ch_1_0 _ (List.mem_of_getElem? (i := 7) rfl)) rfl, ⟨cq_14.1, cq_14.2, by decide +kernel⟩, by decide⟩, tb_in (ch_3_0 _ (List.mem_of_getElem? (i := 9) rfl)) rfl, tb_in (cs_1 _ (List.mem_of_getElem? (i := 2) (a := (⟨"GingerRents$Season", "note", "(III)V"⟩, 4)) rfl)) rfl⟩
def tS_noteIfAny : MM := (⟨"GingerRents$Season", "noteIfAny", "(III)V"⟩, prog_8_method_15_code, 4, none)
theorem okS_noteIfAny : mV tS_noteIfAny 3 := ⟨⟨tb_in (ch_3_7 _ (List.mem_of_getElem? (i := 14) rfl)) rfl, tb_in (ch_1_0 _ (List.mem_of_getElem? (i := 7) rfl)) rfl, ⟨cq_14.1, cq_14.2, by decide +kernel⟩, by decide⟩, tb_in (ch_3_7 _ (List.mem_of_getElem? (i := 13) rfl)) rfl, tb_in (cs_1 _ (List.mem_of_getElem? (i := 15) (a := (⟨"GingerRents$Season", "noteIfAny", "(III)V"⟩, 4)) rfl)) rfl⟩
def tS_mayAct : MM := (⟨"GingerRents$Season", "mayAct", "(III)Z"⟩, prog_8_method_16_code, 4, (some .boolean))
theorem okS_mayAct : mV tS_mayAct 3 := ⟨⟨tb_in (ch_2_12 _ (List.mem_of_getElem? (i := 9) rfl)) rfl, tb_in (ch_1_0 _ (List.mem_of_getElem? (i := 7) rfl)) rfl, ⟨cq_14.1, cq_14.2, by decide +kernel⟩, by decide⟩, tb_in (ch_2_12 _ (List.mem_of_getElem? (i := 7) rfl)) rfl, tb_in (ch_2_12 _ (List.mem_of_getElem? (i := 8) rfl)) rfl⟩
def tS_actByHand : MM := (⟨"GingerRents$Season", "actByHand", "(III)V"⟩, prog_8_method_17_code, 4, none)
theorem okS_actByHand : mV tS_actByHand 3 := ⟨⟨tb_in (ch_2_14 _ (List.mem_of_getElem? (i := 10) rfl)) rfl, tb_in (ch_1_0 _ (List.mem_of_getElem? (i := 7) rfl)) rfl, ⟨cq_14.1, cq_14.2, by decide +kernel⟩, by decide⟩, tb_in (ch_2_14 _ (List.mem_of_getElem? (i := 8) rfl)) rfl, tb_in (ch_2_14 _ (List.mem_of_getElem? (i := 9) rfl)) rfl⟩
def tS_nibble : MM := (⟨"GingerRents$Season", "nibble", "(III)V"⟩, prog_8_method_18_code, 4, none)
theorem okS_nibble : mV tS_nibble 3 := ⟨⟨tb_in (ch_2_14 _ (List.mem_of_getElem? (i := 14) rfl)) rfl, tb_in (ch_1_0 _ (List.mem_of_getElem? (i := 7) rfl)) rfl, ⟨cq_14.1, cq_14.2, by decide +kernel⟩, by decide⟩, tb_in (ch_2_14 _ (List.mem_of_getElem? (i := 13) rfl)) rfl, tb_in (cs_1 _ (List.mem_of_getElem? (i := 1) (a := (⟨"GingerRents$Season", "nibble", "(III)V"⟩, 4)) rfl)) rfl⟩
def tS_mayWed : MM := (⟨"GingerRents$Season", "mayWed", "(I)Z"⟩, prog_8_method_19_code, 2, (some .boolean))
theorem okS_mayWed : mV tS_mayWed 1 := ⟨⟨tb_in (ch_2_13 _ (List.mem_of_getElem? (i := 3) rfl)) rfl, tb_in (ch_1_0 _ (List.mem_of_getElem? (i := 7) rfl)) rfl, ⟨cq_14.1, cq_14.2, by decide +kernel⟩, by decide⟩, tb_in (ch_2_13 _ (List.mem_of_getElem? (i := 2) rfl)) rfl, tb_in (cs_1 _ (List.mem_of_getElem? (i := 0) (a := (⟨"GingerRents$Season", "mayWed", "(I)Z"⟩, 4)) rfl)) rfl⟩
def tS_wed : MM := (⟨"GingerRents$Season", "wed", "(I)V"⟩, prog_8_method_20_code, 3, none)
theorem okS_wed : mV tS_wed 1 := ⟨⟨tb_in (ch_3_2 _ (List.mem_of_getElem? (i := 11) rfl)) rfl, tb_in (ch_1_0 _ (List.mem_of_getElem? (i := 7) rfl)) rfl, ⟨cq_14.1, cq_14.2, by decide +kernel⟩, by decide⟩, tb_in (ch_3_2 _ (List.mem_of_getElem? (i := 10) rfl)) rfl, tb_in (cs_1 _ (List.mem_of_getElem? (i := 6) (a := (⟨"GingerRents$Season", "wed", "(I)V"⟩, 4)) rfl)) rfl⟩
def tS_raze : MM := (⟨"GingerRents$Season", "raze", "(I)V"⟩, prog_8_method_21_code, 3, none)
theorem okS_raze : mV tS_raze 1 := ⟨⟨tb_in (ch_3_3 _ (List.mem_of_getElem? (i := 3) rfl)) rfl, tb_in (ch_1_0 _ (List.mem_of_getElem? (i := 7) rfl)) rfl, ⟨cq_14.1, cq_14.2, by decide +kernel⟩, by decide⟩, tb_in (ch_3_3 _ (List.mem_of_getElem? (i := 2) rfl)) rfl, tb_in (cs_1 _ (List.mem_of_getElem? (i := 7) (a := (⟨"GingerRents$Season", "raze", "(I)V"⟩, 4)) rfl)) rfl⟩
theorem mlS_27 : Cond.methodLink "GingerRents$Season" 27 ⟨"GingerRents$Season", "weather", "()V"⟩ ∈ tb := tb_in (ch_3_3 _ (List.mem_of_getElem? (i := 12) rfl)) rfl
theorem fuS_15 : fu "GingerRents$Season" 15 7 1 := ⟨_, _, _, rfl, by decide, rfl, tb_in (ch_1_12 _ (List.mem_of_getElem? (i := 11) rfl)) rfl⟩
theorem fuS_30 : fu "GingerRents$Season" 30 11 3 := ⟨_, _, _, rfl, by decide, rfl, tb_in (ch_1_7 _ (List.mem_of_getElem? (i := 10) rfl)) rfl⟩
theorem fuS_36 : fu "GingerRents$Season" 36 6 3 := ⟨_, _, _, rfl, by decide, rfl, tb_in (ch_1_6 _ (List.mem_of_getElem? (i := 4) rfl)) rfl⟩
theorem mlS_42 : Cond.methodLink "GingerRents$Season" 42 ⟨"GingerRents$Rows", "at", "(II)I"⟩ ∈ tb := tb_in (ch_3_4 _ (List.mem_of_getElem? (i := 0) rfl)) rfl
theorem fuS_9 : fu "GingerRents$Season" 9 7 0 := ⟨_, _, _, rfl, by decide, rfl, tb_in (ch_1_12 _ (List.mem_of_getElem? (i := 10) rfl)) rfl⟩
theorem fuS_46 : fu "GingerRents$Season" 46 1 6 := ⟨_, _, _, rfl, by decide, rfl, tb_in (ch_1_3 _ (List.mem_of_getElem? (i := 7) rfl)) rfl⟩
theorem mlS_51 : Cond.methodLink "GingerRents$Season" 51 ⟨"GingerRents$Season", "officeLine", "(LGingerRents$Rows;I)V"⟩ ∈ tb := tb_in (ch_3_4 _ (List.mem_of_getElem? (i := 1) rfl)) rfl
theorem mlS_55 : Cond.methodLink "GingerRents$Season" 55 ⟨"GingerRents$Borough", "countUp", "()I"⟩ ∈ tb := tb_in (ch_3_4 _ (List.mem_of_getElem? (i := 6) rfl)) rfl
theorem fuS_59 : fu "GingerRents$Season" 59 1 1 := ⟨_, _, _, rfl, by decide, rfl, tb_in (ch_1_2 _ (List.mem_of_getElem? (i := 7) rfl)) rfl⟩
theorem mlS_62 : Cond.methodLink "GingerRents$Season" 62 ⟨"GingerRents$Borough", "isUp", "(I)Z"⟩ ∈ tb := tb_in (ch_2_13 _ (List.mem_of_getElem? (i := 4) rfl)) rfl
theorem mlS_66 : Cond.methodLink "GingerRents$Season" 66 ⟨"GingerRents$Borough", "read", "(II)I"⟩ ∈ tb := tb_in (ch_2_12 _ (List.mem_of_getElem? (i := 12) rfl)) rfl
theorem mlS_69 : Cond.methodLink "GingerRents$Season" 69 ⟨"GingerRents$Season", "payRent", "(I)V"⟩ ∈ tb := tb_in (ch_3_5 _ (List.mem_of_getElem? (i := 5) rfl)) rfl
theorem mlS_73 : Cond.methodLink "GingerRents$Season" 73 ⟨"GingerRents$Season", "gnaw", "(I)V"⟩ ∈ tb := tb_in (ch_3_7 _ (List.mem_of_getElem? (i := 15) rfl)) rfl
theorem mlS_76 : Cond.methodLink "GingerRents$Season" 76 ⟨"GingerRents$Season", "melt", "(I)V"⟩ ∈ tb := tb_in (ch_3_8 _ (List.mem_of_getElem? (i := 13) rfl)) rfl
theorem mlS_79 : Cond.methodLink "GingerRents$Season" 79 ⟨"GingerRents$Season", "harden", "()V"⟩ ∈ tb := tb_in (ch_3_9 _ (List.mem_of_getElem? (i := 1) rfl)) rfl
theorem mlS_82 : Cond.methodLink "GingerRents$Season" 82 ⟨"GingerRents$Season", "leaveIfFallen", "(I)V"⟩ ∈ tb := tb_in (ch_3_0 _ (List.mem_of_getElem? (i := 15) rfl)) rfl
theorem mlS_85 : Cond.methodLink "GingerRents$Season" 85 ⟨"GingerRents$Season", "grow", "()V"⟩ ∈ tb := tb_in (ch_3_9 _ (List.mem_of_getElem? (i := 6) rfl)) rfl
theorem fuS_88 : fu "GingerRents$Season" 88 11 2 := ⟨_, _, _, rfl, by decide, rfl, tb_in (ch_1_7 _ (List.mem_of_getElem? (i := 7) rfl)) rfl⟩
theorem fuS_91 : fu "GingerRents$Season" 91 1 2 := ⟨_, _, _, rfl, by decide, rfl, tb_in (ch_1_2 _ (List.mem_of_getElem? (i := 9) rfl)) rfl⟩
theorem fuS_94 : fu "GingerRents$Season" 94 1 3 := ⟨_, _, _, rfl, by decide, rfl, tb_in (ch_1_2 _ (List.mem_of_getElem? (i := 13) rfl)) rfl⟩
theorem mlS_97 : Cond.methodLink "GingerRents$Season" 97 ⟨"java/lang/Math", "max", "(II)I"⟩ ∈ tb := tb_in (ch_3_4 _ (List.mem_of_getElem? (i := 5) rfl)) rfl
theorem mlS_102 : Cond.methodLink "GingerRents$Season" 102 ⟨"GingerRents$Borough", "write", "(III)V"⟩ ∈ tb := tb_in (ch_3_2 _ (List.mem_of_getElem? (i := 3) rfl)) rfl
theorem mlS_106 : Cond.methodLink "GingerRents$Season" 106 ⟨"GingerRents$Borough", "thicken", "(III)V"⟩ ∈ tb := tb_in (ch_3_2 _ (List.mem_of_getElem? (i := 4) rfl)) rfl
theorem mlS_109 : Cond.methodLink "GingerRents$Season" 109 ⟨"GingerRents$Season", "mayWed", "(I)Z"⟩ ∈ tb := tb_in (ch_2_13 _ (List.mem_of_getElem? (i := 0) rfl)) rfl
theorem mlS_112 : Cond.methodLink "GingerRents$Season" 112 ⟨"GingerRents$Season", "wed", "(I)V"⟩ ∈ tb := tb_in (ch_3_2 _ (List.mem_of_getElem? (i := 8) rfl)) rfl
theorem mlS_115 : Cond.methodLink "GingerRents$Season" 115 ⟨"GingerRents$Season", "raze", "(I)V"⟩ ∈ tb := tb_in (ch_3_3 _ (List.mem_of_getElem? (i := 0) rfl)) rfl
theorem fuS_19 : fu "GingerRents$Season" 19 7 2 := ⟨_, _, _, rfl, by decide, rfl, tb_in (ch_1_12 _ (List.mem_of_getElem? (i := 12) rfl)) rfl⟩
theorem mlS_118 : Cond.methodLink "GingerRents$Season" 118 ⟨"GingerRents$Borough", "thickest", "(I)I"⟩ ∈ tb := tb_in (ch_3_2 _ (List.mem_of_getElem? (i := 12) rfl)) rfl
theorem mlS_122 : Cond.methodLink "GingerRents$Season" 122 ⟨"GingerRents$Law", "tells", "(LGingerRents$Borough;III)I"⟩ ∈ tb := tb_in (ch_3_5 _ (List.mem_of_getElem? (i := 9) rfl)) rfl
theorem mlS_128 : Cond.methodLink "GingerRents$Season" 128 ⟨"GingerRents$Borough", "thin", "(III)I"⟩ ∈ tb := tb_in (ch_2_14 _ (List.mem_of_getElem? (i := 15) rfl)) rfl
theorem fuS_132 : fu "GingerRents$Season" 132 1 4 := ⟨_, _, _, rfl, by decide, rfl, tb_in (ch_1_3 _ (List.mem_of_getElem? (i := 1) rfl)) rfl⟩
theorem mlS_135 : Cond.methodLink "GingerRents$Season" 135 ⟨"GingerRents$Season", "noteIfAny", "(III)V"⟩ ∈ tb := tb_in (ch_3_7 _ (List.mem_of_getElem? (i := 11) rfl)) rfl
theorem mlS_138 : Cond.methodLink "GingerRents$Season" 138 ⟨"GingerRents$Season", "ratsGnaw", "(I)Z"⟩ ∈ tb := tb_in (ch_3_8 _ (List.mem_of_getElem? (i := 3) rfl)) rfl
theorem fuS_141 : fu "GingerRents$Season" 141 1 5 := ⟨_, _, _, rfl, by decide, rfl, tb_in (ch_1_3 _ (List.mem_of_getElem? (i := 4) rfl)) rfl⟩
theorem fuS_23 : fu "GingerRents$Season" 23 7 3 := ⟨_, _, _, rfl, by decide, rfl, tb_in (ch_1_12 _ (List.mem_of_getElem? (i := 14) rfl)) rfl⟩
theorem mlS_144 : Cond.methodLink "GingerRents$Season" 144 ⟨"GingerRents$Borough", "draw", "(I)I"⟩ ∈ tb := tb_in (ch_3_8 _ (List.mem_of_getElem? (i := 7) rfl)) rfl
theorem mlS_147 : Cond.methodLink "GingerRents$Season" 147 ⟨"java/lang/Math", "min", "(II)I"⟩ ∈ tb := tb_in (ch_3_9 _ (List.mem_of_getElem? (i := 5) rfl)) rfl
theorem mlS_150 : Cond.methodLink "GingerRents$Season" 150 ⟨"GingerRents$Season", "refuge", "(I)I"⟩ ∈ tb := tb_in (ch_3_1 _ (List.mem_of_getElem? (i := 3) rfl)) rfl
theorem mlS_153 : Cond.methodLink "GingerRents$Season" 153 ⟨"GingerRents$Season", "moveLodgers", "(II)V"⟩ ∈ tb := tb_in (ch_3_1 _ (List.mem_of_getElem? (i := 15) rfl)) rfl
theorem mlS_157 : Cond.methodLink "GingerRents$Season" 157 ⟨"GingerRents$Told", "nextTo", "(I)I"⟩ ∈ tb := tb_in (ch_3_1 _ (List.mem_of_getElem? (i := 7) rfl)) rfl
theorem mlS_160 : Cond.methodLink "GingerRents$Season" 160 ⟨"GingerRents$Season", "note", "(III)V"⟩ ∈ tb := tb_in (ch_3_0 _ (List.mem_of_getElem? (i := 7) rfl)) rfl
theorem fuS_163 : fu "GingerRents$Season" 163 11 5 := ⟨_, _, _, rfl, by decide, rfl, tb_in (ch_1_8 _ (List.mem_of_getElem? (i := 0) rfl)) rfl⟩
theorem mlS_166 : Cond.methodLink "GingerRents$Season" 166 ⟨"GingerRents$Rows", "add", "(IIIII)Z"⟩ ∈ tb := tb_in (ch_3_0 _ (List.mem_of_getElem? (i := 11) rfl)) rfl
theorem mlS_170 : Cond.methodLink "GingerRents$Season" 170 ⟨"GingerRents$Borough", "has", "(I)Z"⟩ ∈ tb := tb_in (ch_2_12 _ (List.mem_of_getElem? (i := 10) rfl)) rfl
theorem mlS_173 : ("GingerRents$Season", 173, (⟨"GingerRents", "within", "(III)Z"⟩ : MethodName)) ∈ nsL := by decide
theorem mlS_177 : Cond.methodLink "GingerRents$Season" 177 ⟨"GingerRents$Season", "nibble", "(III)V"⟩ ∈ tb := tb_in (ch_2_14 _ (List.mem_of_getElem? (i := 11) rfl)) rfl
theorem dS_pass_0 : dl tS_pass 0 .aload_n .aload 0 1 := qr_42 (by decide +kernel)
theorem dS_pass_1 : dn tS_pass 1 (.invokevirtual 27) 3 4 := qr_182 0 27 27 (by decide +kernel)
theorem dS_pass_4 : dn tS_pass 4 (.iconst 0) 1 5 := qr_3 (by decide +kernel)
theorem dS_pass_5 : dl tS_pass 5 .istore_n .istore 1 6 := qr_60 (by decide +kernel)
theorem dS_pass_6 : dl tS_pass 6 .iload_n .iload 1 7 := qr_27 (by decide +kernel)
theorem dS_pass_7 : dl tS_pass 7 .aload_n .aload 0 8 := qr_42 (by decide +kernel)
theorem dS_pass_8 : dn tS_pass 8 (.getfield 15) 3 11 := qr_180 0 15 15 (by decide +kernel)
theorem dS_pass_11 : dn tS_pass 11 (.getfield 30) 3 14 := qr_180 0 30 30 (by decide +kernel)
theorem dS_pass_14 : dn tS_pass 14 (.getfield 36) 3 17 := qr_180 0 36 36 (by decide +kernel)
theorem dS_pass_17 : db tS_pass 17 (.if_icmp .ge) 60 20 := qr_162 0 43 43 (by decide +kernel) rfl
theorem dS_pass_20 : dl tS_pass 20 .aload_n .aload 0 21 := qr_42 (by decide +kernel)
theorem dS_pass_21 : dn tS_pass 21 (.getfield 15) 3 24 := qr_180 0 15 15 (by decide +kernel)
theorem dS_pass_24 : dn tS_pass 24 (.getfield 30) 3 27 := qr_180 0 30 30 (by decide +kernel)
theorem dS_pass_27 : dl tS_pass 27 .iload_n .iload 1 28 := qr_27 (by decide +kernel)
theorem dS_pass_28 : dn tS_pass 28 (.iconst 0) 1 29 := qr_3 (by decide +kernel)
theorem dS_pass_29 : dn tS_pass 29 (.invokevirtual 42) 3 32 := qr_182 0 42 42 (by decide +kernel)
theorem dS_pass_32 : dl tS_pass 32 .aload_n .aload 0 33 := qr_42 (by decide +kernel)
theorem dS_pass_33 : dn tS_pass 33 (.getfield 9) 3 36 := qr_180 0 9 9 (by decide +kernel)
theorem dS_pass_36 : dn tS_pass 36 (.getfield 46) 3 39 := qr_180 0 46 46 (by decide +kernel)
theorem dS_pass_39 : db tS_pass 39 (.if_icmp .ne) 54 42 := qr_160 0 15 15 (by decide +kernel) rfl
theorem dS_pass_42 : dl tS_pass 42 .aload_n .aload 0 43 := qr_42 (by decide +kernel)
theorem dS_pass_43 : dl tS_pass 43 .aload_n .aload 0 44 := qr_42 (by decide +kernel)
theorem dS_pass_44 : dn tS_pass 44 (.getfield 15) 3 47 := qr_180 0 15 15 (by decide +kernel)
theorem dS_pass_47 : dn tS_pass 47 (.getfield 30) 3 50 := qr_180 0 30 30 (by decide +kernel)
theorem dS_pass_50 : dl tS_pass 50 .iload_n .iload 1 51 := qr_27 (by decide +kernel)
theorem dS_pass_51 : dn tS_pass 51 (.invokevirtual 51) 3 54 := qr_182 0 51 51 (by decide +kernel)
theorem dS_pass_54 : dn tS_pass 54 (.iinc 1 1) 3 57 := qr_132 1 1 1 (by decide +kernel)
theorem dS_pass_57 : db tS_pass 57 .goto 6 60 := qr_167 255 205 (-51) (by decide +kernel) rfl
theorem dS_pass_60 : dl tS_pass 60 .aload_n .aload 0 61 := qr_42 (by decide +kernel)
theorem dS_pass_61 : dn tS_pass 61 (.getfield 9) 3 64 := qr_180 0 9 9 (by decide +kernel)
theorem dS_pass_64 : dn tS_pass 64 (.invokevirtual 55) 3 67 := qr_182 0 55 55 (by decide +kernel)
theorem dS_pass_67 : dl tS_pass 67 .istore_n .istore 1 68 := qr_60 (by decide +kernel)
theorem dS_pass_68 : dn tS_pass 68 (.iconst 0) 1 69 := qr_3 (by decide +kernel)
theorem dS_pass_69 : dl tS_pass 69 .istore_n .istore 2 70 := qr_61 (by decide +kernel)
theorem dS_pass_70 : dl tS_pass 70 .iload_n .iload 2 71 := qr_28 (by decide +kernel)
theorem dS_pass_71 : dl tS_pass 71 .aload_n .aload 0 72 := qr_42 (by decide +kernel)
theorem dS_pass_72 : dn tS_pass 72 (.getfield 9) 3 75 := qr_180 0 9 9 (by decide +kernel)
theorem dS_pass_75 : dn tS_pass 75 (.getfield 59) 3 78 := qr_180 0 59 59 (by decide +kernel)
theorem dS_pass_78 : db tS_pass 78 (.if_icmp .ge) 116 81 := qr_162 0 38 38 (by decide +kernel) rfl
theorem dS_pass_81 : dl tS_pass 81 .aload_n .aload 0 82 := qr_42 (by decide +kernel)
theorem dS_pass_82 : dn tS_pass 82 (.getfield 9) 3 85 := qr_180 0 9 9 (by decide +kernel)
theorem dS_pass_85 : dl tS_pass 85 .iload_n .iload 2 86 := qr_28 (by decide +kernel)
theorem dS_pass_86 : dn tS_pass 86 (.invokevirtual 62) 3 89 := qr_182 0 62 62 (by decide +kernel)
theorem dS_pass_89 : db tS_pass 89 (.ifCond .eq) 110 92 := qr_153 0 21 21 (by decide +kernel) rfl
theorem dS_pass_92 : dl tS_pass 92 .aload_n .aload 0 93 := qr_42 (by decide +kernel)
theorem dS_pass_93 : dn tS_pass 93 (.getfield 9) 3 96 := qr_180 0 9 9 (by decide +kernel)
theorem dS_pass_96 : dl tS_pass 96 .iload_n .iload 2 97 := qr_28 (by decide +kernel)
theorem dS_pass_97 : dn tS_pass 97 (.bipush 7) 2 99 := qr_16 7 7 (by decide +kernel)
theorem dS_pass_99 : dn tS_pass 99 (.invokevirtual 66) 3 102 := qr_182 0 66 66 (by decide +kernel)
theorem dS_pass_102 : db tS_pass 102 (.ifCond .le) 110 105 := qr_158 0 8 8 (by decide +kernel) rfl
theorem dS_pass_105 : dl tS_pass 105 .aload_n .aload 0 106 := qr_42 (by decide +kernel)
theorem dS_pass_106 : dl tS_pass 106 .iload_n .iload 2 107 := qr_28 (by decide +kernel)
theorem dS_pass_107 : dn tS_pass 107 (.invokevirtual 69) 3 110 := qr_182 0 69 69 (by decide +kernel)
theorem dS_pass_110 : dn tS_pass 110 (.iinc 2 1) 3 113 := qr_132 2 1 1 (by decide +kernel)
theorem dS_pass_113 : db tS_pass 113 .goto 70 116 := qr_167 255 213 (-43) (by decide +kernel) rfl
theorem dS_pass_116 : dn tS_pass 116 (.iconst 0) 1 117 := qr_3 (by decide +kernel)
theorem dS_pass_117 : dl tS_pass 117 .istore_n .istore 2 118 := qr_61 (by decide +kernel)
theorem dS_pass_118 : dl tS_pass 118 .iload_n .iload 2 119 := qr_28 (by decide +kernel)
theorem dS_pass_119 : dl tS_pass 119 .aload_n .aload 0 120 := qr_42 (by decide +kernel)
theorem dS_pass_120 : dn tS_pass 120 (.getfield 9) 3 123 := qr_180 0 9 9 (by decide +kernel)
theorem dS_pass_123 : dn tS_pass 123 (.getfield 59) 3 126 := qr_180 0 59 59 (by decide +kernel)
theorem dS_pass_126 : db tS_pass 126 (.if_icmp .ge) 140 129 := qr_162 0 14 14 (by decide +kernel) rfl
theorem dS_pass_129 : dl tS_pass 129 .aload_n .aload 0 130 := qr_42 (by decide +kernel)
theorem dS_pass_130 : dl tS_pass 130 .iload_n .iload 2 131 := qr_28 (by decide +kernel)
theorem dS_pass_131 : dn tS_pass 131 (.invokevirtual 73) 3 134 := qr_182 0 73 73 (by decide +kernel)
theorem dS_pass_134 : dn tS_pass 134 (.iinc 2 1) 3 137 := qr_132 2 1 1 (by decide +kernel)
theorem dS_pass_137 : db tS_pass 137 .goto 118 140 := qr_167 255 237 (-19) (by decide +kernel) rfl
theorem dS_pass_140 : dn tS_pass 140 (.iconst 0) 1 141 := qr_3 (by decide +kernel)
theorem dS_pass_141 : dl tS_pass 141 .istore_n .istore 2 142 := qr_61 (by decide +kernel)
theorem dS_pass_142 : dl tS_pass 142 .iload_n .iload 2 143 := qr_28 (by decide +kernel)
theorem dS_pass_143 : dl tS_pass 143 .aload_n .aload 0 144 := qr_42 (by decide +kernel)
theorem dS_pass_144 : dn tS_pass 144 (.getfield 9) 3 147 := qr_180 0 9 9 (by decide +kernel)
theorem dS_pass_147 : dn tS_pass 147 (.getfield 59) 3 150 := qr_180 0 59 59 (by decide +kernel)
theorem dS_pass_150 : db tS_pass 150 (.if_icmp .ge) 164 153 := qr_162 0 14 14 (by decide +kernel) rfl
theorem dS_pass_153 : dl tS_pass 153 .aload_n .aload 0 154 := qr_42 (by decide +kernel)
theorem dS_pass_154 : dl tS_pass 154 .iload_n .iload 2 155 := qr_28 (by decide +kernel)
theorem dS_pass_155 : dn tS_pass 155 (.invokevirtual 76) 3 158 := qr_182 0 76 76 (by decide +kernel)
theorem dS_pass_158 : dn tS_pass 158 (.iinc 2 1) 3 161 := qr_132 2 1 1 (by decide +kernel)
theorem dS_pass_161 : db tS_pass 161 .goto 142 164 := qr_167 255 237 (-19) (by decide +kernel) rfl
theorem dS_pass_164 : dl tS_pass 164 .iload_n .iload 1 165 := qr_27 (by decide +kernel)
theorem dS_pass_165 : dl tS_pass 165 .aload_n .aload 0 166 := qr_42 (by decide +kernel)
theorem dS_pass_166 : dn tS_pass 166 (.getfield 9) 3 169 := qr_180 0 9 9 (by decide +kernel)
theorem dS_pass_169 : dn tS_pass 169 (.invokevirtual 55) 3 172 := qr_182 0 55 55 (by decide +kernel)
theorem dS_pass_172 : dn tS_pass 172 (.isub) 1 173 := qr_100 (by decide +kernel)
theorem dS_pass_173 : dl tS_pass 173 .istore_n .istore 2 174 := qr_61 (by decide +kernel)
theorem dS_pass_174 : dl tS_pass 174 .aload_n .aload 0 175 := qr_42 (by decide +kernel)
theorem dS_pass_175 : dn tS_pass 175 (.invokevirtual 79) 3 178 := qr_182 0 79 79 (by decide +kernel)
theorem dS_pass_178 : dn tS_pass 178 (.iconst 0) 1 179 := qr_3 (by decide +kernel)
theorem dS_pass_179 : dl tS_pass 179 .istore_n .istore 3 180 := qr_62 (by decide +kernel)
theorem dS_pass_180 : dl tS_pass 180 .iload_n .iload 3 181 := qr_29 (by decide +kernel)
theorem dS_pass_181 : dl tS_pass 181 .aload_n .aload 0 182 := qr_42 (by decide +kernel)
theorem dS_pass_182 : dn tS_pass 182 (.getfield 9) 3 185 := qr_180 0 9 9 (by decide +kernel)
theorem dS_pass_185 : dn tS_pass 185 (.getfield 59) 3 188 := qr_180 0 59 59 (by decide +kernel)
theorem dS_pass_188 : db tS_pass 188 (.if_icmp .ge) 202 191 := qr_162 0 14 14 (by decide +kernel) rfl
theorem dS_pass_191 : dl tS_pass 191 .aload_n .aload 0 192 := qr_42 (by decide +kernel)
theorem dS_pass_192 : dl tS_pass 192 .iload_n .iload 3 193 := qr_29 (by decide +kernel)
theorem dS_pass_193 : dn tS_pass 193 (.invokevirtual 82) 3 196 := qr_182 0 82 82 (by decide +kernel)
theorem dS_pass_196 : dn tS_pass 196 (.iinc 3 1) 3 199 := qr_132 3 1 1 (by decide +kernel)
theorem dS_pass_199 : db tS_pass 199 .goto 180 202 := qr_167 255 237 (-19) (by decide +kernel) rfl
theorem dS_pass_202 : dl tS_pass 202 .aload_n .aload 0 203 := qr_42 (by decide +kernel)
theorem dS_pass_203 : dn tS_pass 203 (.invokevirtual 85) 3 206 := qr_182 0 85 85 (by decide +kernel)
theorem dS_pass_206 : dl tS_pass 206 .iload_n .iload 2 207 := qr_28 (by decide +kernel)
theorem dS_pass_207 : dn tS_pass 207 (.ireturn) 1 208 := qr_172 (by decide +kernel)
theorem dS_weather_0 : dl tS_weather 0 .aload_n .aload 0 1 := qr_42 (by decide +kernel)
theorem dS_weather_1 : dn tS_weather 1 (.getfield 15) 3 4 := qr_180 0 15 15 (by decide +kernel)
theorem dS_weather_4 : dn tS_weather 4 (.getfield 88) 3 7 := qr_180 0 88 88 (by decide +kernel)
theorem dS_weather_7 : dl tS_weather 7 .astore_n .astore 1 8 := qr_76 (by decide +kernel)
theorem dS_weather_8 : dn tS_weather 8 (.iconst 0) 1 9 := qr_3 (by decide +kernel)
theorem dS_weather_9 : dl tS_weather 9 .istore_n .istore 2 10 := qr_61 (by decide +kernel)
theorem dS_weather_10 : dl tS_weather 10 .iload_n .iload 2 11 := qr_28 (by decide +kernel)
theorem dS_weather_11 : dl tS_weather 11 .aload_n .aload 1 12 := qr_43 (by decide +kernel)
theorem dS_weather_12 : dn tS_weather 12 (.getfield 36) 3 15 := qr_180 0 36 36 (by decide +kernel)
theorem dS_weather_15 : db tS_weather 15 (.if_icmp .ge) 109 18 := qr_162 0 94 94 (by decide +kernel) rfl
theorem dS_weather_18 : dl tS_weather 18 .aload_n .aload 1 19 := qr_43 (by decide +kernel)
theorem dS_weather_19 : dl tS_weather 19 .iload_n .iload 2 20 := qr_28 (by decide +kernel)
theorem dS_weather_20 : dn tS_weather 20 (.iconst 0) 1 21 := qr_3 (by decide +kernel)
theorem dS_weather_21 : dn tS_weather 21 (.invokevirtual 42) 3 24 := qr_182 0 42 42 (by decide +kernel)
theorem dS_weather_24 : dl tS_weather 24 .aload_n .aload 0 25 := qr_42 (by decide +kernel)
theorem dS_weather_25 : dn tS_weather 25 (.getfield 9) 3 28 := qr_180 0 9 9 (by decide +kernel)
theorem dS_weather_28 : dn tS_weather 28 (.getfield 46) 3 31 := qr_180 0 46 46 (by decide +kernel)
theorem dS_weather_31 : db tS_weather 31 (.if_icmp .ne) 103 34 := qr_160 0 72 72 (by decide +kernel) rfl
theorem dS_weather_34 : dl tS_weather 34 .aload_n .aload 1 35 := qr_43 (by decide +kernel)
theorem dS_weather_35 : dl tS_weather 35 .iload_n .iload 2 36 := qr_28 (by decide +kernel)
theorem dS_weather_36 : dn tS_weather 36 (.iconst 1) 1 37 := qr_4 (by decide +kernel)
theorem dS_weather_37 : dn tS_weather 37 (.invokevirtual 42) 3 40 := qr_182 0 42 42 (by decide +kernel)
theorem dS_weather_40 : dsw tS_weather 40 [(1, 68), (2, 84)] 95 := dsw_l 55 #[(1, 28), (2, 44)] 28 (by decide +kernel) (by decide +kernel) (by decide +kernel)
theorem dS_weather_68 : dl tS_weather 68 .aload_n .aload 0 69 := qr_42 (by decide +kernel)
theorem dS_weather_69 : dn tS_weather 69 (.getfield 9) 3 72 := qr_180 0 9 9 (by decide +kernel)
theorem dS_weather_72 : dl tS_weather 72 .aload_n .aload 1 73 := qr_43 (by decide +kernel)
theorem dS_weather_73 : dl tS_weather 73 .iload_n .iload 2 74 := qr_28 (by decide +kernel)
theorem dS_weather_74 : dn tS_weather 74 (.iconst 2) 1 75 := qr_5 (by decide +kernel)
theorem dS_weather_75 : dn tS_weather 75 (.invokevirtual 42) 3 78 := qr_182 0 42 42 (by decide +kernel)
theorem dS_weather_78 : dn tS_weather 78 (.putfield 91) 3 81 := qr_181 0 91 91 (by decide +kernel)
theorem dS_weather_81 : db tS_weather 81 .goto 103 84 := qr_167 0 22 22 (by decide +kernel) rfl
theorem dS_weather_84 : dl tS_weather 84 .aload_n .aload 0 85 := qr_42 (by decide +kernel)
theorem dS_weather_85 : dn tS_weather 85 (.getfield 9) 3 88 := qr_180 0 9 9 (by decide +kernel)
theorem dS_weather_88 : dn tS_weather 88 (.iconst 1) 1 89 := qr_4 (by decide +kernel)
theorem dS_weather_89 : dn tS_weather 89 (.putfield 94) 3 92 := qr_181 0 94 94 (by decide +kernel)
theorem dS_weather_92 : db tS_weather 92 .goto 103 95 := qr_167 0 11 11 (by decide +kernel) rfl
theorem dS_weather_95 : dl tS_weather 95 .aload_n .aload 0 96 := qr_42 (by decide +kernel)
theorem dS_weather_96 : dn tS_weather 96 (.getfield 9) 3 99 := qr_180 0 9 9 (by decide +kernel)
theorem dS_weather_99 : dn tS_weather 99 (.iconst 0) 1 100 := qr_3 (by decide +kernel)
theorem dS_weather_100 : dn tS_weather 100 (.putfield 94) 3 103 := qr_181 0 94 94 (by decide +kernel)
theorem dS_weather_103 : dn tS_weather 103 (.iinc 2 1) 3 106 := qr_132 2 1 1 (by decide +kernel)
theorem dS_weather_106 : db tS_weather 106 .goto 10 109 := qr_167 255 160 (-96) (by decide +kernel) rfl
theorem dS_weather_109 : dn tS_weather 109 (.return_) 1 110 := qr_177 (by decide +kernel)
theorem dS_officeLine_0 : dl tS_officeLine 0 .aload_n .aload 1 1 := qr_43 (by decide +kernel)
theorem dS_officeLine_1 : dl tS_officeLine 1 .iload_n .iload 2 2 := qr_28 (by decide +kernel)
theorem dS_officeLine_2 : dn tS_officeLine 2 (.iconst 2) 1 3 := qr_5 (by decide +kernel)
theorem dS_officeLine_3 : dn tS_officeLine 3 (.invokevirtual 42) 3 6 := qr_182 0 42 42 (by decide +kernel)
theorem dS_officeLine_6 : dl tS_officeLine 6 .istore_n .istore 3 7 := qr_62 (by decide +kernel)
theorem dS_officeLine_7 : dl tS_officeLine 7 .aload_n .aload 1 8 := qr_43 (by decide +kernel)
theorem dS_officeLine_8 : dl tS_officeLine 8 .iload_n .iload 2 9 := qr_28 (by decide +kernel)
theorem dS_officeLine_9 : dn tS_officeLine 9 (.iconst 4) 1 10 := qr_7 (by decide +kernel)
theorem dS_officeLine_10 : dn tS_officeLine 10 (.invokevirtual 42) 3 13 := qr_182 0 42 42 (by decide +kernel)
theorem dS_officeLine_13 : dl tS_officeLine 13 .istore_n .istore 4 15 := qs_54 4 (by decide +kernel)
theorem dS_officeLine_15 : dl tS_officeLine 15 .aload_n .aload 1 16 := qr_43 (by decide +kernel)
theorem dS_officeLine_16 : dl tS_officeLine 16 .iload_n .iload 2 17 := qr_28 (by decide +kernel)
theorem dS_officeLine_17 : dn tS_officeLine 17 (.iconst 1) 1 18 := qr_4 (by decide +kernel)
theorem dS_officeLine_18 : dn tS_officeLine 18 (.invokevirtual 42) 3 21 := qr_182 0 42 42 (by decide +kernel)
theorem dS_officeLine_21 : dsw tS_officeLine 21 [(1, 48), (2, 78), (3, 97)] 113 := dsw_t 92 1 3 #[27, 57, 76] 27 (by decide +kernel) (by decide) (by decide) (by decide +kernel)
theorem dS_officeLine_48 : dl tS_officeLine 48 .aload_n .aload 0 49 := qr_42 (by decide +kernel)
theorem dS_officeLine_49 : dn tS_officeLine 49 (.getfield 9) 3 52 := qr_180 0 9 9 (by decide +kernel)
theorem dS_officeLine_52 : dl tS_officeLine 52 .iload_n .iload 3 53 := qr_29 (by decide +kernel)
theorem dS_officeLine_53 : dn tS_officeLine 53 (.bipush 8) 2 55 := qr_16 8 8 (by decide +kernel)
theorem dS_officeLine_55 : dn tS_officeLine 55 (.iconst 0) 1 56 := qr_3 (by decide +kernel)
theorem dS_officeLine_56 : dl tS_officeLine 56 .aload_n .aload 0 57 := qr_42 (by decide +kernel)
theorem dS_officeLine_57 : dn tS_officeLine 57 (.getfield 9) 3 60 := qr_180 0 9 9 (by decide +kernel)
theorem dS_officeLine_60 : dl tS_officeLine 60 .iload_n .iload 3 61 := qr_29 (by decide +kernel)
theorem dS_officeLine_61 : dn tS_officeLine 61 (.bipush 8) 2 63 := qr_16 8 8 (by decide +kernel)
theorem dS_officeLine_63 : dn tS_officeLine 63 (.invokevirtual 66) 3 66 := qr_182 0 66 66 (by decide +kernel)
theorem dS_officeLine_66 : dl tS_officeLine 66 .iload_n .iload 4 68 := qs_21 4 (by decide +kernel)
theorem dS_officeLine_68 : dn tS_officeLine 68 (.isub) 1 69 := qr_100 (by decide +kernel)
theorem dS_officeLine_69 : dn tS_officeLine 69 (.invokestatic 97) 3 72 := qr_184 0 97 97 (by decide +kernel)
theorem dS_officeLine_72 : dn tS_officeLine 72 (.invokevirtual 102) 3 75 := qr_182 0 102 102 (by decide +kernel)
theorem dS_officeLine_75 : db tS_officeLine 75 .goto 129 78 := qr_167 0 54 54 (by decide +kernel) rfl
theorem dS_officeLine_78 : dl tS_officeLine 78 .aload_n .aload 0 79 := qr_42 (by decide +kernel)
theorem dS_officeLine_79 : dn tS_officeLine 79 (.getfield 9) 3 82 := qr_180 0 9 9 (by decide +kernel)
theorem dS_officeLine_82 : dl tS_officeLine 82 .iload_n .iload 3 83 := qr_29 (by decide +kernel)
theorem dS_officeLine_83 : dl tS_officeLine 83 .aload_n .aload 1 84 := qr_43 (by decide +kernel)
theorem dS_officeLine_84 : dl tS_officeLine 84 .iload_n .iload 2 85 := qr_28 (by decide +kernel)
theorem dS_officeLine_85 : dn tS_officeLine 85 (.iconst 3) 1 86 := qr_6 (by decide +kernel)
theorem dS_officeLine_86 : dn tS_officeLine 86 (.invokevirtual 42) 3 89 := qr_182 0 42 42 (by decide +kernel)
theorem dS_officeLine_89 : dl tS_officeLine 89 .iload_n .iload 4 91 := qs_21 4 (by decide +kernel)
theorem dS_officeLine_91 : dn tS_officeLine 91 (.invokevirtual 106) 3 94 := qr_182 0 106 106 (by decide +kernel)
theorem dS_officeLine_94 : db tS_officeLine 94 .goto 129 97 := qr_167 0 35 35 (by decide +kernel) rfl
theorem dS_officeLine_97 : dl tS_officeLine 97 .aload_n .aload 0 98 := qr_42 (by decide +kernel)
theorem dS_officeLine_98 : dl tS_officeLine 98 .iload_n .iload 3 99 := qr_29 (by decide +kernel)
theorem dS_officeLine_99 : dn tS_officeLine 99 (.invokevirtual 109) 3 102 := qr_182 0 109 109 (by decide +kernel)
theorem dS_officeLine_102 : db tS_officeLine 102 (.ifCond .eq) 129 105 := qr_153 0 27 27 (by decide +kernel) rfl
theorem dS_officeLine_105 : dl tS_officeLine 105 .aload_n .aload 0 106 := qr_42 (by decide +kernel)
theorem dS_officeLine_106 : dl tS_officeLine 106 .iload_n .iload 3 107 := qr_29 (by decide +kernel)
theorem dS_officeLine_107 : dn tS_officeLine 107 (.invokevirtual 112) 3 110 := qr_182 0 112 112 (by decide +kernel)
theorem dS_officeLine_110 : db tS_officeLine 110 .goto 129 113 := qr_167 0 19 19 (by decide +kernel) rfl
theorem dS_officeLine_113 : dl tS_officeLine 113 .aload_n .aload 0 114 := qr_42 (by decide +kernel)
theorem dS_officeLine_114 : dn tS_officeLine 114 (.getfield 9) 3 117 := qr_180 0 9 9 (by decide +kernel)
theorem dS_officeLine_117 : dl tS_officeLine 117 .iload_n .iload 3 118 := qr_29 (by decide +kernel)
theorem dS_officeLine_118 : dn tS_officeLine 118 (.invokevirtual 62) 3 121 := qr_182 0 62 62 (by decide +kernel)
theorem dS_officeLine_121 : db tS_officeLine 121 (.ifCond .eq) 129 124 := qr_153 0 8 8 (by decide +kernel) rfl
theorem dS_officeLine_124 : dl tS_officeLine 124 .aload_n .aload 0 125 := qr_42 (by decide +kernel)
theorem dS_officeLine_125 : dl tS_officeLine 125 .iload_n .iload 3 126 := qr_29 (by decide +kernel)
theorem dS_officeLine_126 : dn tS_officeLine 126 (.invokevirtual 115) 3 129 := qr_182 0 115 115 (by decide +kernel)
theorem dS_officeLine_129 : dn tS_officeLine 129 (.return_) 1 130 := qr_177 (by decide +kernel)
theorem dS_payRent_0 : dl tS_payRent 0 .aload_n .aload 0 1 := qr_42 (by decide +kernel)
theorem dS_payRent_1 : dn tS_payRent 1 (.getfield 19) 3 4 := qr_180 0 19 19 (by decide +kernel)
theorem dS_payRent_4 : dl tS_payRent 4 .aload_n .aload 0 5 := qr_42 (by decide +kernel)
theorem dS_payRent_5 : dn tS_payRent 5 (.getfield 9) 3 8 := qr_180 0 9 9 (by decide +kernel)
theorem dS_payRent_8 : dl tS_payRent 8 .iload_n .iload 1 9 := qr_27 (by decide +kernel)
theorem dS_payRent_9 : dl tS_payRent 9 .aload_n .aload 0 10 := qr_42 (by decide +kernel)
theorem dS_payRent_10 : dn tS_payRent 10 (.getfield 9) 3 13 := qr_180 0 9 9 (by decide +kernel)
theorem dS_payRent_13 : dl tS_payRent 13 .iload_n .iload 1 14 := qr_27 (by decide +kernel)
theorem dS_payRent_14 : dn tS_payRent 14 (.invokevirtual 118) 3 17 := qr_182 0 118 118 (by decide +kernel)
theorem dS_payRent_17 : dn tS_payRent 17 (.iconst 0) 1 18 := qr_3 (by decide +kernel)
theorem dS_payRent_18 : dn tS_payRent 18 (.invokevirtual 122) 3 21 := qr_182 0 122 122 (by decide +kernel)
theorem dS_payRent_21 : dl tS_payRent 21 .istore_n .istore 2 22 := qr_61 (by decide +kernel)
theorem dS_payRent_22 : dn tS_payRent 22 (.iconst 0) 1 23 := qr_3 (by decide +kernel)
theorem dS_payRent_23 : dl tS_payRent 23 .istore_n .istore 3 24 := qr_62 (by decide +kernel)
theorem dS_payRent_24 : dn tS_payRent 24 (.iconst 0) 1 25 := qr_3 (by decide +kernel)
theorem dS_payRent_25 : dl tS_payRent 25 .istore_n .istore 4 27 := qs_54 4 (by decide +kernel)
theorem dS_payRent_27 : dl tS_payRent 27 .iload_n .iload 4 29 := qs_21 4 (by decide +kernel)
theorem dS_payRent_29 : dl tS_payRent 29 .iload_n .iload 2 30 := qr_28 (by decide +kernel)
theorem dS_payRent_30 : db tS_payRent 30 (.if_icmp .ge) 70 33 := qr_162 0 40 40 (by decide +kernel) rfl
theorem dS_payRent_33 : dl tS_payRent 33 .aload_n .aload 0 34 := qr_42 (by decide +kernel)
theorem dS_payRent_34 : dn tS_payRent 34 (.getfield 9) 3 37 := qr_180 0 9 9 (by decide +kernel)
theorem dS_payRent_37 : dl tS_payRent 37 .iload_n .iload 1 38 := qr_27 (by decide +kernel)
theorem dS_payRent_38 : dn tS_payRent 38 (.invokevirtual 62) 3 41 := qr_182 0 62 62 (by decide +kernel)
theorem dS_payRent_41 : db tS_payRent 41 (.ifCond .eq) 70 44 := qr_153 0 29 29 (by decide +kernel) rfl
theorem dS_payRent_44 : dl tS_payRent 44 .iload_n .iload 3 45 := qr_29 (by decide +kernel)
theorem dS_payRent_45 : dl tS_payRent 45 .aload_n .aload 0 46 := qr_42 (by decide +kernel)
theorem dS_payRent_46 : dn tS_payRent 46 (.getfield 9) 3 49 := qr_180 0 9 9 (by decide +kernel)
theorem dS_payRent_49 : dl tS_payRent 49 .iload_n .iload 1 50 := qr_27 (by decide +kernel)
theorem dS_payRent_50 : dl tS_payRent 50 .aload_n .aload 0 51 := qr_42 (by decide +kernel)
theorem dS_payRent_51 : dn tS_payRent 51 (.getfield 9) 3 54 := qr_180 0 9 9 (by decide +kernel)
theorem dS_payRent_54 : dl tS_payRent 54 .iload_n .iload 1 55 := qr_27 (by decide +kernel)
theorem dS_payRent_55 : dn tS_payRent 55 (.invokevirtual 118) 3 58 := qr_182 0 118 118 (by decide +kernel)
theorem dS_payRent_58 : dn tS_payRent 58 (.iconst 1) 1 59 := qr_4 (by decide +kernel)
theorem dS_payRent_59 : dn tS_payRent 59 (.invokevirtual 128) 3 62 := qr_182 0 128 128 (by decide +kernel)
theorem dS_payRent_62 : dn tS_payRent 62 (.iadd) 1 63 := qr_96 (by decide +kernel)
theorem dS_payRent_63 : dl tS_payRent 63 .istore_n .istore 3 64 := qr_62 (by decide +kernel)
theorem dS_payRent_64 : dn tS_payRent 64 (.iinc 4 1) 3 67 := qr_132 4 1 1 (by decide +kernel)
theorem dS_payRent_67 : db tS_payRent 67 .goto 27 70 := qr_167 255 216 (-40) (by decide +kernel) rfl
theorem dS_payRent_70 : dl tS_payRent 70 .aload_n .aload 0 71 := qr_42 (by decide +kernel)
theorem dS_payRent_71 : dn tS_payRent 71 (.getfield 9) 3 74 := qr_180 0 9 9 (by decide +kernel)
theorem dS_payRent_74 : dn tS_payRent 74 (.dup) 1 75 := qr_89 (by decide +kernel)
theorem dS_payRent_75 : dn tS_payRent 75 (.getfield 132) 3 78 := qr_180 0 132 132 (by decide +kernel)
theorem dS_payRent_78 : dl tS_payRent 78 .iload_n .iload 3 79 := qr_29 (by decide +kernel)
theorem dS_payRent_79 : dn tS_payRent 79 (.iadd) 1 80 := qr_96 (by decide +kernel)
theorem dS_payRent_80 : dn tS_payRent 80 (.putfield 132) 3 83 := qr_181 0 132 132 (by decide +kernel)
theorem dS_payRent_83 : dl tS_payRent 83 .aload_n .aload 0 84 := qr_42 (by decide +kernel)
theorem dS_payRent_84 : dn tS_payRent 84 (.iconst 0) 1 85 := qr_3 (by decide +kernel)
theorem dS_payRent_85 : dl tS_payRent 85 .iload_n .iload 1 86 := qr_27 (by decide +kernel)
theorem dS_payRent_86 : dl tS_payRent 86 .iload_n .iload 3 87 := qr_29 (by decide +kernel)
theorem dS_payRent_87 : dn tS_payRent 87 (.invokevirtual 135) 3 90 := qr_182 0 135 135 (by decide +kernel)
theorem dS_payRent_90 : dl tS_payRent 90 .iload_n .iload 2 91 := qr_28 (by decide +kernel)
theorem dS_payRent_91 : dl tS_payRent 91 .iload_n .iload 3 92 := qr_29 (by decide +kernel)
theorem dS_payRent_92 : dn tS_payRent 92 (.isub) 1 93 := qr_100 (by decide +kernel)
theorem dS_payRent_93 : dl tS_payRent 93 .istore_n .istore 4 95 := qs_54 4 (by decide +kernel)
theorem dS_payRent_95 : dl tS_payRent 95 .aload_n .aload 0 96 := qr_42 (by decide +kernel)
theorem dS_payRent_96 : dn tS_payRent 96 (.getfield 9) 3 99 := qr_180 0 9 9 (by decide +kernel)
theorem dS_payRent_99 : dl tS_payRent 99 .iload_n .iload 1 100 := qr_27 (by decide +kernel)
theorem dS_payRent_100 : dn tS_payRent 100 (.bipush 8) 2 102 := qr_16 8 8 (by decide +kernel)
theorem dS_payRent_102 : dl tS_payRent 102 .aload_n .aload 0 103 := qr_42 (by decide +kernel)
theorem dS_payRent_103 : dn tS_payRent 103 (.getfield 9) 3 106 := qr_180 0 9 9 (by decide +kernel)
theorem dS_payRent_106 : dl tS_payRent 106 .iload_n .iload 1 107 := qr_27 (by decide +kernel)
theorem dS_payRent_107 : dn tS_payRent 107 (.bipush 8) 2 109 := qr_16 8 8 (by decide +kernel)
theorem dS_payRent_109 : dn tS_payRent 109 (.invokevirtual 66) 3 112 := qr_182 0 66 66 (by decide +kernel)
theorem dS_payRent_112 : dl tS_payRent 112 .iload_n .iload 4 114 := qs_21 4 (by decide +kernel)
theorem dS_payRent_114 : dn tS_payRent 114 (.iadd) 1 115 := qr_96 (by decide +kernel)
theorem dS_payRent_115 : dn tS_payRent 115 (.invokevirtual 102) 3 118 := qr_182 0 102 102 (by decide +kernel)
theorem dS_payRent_118 : dl tS_payRent 118 .aload_n .aload 0 119 := qr_42 (by decide +kernel)
theorem dS_payRent_119 : dn tS_payRent 119 (.iconst 1) 1 120 := qr_4 (by decide +kernel)
theorem dS_payRent_120 : dl tS_payRent 120 .iload_n .iload 1 121 := qr_27 (by decide +kernel)
theorem dS_payRent_121 : dl tS_payRent 121 .iload_n .iload 4 123 := qs_21 4 (by decide +kernel)
theorem dS_payRent_123 : dn tS_payRent 123 (.invokevirtual 135) 3 126 := qr_182 0 135 135 (by decide +kernel)
theorem dS_payRent_126 : dl tS_payRent 126 .aload_n .aload 0 127 := qr_42 (by decide +kernel)
theorem dS_payRent_127 : dl tS_payRent 127 .iload_n .iload 1 128 := qr_27 (by decide +kernel)
theorem dS_payRent_128 : dn tS_payRent 128 (.invokevirtual 82) 3 131 := qr_182 0 82 82 (by decide +kernel)
theorem dS_payRent_131 : dn tS_payRent 131 (.return_) 1 132 := qr_177 (by decide +kernel)
theorem dS_gnaw_0 : dn tS_gnaw 0 (.iconst 0) 1 1 := qr_3 (by decide +kernel)
theorem dS_gnaw_1 : dl tS_gnaw 1 .istore_n .istore 2 2 := qr_61 (by decide +kernel)
theorem dS_gnaw_2 : dn tS_gnaw 2 (.iconst 0) 1 3 := qr_3 (by decide +kernel)
theorem dS_gnaw_3 : dl tS_gnaw 3 .istore_n .istore 3 4 := qr_62 (by decide +kernel)
theorem dS_gnaw_4 : dl tS_gnaw 4 .iload_n .iload 3 5 := qr_29 (by decide +kernel)
theorem dS_gnaw_5 : dn tS_gnaw 5 (.iconst 4) 1 6 := qr_7 (by decide +kernel)
theorem dS_gnaw_6 : db tS_gnaw 6 (.if_icmp .ge) 61 9 := qr_162 0 55 55 (by decide +kernel) rfl
theorem dS_gnaw_9 : dl tS_gnaw 9 .aload_n .aload 0 10 := qr_42 (by decide +kernel)
theorem dS_gnaw_10 : dn tS_gnaw 10 (.getfield 9) 3 13 := qr_180 0 9 9 (by decide +kernel)
theorem dS_gnaw_13 : dl tS_gnaw 13 .iload_n .iload 1 14 := qr_27 (by decide +kernel)
theorem dS_gnaw_14 : dl tS_gnaw 14 .iload_n .iload 3 15 := qr_29 (by decide +kernel)
theorem dS_gnaw_15 : dn tS_gnaw 15 (.invokevirtual 66) 3 18 := qr_182 0 66 66 (by decide +kernel)
theorem dS_gnaw_18 : db tS_gnaw 18 (.ifCond .le) 55 21 := qr_158 0 37 37 (by decide +kernel) rfl
theorem dS_gnaw_21 : dl tS_gnaw 21 .aload_n .aload 0 22 := qr_42 (by decide +kernel)
theorem dS_gnaw_22 : dl tS_gnaw 22 .aload_n .aload 0 23 := qr_42 (by decide +kernel)
theorem dS_gnaw_23 : dn tS_gnaw 23 (.getfield 19) 3 26 := qr_180 0 19 19 (by decide +kernel)
theorem dS_gnaw_26 : dl tS_gnaw 26 .aload_n .aload 0 27 := qr_42 (by decide +kernel)
theorem dS_gnaw_27 : dn tS_gnaw 27 (.getfield 9) 3 30 := qr_180 0 9 9 (by decide +kernel)
theorem dS_gnaw_30 : dl tS_gnaw 30 .iload_n .iload 1 31 := qr_27 (by decide +kernel)
theorem dS_gnaw_31 : dl tS_gnaw 31 .iload_n .iload 3 32 := qr_29 (by decide +kernel)
theorem dS_gnaw_32 : dn tS_gnaw 32 (.iconst 1) 1 33 := qr_4 (by decide +kernel)
theorem dS_gnaw_33 : dn tS_gnaw 33 (.invokevirtual 122) 3 36 := qr_182 0 122 122 (by decide +kernel)
theorem dS_gnaw_36 : dn tS_gnaw 36 (.invokevirtual 138) 3 39 := qr_182 0 138 138 (by decide +kernel)
theorem dS_gnaw_39 : db tS_gnaw 39 (.ifCond .eq) 55 42 := qr_153 0 16 16 (by decide +kernel) rfl
theorem dS_gnaw_42 : dl tS_gnaw 42 .iload_n .iload 2 43 := qr_28 (by decide +kernel)
theorem dS_gnaw_43 : dl tS_gnaw 43 .aload_n .aload 0 44 := qr_42 (by decide +kernel)
theorem dS_gnaw_44 : dn tS_gnaw 44 (.getfield 9) 3 47 := qr_180 0 9 9 (by decide +kernel)
theorem dS_gnaw_47 : dl tS_gnaw 47 .iload_n .iload 1 48 := qr_27 (by decide +kernel)
theorem dS_gnaw_48 : dl tS_gnaw 48 .iload_n .iload 3 49 := qr_29 (by decide +kernel)
theorem dS_gnaw_49 : dn tS_gnaw 49 (.iconst 1) 1 50 := qr_4 (by decide +kernel)
theorem dS_gnaw_50 : dn tS_gnaw 50 (.invokevirtual 128) 3 53 := qr_182 0 128 128 (by decide +kernel)
theorem dS_gnaw_53 : dn tS_gnaw 53 (.iadd) 1 54 := qr_96 (by decide +kernel)
theorem dS_gnaw_54 : dl tS_gnaw 54 .istore_n .istore 2 55 := qr_61 (by decide +kernel)
theorem dS_gnaw_55 : dn tS_gnaw 55 (.iinc 3 1) 3 58 := qr_132 3 1 1 (by decide +kernel)
theorem dS_gnaw_58 : db tS_gnaw 58 .goto 4 61 := qr_167 255 202 (-54) (by decide +kernel) rfl
theorem dS_gnaw_61 : dl tS_gnaw 61 .aload_n .aload 0 62 := qr_42 (by decide +kernel)
theorem dS_gnaw_62 : dn tS_gnaw 62 (.getfield 9) 3 65 := qr_180 0 9 9 (by decide +kernel)
theorem dS_gnaw_65 : dn tS_gnaw 65 (.dup) 1 66 := qr_89 (by decide +kernel)
theorem dS_gnaw_66 : dn tS_gnaw 66 (.getfield 141) 3 69 := qr_180 0 141 141 (by decide +kernel)
theorem dS_gnaw_69 : dl tS_gnaw 69 .iload_n .iload 2 70 := qr_28 (by decide +kernel)
theorem dS_gnaw_70 : dn tS_gnaw 70 (.iadd) 1 71 := qr_96 (by decide +kernel)
theorem dS_gnaw_71 : dn tS_gnaw 71 (.putfield 141) 3 74 := qr_181 0 141 141 (by decide +kernel)
theorem dS_gnaw_74 : dl tS_gnaw 74 .aload_n .aload 0 75 := qr_42 (by decide +kernel)
theorem dS_gnaw_75 : dn tS_gnaw 75 (.iconst 2) 1 76 := qr_5 (by decide +kernel)
theorem dS_gnaw_76 : dl tS_gnaw 76 .iload_n .iload 1 77 := qr_27 (by decide +kernel)
theorem dS_gnaw_77 : dl tS_gnaw 77 .iload_n .iload 2 78 := qr_28 (by decide +kernel)
theorem dS_gnaw_78 : dn tS_gnaw 78 (.invokevirtual 135) 3 81 := qr_182 0 135 135 (by decide +kernel)
theorem dS_gnaw_81 : dn tS_gnaw 81 (.return_) 1 82 := qr_177 (by decide +kernel)
theorem dS_ratsGnaw_0 : dl tS_ratsGnaw 0 .aload_n .aload 0 1 := qr_42 (by decide +kernel)
theorem dS_ratsGnaw_1 : dn tS_ratsGnaw 1 (.getfield 23) 3 4 := qr_180 0 23 23 (by decide +kernel)
theorem dS_ratsGnaw_4 : db tS_ratsGnaw 4 (.ifCond .ne) 20 7 := qr_154 0 16 16 (by decide +kernel) rfl
theorem dS_ratsGnaw_7 : dl tS_ratsGnaw 7 .iload_n .iload 1 8 := qr_27 (by decide +kernel)
theorem dS_ratsGnaw_8 : dn tS_ratsGnaw 8 (.sipush 500) 3 11 := qr_17 1 244 500 (by decide +kernel)
theorem dS_ratsGnaw_11 : db tS_ratsGnaw 11 (.if_icmp .lt) 18 14 := qr_161 0 7 7 (by decide +kernel) rfl
theorem dS_ratsGnaw_14 : dn tS_ratsGnaw 14 (.iconst 1) 1 15 := qr_4 (by decide +kernel)
theorem dS_ratsGnaw_15 : db tS_ratsGnaw 15 .goto 19 18 := qr_167 0 4 4 (by decide +kernel) rfl
theorem dS_ratsGnaw_18 : dn tS_ratsGnaw 18 (.iconst 0) 1 19 := qr_3 (by decide +kernel)
theorem dS_ratsGnaw_19 : dn tS_ratsGnaw 19 (.ireturn) 1 20 := qr_172 (by decide +kernel)
theorem dS_ratsGnaw_20 : dl tS_ratsGnaw 20 .iload_n .iload 1 21 := qr_27 (by decide +kernel)
theorem dS_ratsGnaw_21 : db tS_ratsGnaw 21 (.ifCond .le) 42 24 := qr_158 0 21 21 (by decide +kernel) rfl
theorem dS_ratsGnaw_24 : dl tS_ratsGnaw 24 .aload_n .aload 0 25 := qr_42 (by decide +kernel)
theorem dS_ratsGnaw_25 : dn tS_ratsGnaw 25 (.getfield 9) 3 28 := qr_180 0 9 9 (by decide +kernel)
theorem dS_ratsGnaw_28 : dn tS_ratsGnaw 28 (.sipush 1000) 3 31 := qr_17 3 232 1000 (by decide +kernel)
theorem dS_ratsGnaw_31 : dn tS_ratsGnaw 31 (.invokevirtual 144) 3 34 := qr_182 0 144 144 (by decide +kernel)
theorem dS_ratsGnaw_34 : dl tS_ratsGnaw 34 .iload_n .iload 1 35 := qr_27 (by decide +kernel)
theorem dS_ratsGnaw_35 : db tS_ratsGnaw 35 (.if_icmp .ge) 42 38 := qr_162 0 7 7 (by decide +kernel) rfl
theorem dS_ratsGnaw_38 : dn tS_ratsGnaw 38 (.iconst 1) 1 39 := qr_4 (by decide +kernel)
theorem dS_ratsGnaw_39 : db tS_ratsGnaw 39 .goto 43 42 := qr_167 0 4 4 (by decide +kernel) rfl
theorem dS_ratsGnaw_42 : dn tS_ratsGnaw 42 (.iconst 0) 1 43 := qr_3 (by decide +kernel)
theorem dS_ratsGnaw_43 : dn tS_ratsGnaw 43 (.ireturn) 1 44 := qr_172 (by decide +kernel)
theorem dS_melt_0 : dl tS_melt 0 .aload_n .aload 0 1 := qr_42 (by decide +kernel)
theorem dS_melt_1 : dn tS_melt 1 (.getfield 9) 3 4 := qr_180 0 9 9 (by decide +kernel)
theorem dS_melt_4 : dn tS_melt 4 (.getfield 94) 3 7 := qr_180 0 94 94 (by decide +kernel)
theorem dS_melt_7 : db tS_melt 7 (.ifCond .eq) 11 10 := qr_153 0 4 4 (by decide +kernel) rfl
theorem dS_melt_10 : dn tS_melt 10 (.return_) 1 11 := qr_177 (by decide +kernel)
theorem dS_melt_11 : dn tS_melt 11 (.iconst 0) 1 12 := qr_3 (by decide +kernel)
theorem dS_melt_12 : dl tS_melt 12 .istore_n .istore 2 13 := qr_61 (by decide +kernel)
theorem dS_melt_13 : dn tS_melt 13 (.iconst 0) 1 14 := qr_3 (by decide +kernel)
theorem dS_melt_14 : dl tS_melt 14 .istore_n .istore 3 15 := qr_62 (by decide +kernel)
theorem dS_melt_15 : dl tS_melt 15 .iload_n .iload 3 16 := qr_29 (by decide +kernel)
theorem dS_melt_16 : dn tS_melt 16 (.iconst 4) 1 17 := qr_7 (by decide +kernel)
theorem dS_melt_17 : db tS_melt 17 (.if_icmp .ge) 64 20 := qr_162 0 47 47 (by decide +kernel) rfl
theorem dS_melt_20 : dl tS_melt 20 .aload_n .aload 0 21 := qr_42 (by decide +kernel)
theorem dS_melt_21 : dn tS_melt 21 (.getfield 9) 3 24 := qr_180 0 9 9 (by decide +kernel)
theorem dS_melt_24 : dl tS_melt 24 .iload_n .iload 1 25 := qr_27 (by decide +kernel)
theorem dS_melt_25 : dl tS_melt 25 .iload_n .iload 3 26 := qr_29 (by decide +kernel)
theorem dS_melt_26 : dn tS_melt 26 (.invokevirtual 66) 3 29 := qr_182 0 66 66 (by decide +kernel)
theorem dS_melt_29 : db tS_melt 29 (.ifCond .le) 58 32 := qr_158 0 29 29 (by decide +kernel) rfl
theorem dS_melt_32 : dl tS_melt 32 .iload_n .iload 2 33 := qr_28 (by decide +kernel)
theorem dS_melt_33 : dl tS_melt 33 .aload_n .aload 0 34 := qr_42 (by decide +kernel)
theorem dS_melt_34 : dn tS_melt 34 (.getfield 9) 3 37 := qr_180 0 9 9 (by decide +kernel)
theorem dS_melt_37 : dl tS_melt 37 .iload_n .iload 1 38 := qr_27 (by decide +kernel)
theorem dS_melt_38 : dl tS_melt 38 .iload_n .iload 3 39 := qr_29 (by decide +kernel)
theorem dS_melt_39 : dl tS_melt 39 .aload_n .aload 0 40 := qr_42 (by decide +kernel)
theorem dS_melt_40 : dn tS_melt 40 (.getfield 19) 3 43 := qr_180 0 19 19 (by decide +kernel)
theorem dS_melt_43 : dl tS_melt 43 .aload_n .aload 0 44 := qr_42 (by decide +kernel)
theorem dS_melt_44 : dn tS_melt 44 (.getfield 9) 3 47 := qr_180 0 9 9 (by decide +kernel)
theorem dS_melt_47 : dl tS_melt 47 .iload_n .iload 1 48 := qr_27 (by decide +kernel)
theorem dS_melt_48 : dl tS_melt 48 .iload_n .iload 3 49 := qr_29 (by decide +kernel)
theorem dS_melt_49 : dn tS_melt 49 (.iconst 2) 1 50 := qr_5 (by decide +kernel)
theorem dS_melt_50 : dn tS_melt 50 (.invokevirtual 122) 3 53 := qr_182 0 122 122 (by decide +kernel)
theorem dS_melt_53 : dn tS_melt 53 (.invokevirtual 128) 3 56 := qr_182 0 128 128 (by decide +kernel)
theorem dS_melt_56 : dn tS_melt 56 (.iadd) 1 57 := qr_96 (by decide +kernel)
theorem dS_melt_57 : dl tS_melt 57 .istore_n .istore 2 58 := qr_61 (by decide +kernel)
theorem dS_melt_58 : dn tS_melt 58 (.iinc 3 1) 3 61 := qr_132 3 1 1 (by decide +kernel)
theorem dS_melt_61 : db tS_melt 61 .goto 15 64 := qr_167 255 210 (-46) (by decide +kernel) rfl
theorem dS_melt_64 : dl tS_melt 64 .aload_n .aload 0 65 := qr_42 (by decide +kernel)
theorem dS_melt_65 : dn tS_melt 65 (.iconst 3) 1 66 := qr_6 (by decide +kernel)
theorem dS_melt_66 : dl tS_melt 66 .iload_n .iload 1 67 := qr_27 (by decide +kernel)
theorem dS_melt_67 : dl tS_melt 67 .iload_n .iload 2 68 := qr_28 (by decide +kernel)
theorem dS_melt_68 : dn tS_melt 68 (.invokevirtual 135) 3 71 := qr_182 0 135 135 (by decide +kernel)
theorem dS_melt_71 : dn tS_melt 71 (.return_) 1 72 := qr_177 (by decide +kernel)
theorem dS_harden_0 : dn tS_harden 0 (.iconst 0) 1 1 := qr_3 (by decide +kernel)
theorem dS_harden_1 : dl tS_harden 1 .istore_n .istore 1 2 := qr_60 (by decide +kernel)
theorem dS_harden_2 : dl tS_harden 2 .iload_n .iload 1 3 := qr_27 (by decide +kernel)
theorem dS_harden_3 : dl tS_harden 3 .aload_n .aload 0 4 := qr_42 (by decide +kernel)
theorem dS_harden_4 : dn tS_harden 4 (.getfield 9) 3 7 := qr_180 0 9 9 (by decide +kernel)
theorem dS_harden_7 : dn tS_harden 7 (.getfield 59) 3 10 := qr_180 0 59 59 (by decide +kernel)
theorem dS_harden_10 : db tS_harden 10 (.if_icmp .ge) 68 13 := qr_162 0 58 58 (by decide +kernel) rfl
theorem dS_harden_13 : dl tS_harden 13 .aload_n .aload 0 14 := qr_42 (by decide +kernel)
theorem dS_harden_14 : dn tS_harden 14 (.getfield 9) 3 17 := qr_180 0 9 9 (by decide +kernel)
theorem dS_harden_17 : dn tS_harden 17 (.getfield 94) 3 20 := qr_180 0 94 94 (by decide +kernel)
theorem dS_harden_20 : dn tS_harden 20 (.iconst 1) 1 21 := qr_4 (by decide +kernel)
theorem dS_harden_21 : db tS_harden 21 (.if_icmp .ne) 62 24 := qr_160 0 41 41 (by decide +kernel) rfl
theorem dS_harden_24 : dl tS_harden 24 .aload_n .aload 0 25 := qr_42 (by decide +kernel)
theorem dS_harden_25 : dn tS_harden 25 (.getfield 9) 3 28 := qr_180 0 9 9 (by decide +kernel)
theorem dS_harden_28 : dl tS_harden 28 .iload_n .iload 1 29 := qr_27 (by decide +kernel)
theorem dS_harden_29 : dn tS_harden 29 (.invokevirtual 62) 3 32 := qr_182 0 62 62 (by decide +kernel)
theorem dS_harden_32 : db tS_harden 32 (.ifCond .eq) 62 35 := qr_153 0 30 30 (by decide +kernel) rfl
theorem dS_harden_35 : dl tS_harden 35 .aload_n .aload 0 36 := qr_42 (by decide +kernel)
theorem dS_harden_36 : dn tS_harden 36 (.getfield 9) 3 39 := qr_180 0 9 9 (by decide +kernel)
theorem dS_harden_39 : dl tS_harden 39 .iload_n .iload 1 40 := qr_27 (by decide +kernel)
theorem dS_harden_40 : dn tS_harden 40 (.bipush 6) 2 42 := qr_16 6 6 (by decide +kernel)
theorem dS_harden_42 : dn tS_harden 42 (.bipush 9) 2 44 := qr_16 9 9 (by decide +kernel)
theorem dS_harden_44 : dl tS_harden 44 .aload_n .aload 0 45 := qr_42 (by decide +kernel)
theorem dS_harden_45 : dn tS_harden 45 (.getfield 9) 3 48 := qr_180 0 9 9 (by decide +kernel)
theorem dS_harden_48 : dl tS_harden 48 .iload_n .iload 1 49 := qr_27 (by decide +kernel)
theorem dS_harden_49 : dn tS_harden 49 (.bipush 6) 2 51 := qr_16 6 6 (by decide +kernel)
theorem dS_harden_51 : dn tS_harden 51 (.invokevirtual 66) 3 54 := qr_182 0 66 66 (by decide +kernel)
theorem dS_harden_54 : dn tS_harden 54 (.iconst 1) 1 55 := qr_4 (by decide +kernel)
theorem dS_harden_55 : dn tS_harden 55 (.iadd) 1 56 := qr_96 (by decide +kernel)
theorem dS_harden_56 : dn tS_harden 56 (.invokestatic 147) 3 59 := qr_184 0 147 147 (by decide +kernel)
theorem dS_harden_59 : dn tS_harden 59 (.invokevirtual 102) 3 62 := qr_182 0 102 102 (by decide +kernel)
theorem dS_harden_62 : dn tS_harden 62 (.iinc 1 1) 3 65 := qr_132 1 1 1 (by decide +kernel)
theorem dS_harden_65 : db tS_harden 65 .goto 2 68 := qr_167 255 193 (-63) (by decide +kernel) rfl
theorem dS_harden_68 : dn tS_harden 68 (.return_) 1 69 := qr_177 (by decide +kernel)
theorem dS_grow_0 : dn tS_grow 0 (.iconst 0) 1 1 := qr_3 (by decide +kernel)
theorem dS_grow_1 : dl tS_grow 1 .istore_n .istore 1 2 := qr_60 (by decide +kernel)
theorem dS_grow_2 : dl tS_grow 2 .iload_n .iload 1 3 := qr_27 (by decide +kernel)
theorem dS_grow_3 : dl tS_grow 3 .aload_n .aload 0 4 := qr_42 (by decide +kernel)
theorem dS_grow_4 : dn tS_grow 4 (.getfield 9) 3 7 := qr_180 0 9 9 (by decide +kernel)
theorem dS_grow_7 : dn tS_grow 7 (.getfield 59) 3 10 := qr_180 0 59 59 (by decide +kernel)
theorem dS_grow_10 : db tS_grow 10 (.if_icmp .ge) 58 13 := qr_162 0 48 48 (by decide +kernel) rfl
theorem dS_grow_13 : dl tS_grow 13 .aload_n .aload 0 14 := qr_42 (by decide +kernel)
theorem dS_grow_14 : dn tS_grow 14 (.getfield 9) 3 17 := qr_180 0 9 9 (by decide +kernel)
theorem dS_grow_17 : dl tS_grow 17 .iload_n .iload 1 18 := qr_27 (by decide +kernel)
theorem dS_grow_18 : dn tS_grow 18 (.invokevirtual 62) 3 21 := qr_182 0 62 62 (by decide +kernel)
theorem dS_grow_21 : db tS_grow 21 (.ifCond .eq) 52 24 := qr_153 0 31 31 (by decide +kernel) rfl
theorem dS_grow_24 : dl tS_grow 24 .aload_n .aload 0 25 := qr_42 (by decide +kernel)
theorem dS_grow_25 : dn tS_grow 25 (.getfield 9) 3 28 := qr_180 0 9 9 (by decide +kernel)
theorem dS_grow_28 : dl tS_grow 28 .iload_n .iload 1 29 := qr_27 (by decide +kernel)
theorem dS_grow_29 : dn tS_grow 29 (.bipush 10) 2 31 := qr_16 10 10 (by decide +kernel)
theorem dS_grow_31 : dn tS_grow 31 (.sipush 9999) 3 34 := qr_17 39 15 9999 (by decide +kernel)
theorem dS_grow_34 : dl tS_grow 34 .aload_n .aload 0 35 := qr_42 (by decide +kernel)
theorem dS_grow_35 : dn tS_grow 35 (.getfield 9) 3 38 := qr_180 0 9 9 (by decide +kernel)
theorem dS_grow_38 : dl tS_grow 38 .iload_n .iload 1 39 := qr_27 (by decide +kernel)
theorem dS_grow_39 : dn tS_grow 39 (.bipush 10) 2 41 := qr_16 10 10 (by decide +kernel)
theorem dS_grow_41 : dn tS_grow 41 (.invokevirtual 66) 3 44 := qr_182 0 66 66 (by decide +kernel)
theorem dS_grow_44 : dn tS_grow 44 (.iconst 1) 1 45 := qr_4 (by decide +kernel)
theorem dS_grow_45 : dn tS_grow 45 (.iadd) 1 46 := qr_96 (by decide +kernel)
theorem dS_grow_46 : dn tS_grow 46 (.invokestatic 147) 3 49 := qr_184 0 147 147 (by decide +kernel)
theorem dS_grow_49 : dn tS_grow 49 (.invokevirtual 102) 3 52 := qr_182 0 102 102 (by decide +kernel)
theorem dS_grow_52 : dn tS_grow 52 (.iinc 1 1) 3 55 := qr_132 1 1 1 (by decide +kernel)
theorem dS_grow_55 : db tS_grow 55 .goto 2 58 := qr_167 255 203 (-53) (by decide +kernel) rfl
theorem dS_grow_58 : dl tS_grow 58 .aload_n .aload 0 59 := qr_42 (by decide +kernel)
theorem dS_grow_59 : dn tS_grow 59 (.getfield 9) 3 62 := qr_180 0 9 9 (by decide +kernel)
theorem dS_grow_62 : dn tS_grow 62 (.sipush 9999) 3 65 := qr_17 39 15 9999 (by decide +kernel)
theorem dS_grow_65 : dl tS_grow 65 .aload_n .aload 0 66 := qr_42 (by decide +kernel)
theorem dS_grow_66 : dn tS_grow 66 (.getfield 9) 3 69 := qr_180 0 9 9 (by decide +kernel)
theorem dS_grow_69 : dn tS_grow 69 (.getfield 46) 3 72 := qr_180 0 46 46 (by decide +kernel)
theorem dS_grow_72 : dn tS_grow 72 (.iconst 1) 1 73 := qr_4 (by decide +kernel)
theorem dS_grow_73 : dn tS_grow 73 (.iadd) 1 74 := qr_96 (by decide +kernel)
theorem dS_grow_74 : dn tS_grow 74 (.invokestatic 147) 3 77 := qr_184 0 147 147 (by decide +kernel)
theorem dS_grow_77 : dn tS_grow 77 (.putfield 46) 3 80 := qr_181 0 46 46 (by decide +kernel)
theorem dS_grow_80 : dn tS_grow 80 (.return_) 1 81 := qr_177 (by decide +kernel)
theorem dS_leaveIfFallen_0 : dl tS_leaveIfFallen 0 .aload_n .aload 0 1 := qr_42 (by decide +kernel)
theorem dS_leaveIfFallen_1 : dn tS_leaveIfFallen 1 (.getfield 9) 3 4 := qr_180 0 9 9 (by decide +kernel)
theorem dS_leaveIfFallen_4 : dl tS_leaveIfFallen 4 .iload_n .iload 1 5 := qr_27 (by decide +kernel)
theorem dS_leaveIfFallen_5 : dn tS_leaveIfFallen 5 (.invokevirtual 62) 3 8 := qr_182 0 62 62 (by decide +kernel)
theorem dS_leaveIfFallen_8 : db tS_leaveIfFallen 8 (.ifCond .ne) 24 11 := qr_154 0 16 16 (by decide +kernel) rfl
theorem dS_leaveIfFallen_11 : dl tS_leaveIfFallen 11 .aload_n .aload 0 12 := qr_42 (by decide +kernel)
theorem dS_leaveIfFallen_12 : dn tS_leaveIfFallen 12 (.getfield 9) 3 15 := qr_180 0 9 9 (by decide +kernel)
theorem dS_leaveIfFallen_15 : dl tS_leaveIfFallen 15 .iload_n .iload 1 16 := qr_27 (by decide +kernel)
theorem dS_leaveIfFallen_16 : dn tS_leaveIfFallen 16 (.bipush 7) 2 18 := qr_16 7 7 (by decide +kernel)
theorem dS_leaveIfFallen_18 : dn tS_leaveIfFallen 18 (.invokevirtual 66) 3 21 := qr_182 0 66 66 (by decide +kernel)
theorem dS_leaveIfFallen_21 : db tS_leaveIfFallen 21 (.ifCond .gt) 25 24 := qr_157 0 4 4 (by decide +kernel) rfl
theorem dS_leaveIfFallen_24 : dn tS_leaveIfFallen 24 (.return_) 1 25 := qr_177 (by decide +kernel)
theorem dS_leaveIfFallen_25 : dl tS_leaveIfFallen 25 .aload_n .aload 0 26 := qr_42 (by decide +kernel)
theorem dS_leaveIfFallen_26 : dl tS_leaveIfFallen 26 .iload_n .iload 1 27 := qr_27 (by decide +kernel)
theorem dS_leaveIfFallen_27 : dl tS_leaveIfFallen 27 .aload_n .aload 0 28 := qr_42 (by decide +kernel)
theorem dS_leaveIfFallen_28 : dl tS_leaveIfFallen 28 .iload_n .iload 1 29 := qr_27 (by decide +kernel)
theorem dS_leaveIfFallen_29 : dn tS_leaveIfFallen 29 (.invokevirtual 150) 3 32 := qr_182 0 150 150 (by decide +kernel)
theorem dS_leaveIfFallen_32 : dn tS_leaveIfFallen 32 (.invokevirtual 153) 3 35 := qr_182 0 153 153 (by decide +kernel)
theorem dS_leaveIfFallen_35 : dn tS_leaveIfFallen 35 (.return_) 1 36 := qr_177 (by decide +kernel)
theorem dS_refuge_0 : dl tS_refuge 0 .aload_n .aload 0 1 := qr_42 (by decide +kernel)
theorem dS_refuge_1 : dn tS_refuge 1 (.getfield 15) 3 4 := qr_180 0 15 15 (by decide +kernel)
theorem dS_refuge_4 : dl tS_refuge 4 .iload_n .iload 1 5 := qr_27 (by decide +kernel)
theorem dS_refuge_5 : dn tS_refuge 5 (.invokevirtual 157) 3 8 := qr_182 0 157 157 (by decide +kernel)
theorem dS_refuge_8 : dl tS_refuge 8 .istore_n .istore 2 9 := qr_61 (by decide +kernel)
theorem dS_refuge_9 : dn tS_refuge 9 (.iconst 0) 1 10 := qr_3 (by decide +kernel)
theorem dS_refuge_10 : dl tS_refuge 10 .istore_n .istore 3 11 := qr_62 (by decide +kernel)
theorem dS_refuge_11 : dl tS_refuge 11 .iload_n .iload 3 12 := qr_29 (by decide +kernel)
theorem dS_refuge_12 : dl tS_refuge 12 .aload_n .aload 0 13 := qr_42 (by decide +kernel)
theorem dS_refuge_13 : dn tS_refuge 13 (.getfield 9) 3 16 := qr_180 0 9 9 (by decide +kernel)
theorem dS_refuge_16 : dn tS_refuge 16 (.getfield 59) 3 19 := qr_180 0 59 59 (by decide +kernel)
theorem dS_refuge_19 : db tS_refuge 19 (.if_icmp .ge) 50 22 := qr_162 0 31 31 (by decide +kernel) rfl
theorem dS_refuge_22 : dl tS_refuge 22 .iload_n .iload 2 23 := qr_28 (by decide +kernel)
theorem dS_refuge_23 : dl tS_refuge 23 .iload_n .iload 3 24 := qr_29 (by decide +kernel)
theorem dS_refuge_24 : dn tS_refuge 24 (.ishr) 1 25 := qr_122 (by decide +kernel)
theorem dS_refuge_25 : dn tS_refuge 25 (.iconst 1) 1 26 := qr_4 (by decide +kernel)
theorem dS_refuge_26 : dn tS_refuge 26 (.iand) 1 27 := qr_126 (by decide +kernel)
theorem dS_refuge_27 : dn tS_refuge 27 (.iconst 1) 1 28 := qr_4 (by decide +kernel)
theorem dS_refuge_28 : db tS_refuge 28 (.if_icmp .ne) 44 31 := qr_160 0 16 16 (by decide +kernel) rfl
theorem dS_refuge_31 : dl tS_refuge 31 .aload_n .aload 0 32 := qr_42 (by decide +kernel)
theorem dS_refuge_32 : dn tS_refuge 32 (.getfield 9) 3 35 := qr_180 0 9 9 (by decide +kernel)
theorem dS_refuge_35 : dl tS_refuge 35 .iload_n .iload 3 36 := qr_29 (by decide +kernel)
theorem dS_refuge_36 : dn tS_refuge 36 (.invokevirtual 62) 3 39 := qr_182 0 62 62 (by decide +kernel)
theorem dS_refuge_39 : db tS_refuge 39 (.ifCond .eq) 44 42 := qr_153 0 5 5 (by decide +kernel) rfl
theorem dS_refuge_42 : dl tS_refuge 42 .iload_n .iload 3 43 := qr_29 (by decide +kernel)
theorem dS_refuge_43 : dn tS_refuge 43 (.ireturn) 1 44 := qr_172 (by decide +kernel)
theorem dS_refuge_44 : dn tS_refuge 44 (.iinc 3 1) 3 47 := qr_132 3 1 1 (by decide +kernel)
theorem dS_refuge_47 : db tS_refuge 47 .goto 11 50 := qr_167 255 220 (-36) (by decide +kernel) rfl
theorem dS_refuge_50 : dn tS_refuge 50 (.iconst (-1)) 1 51 := qr_2 (by decide +kernel)
theorem dS_refuge_51 : dn tS_refuge 51 (.ireturn) 1 52 := qr_172 (by decide +kernel)
theorem dS_moveLodgers_0 : dl tS_moveLodgers 0 .aload_n .aload 0 1 := qr_42 (by decide +kernel)
theorem dS_moveLodgers_1 : dn tS_moveLodgers 1 (.getfield 9) 3 4 := qr_180 0 9 9 (by decide +kernel)
theorem dS_moveLodgers_4 : dl tS_moveLodgers 4 .iload_n .iload 1 5 := qr_27 (by decide +kernel)
theorem dS_moveLodgers_5 : dn tS_moveLodgers 5 (.bipush 7) 2 7 := qr_16 7 7 (by decide +kernel)
theorem dS_moveLodgers_7 : dn tS_moveLodgers 7 (.invokevirtual 66) 3 10 := qr_182 0 66 66 (by decide +kernel)
theorem dS_moveLodgers_10 : dl tS_moveLodgers 10 .istore_n .istore 3 11 := qr_62 (by decide +kernel)
theorem dS_moveLodgers_11 : dl tS_moveLodgers 11 .aload_n .aload 0 12 := qr_42 (by decide +kernel)
theorem dS_moveLodgers_12 : dn tS_moveLodgers 12 (.getfield 9) 3 15 := qr_180 0 9 9 (by decide +kernel)
theorem dS_moveLodgers_15 : dl tS_moveLodgers 15 .iload_n .iload 1 16 := qr_27 (by decide +kernel)
theorem dS_moveLodgers_16 : dn tS_moveLodgers 16 (.bipush 7) 2 18 := qr_16 7 7 (by decide +kernel)
theorem dS_moveLodgers_18 : dn tS_moveLodgers 18 (.iconst 0) 1 19 := qr_3 (by decide +kernel)
theorem dS_moveLodgers_19 : dn tS_moveLodgers 19 (.invokevirtual 102) 3 22 := qr_182 0 102 102 (by decide +kernel)
theorem dS_moveLodgers_22 : dl tS_moveLodgers 22 .iload_n .iload 2 23 := qr_28 (by decide +kernel)
theorem dS_moveLodgers_23 : dn tS_moveLodgers 23 (.iconst (-1)) 1 24 := qr_2 (by decide +kernel)
theorem dS_moveLodgers_24 : db tS_moveLodgers 24 (.if_icmp .eq) 49 27 := qr_159 0 25 25 (by decide +kernel) rfl
theorem dS_moveLodgers_27 : dl tS_moveLodgers 27 .aload_n .aload 0 28 := qr_42 (by decide +kernel)
theorem dS_moveLodgers_28 : dn tS_moveLodgers 28 (.getfield 9) 3 31 := qr_180 0 9 9 (by decide +kernel)
theorem dS_moveLodgers_31 : dl tS_moveLodgers 31 .iload_n .iload 2 32 := qr_28 (by decide +kernel)
theorem dS_moveLodgers_32 : dn tS_moveLodgers 32 (.bipush 7) 2 34 := qr_16 7 7 (by decide +kernel)
theorem dS_moveLodgers_34 : dl tS_moveLodgers 34 .aload_n .aload 0 35 := qr_42 (by decide +kernel)
theorem dS_moveLodgers_35 : dn tS_moveLodgers 35 (.getfield 9) 3 38 := qr_180 0 9 9 (by decide +kernel)
theorem dS_moveLodgers_38 : dl tS_moveLodgers 38 .iload_n .iload 2 39 := qr_28 (by decide +kernel)
theorem dS_moveLodgers_39 : dn tS_moveLodgers 39 (.bipush 7) 2 41 := qr_16 7 7 (by decide +kernel)
theorem dS_moveLodgers_41 : dn tS_moveLodgers 41 (.invokevirtual 66) 3 44 := qr_182 0 66 66 (by decide +kernel)
theorem dS_moveLodgers_44 : dl tS_moveLodgers 44 .iload_n .iload 3 45 := qr_29 (by decide +kernel)
theorem dS_moveLodgers_45 : dn tS_moveLodgers 45 (.iadd) 1 46 := qr_96 (by decide +kernel)
theorem dS_moveLodgers_46 : dn tS_moveLodgers 46 (.invokevirtual 102) 3 49 := qr_182 0 102 102 (by decide +kernel)
theorem dS_moveLodgers_49 : dl tS_moveLodgers 49 .aload_n .aload 0 50 := qr_42 (by decide +kernel)
theorem dS_moveLodgers_50 : dn tS_moveLodgers 50 (.iconst 4) 1 51 := qr_7 (by decide +kernel)
theorem dS_moveLodgers_51 : dl tS_moveLodgers 51 .iload_n .iload 1 52 := qr_27 (by decide +kernel)
theorem dS_moveLodgers_52 : dl tS_moveLodgers 52 .iload_n .iload 2 53 := qr_28 (by decide +kernel)
theorem dS_moveLodgers_53 : dn tS_moveLodgers 53 (.invokevirtual 160) 3 56 := qr_182 0 160 160 (by decide +kernel)
theorem dS_moveLodgers_56 : dn tS_moveLodgers 56 (.return_) 1 57 := qr_177 (by decide +kernel)
theorem dS_note_0 : dl tS_note 0 .aload_n .aload 0 1 := qr_42 (by decide +kernel)
theorem dS_note_1 : dn tS_note 1 (.getfield 23) 3 4 := qr_180 0 23 23 (by decide +kernel)
theorem dS_note_4 : db tS_note 4 (.ifCond .eq) 29 7 := qr_153 0 25 25 (by decide +kernel) rfl
theorem dS_note_7 : dl tS_note 7 .aload_n .aload 0 8 := qr_42 (by decide +kernel)
theorem dS_note_8 : dn tS_note 8 (.getfield 15) 3 11 := qr_180 0 15 15 (by decide +kernel)
theorem dS_note_11 : dn tS_note 11 (.getfield 163) 3 14 := qr_180 0 163 163 (by decide +kernel)
theorem dS_note_14 : dl tS_note 14 .aload_n .aload 0 15 := qr_42 (by decide +kernel)
theorem dS_note_15 : dn tS_note 15 (.getfield 9) 3 18 := qr_180 0 9 9 (by decide +kernel)
theorem dS_note_18 : dn tS_note 18 (.getfield 46) 3 21 := qr_180 0 46 46 (by decide +kernel)
theorem dS_note_21 : dl tS_note 21 .iload_n .iload 1 22 := qr_27 (by decide +kernel)
theorem dS_note_22 : dl tS_note 22 .iload_n .iload 2 23 := qr_28 (by decide +kernel)
theorem dS_note_23 : dl tS_note 23 .iload_n .iload 3 24 := qr_29 (by decide +kernel)
theorem dS_note_24 : dn tS_note 24 (.iconst 0) 1 25 := qr_3 (by decide +kernel)
theorem dS_note_25 : dn tS_note 25 (.invokevirtual 166) 3 28 := qr_182 0 166 166 (by decide +kernel)
theorem dS_note_28 : dn tS_note 28 (.pop) 1 29 := qr_87 (by decide +kernel)
theorem dS_note_29 : dn tS_note 29 (.return_) 1 30 := qr_177 (by decide +kernel)
theorem dS_noteIfAny_0 : dl tS_noteIfAny 0 .iload_n .iload 3 1 := qr_29 (by decide +kernel)
theorem dS_noteIfAny_1 : db tS_noteIfAny 1 (.ifCond .le) 11 4 := qr_158 0 10 10 (by decide +kernel) rfl
theorem dS_noteIfAny_4 : dl tS_noteIfAny 4 .aload_n .aload 0 5 := qr_42 (by decide +kernel)
theorem dS_noteIfAny_5 : dl tS_noteIfAny 5 .iload_n .iload 1 6 := qr_27 (by decide +kernel)
theorem dS_noteIfAny_6 : dl tS_noteIfAny 6 .iload_n .iload 2 7 := qr_28 (by decide +kernel)
theorem dS_noteIfAny_7 : dl tS_noteIfAny 7 .iload_n .iload 3 8 := qr_29 (by decide +kernel)
theorem dS_noteIfAny_8 : dn tS_noteIfAny 8 (.invokevirtual 160) 3 11 := qr_182 0 160 160 (by decide +kernel)
theorem dS_noteIfAny_11 : dn tS_noteIfAny 11 (.return_) 1 12 := qr_177 (by decide +kernel)
theorem dS_mayAct_0 : dl tS_mayAct 0 .aload_n .aload 0 1 := qr_42 (by decide +kernel)
theorem dS_mayAct_1 : dn tS_mayAct 1 (.getfield 9) 3 4 := qr_180 0 9 9 (by decide +kernel)
theorem dS_mayAct_4 : dl tS_mayAct 4 .iload_n .iload 2 5 := qr_28 (by decide +kernel)
theorem dS_mayAct_5 : dn tS_mayAct 5 (.invokevirtual 170) 3 8 := qr_182 0 170 170 (by decide +kernel)
theorem dS_mayAct_8 : db tS_mayAct 8 (.ifCond .ne) 13 11 := qr_154 0 5 5 (by decide +kernel) rfl
theorem dS_mayAct_11 : dn tS_mayAct 11 (.iconst 0) 1 12 := qr_3 (by decide +kernel)
theorem dS_mayAct_12 : dn tS_mayAct 12 (.ireturn) 1 13 := qr_172 (by decide +kernel)
theorem dS_mayAct_13 : dl tS_mayAct 13 .iload_n .iload 1 14 := qr_27 (by decide +kernel)
theorem dS_mayAct_14 : dn tS_mayAct 14 (.iconst 0) 1 15 := qr_3 (by decide +kernel)
theorem dS_mayAct_15 : dn tS_mayAct 15 (.iconst 3) 1 16 := qr_6 (by decide +kernel)
theorem dS_mayAct_16 : dn tS_mayAct 16 (.invokestatic 173) 3 19 := qr_184 0 173 173 (by decide +kernel)
theorem dS_mayAct_19 : db tS_mayAct 19 (.ifCond .eq) 37 22 := qr_153 0 18 18 (by decide +kernel) rfl
theorem dS_mayAct_22 : dl tS_mayAct 22 .iload_n .iload 3 23 := qr_29 (by decide +kernel)
theorem dS_mayAct_23 : dn tS_mayAct 23 (.iconst 1) 1 24 := qr_4 (by decide +kernel)
theorem dS_mayAct_24 : dl tS_mayAct 24 .aload_n .aload 0 25 := qr_42 (by decide +kernel)
theorem dS_mayAct_25 : dn tS_mayAct 25 (.getfield 9) 3 28 := qr_180 0 9 9 (by decide +kernel)
theorem dS_mayAct_28 : dl tS_mayAct 28 .iload_n .iload 2 29 := qr_28 (by decide +kernel)
theorem dS_mayAct_29 : dl tS_mayAct 29 .iload_n .iload 1 30 := qr_27 (by decide +kernel)
theorem dS_mayAct_30 : dn tS_mayAct 30 (.invokevirtual 66) 3 33 := qr_182 0 66 66 (by decide +kernel)
theorem dS_mayAct_33 : dn tS_mayAct 33 (.invokestatic 173) 3 36 := qr_184 0 173 173 (by decide +kernel)
theorem dS_mayAct_36 : dn tS_mayAct 36 (.ireturn) 1 37 := qr_172 (by decide +kernel)
theorem dS_mayAct_37 : dl tS_mayAct 37 .iload_n .iload 1 38 := qr_27 (by decide +kernel)
theorem dS_mayAct_38 : dn tS_mayAct 38 (.bipush 10) 2 40 := qr_16 10 10 (by decide +kernel)
theorem dS_mayAct_40 : dn tS_mayAct 40 (.bipush 13) 2 42 := qr_16 13 13 (by decide +kernel)
theorem dS_mayAct_42 : dn tS_mayAct 42 (.invokestatic 173) 3 45 := qr_184 0 173 173 (by decide +kernel)
theorem dS_mayAct_45 : db tS_mayAct 45 (.ifCond .eq) 56 48 := qr_153 0 11 11 (by decide +kernel) rfl
theorem dS_mayAct_48 : dl tS_mayAct 48 .iload_n .iload 3 49 := qr_29 (by decide +kernel)
theorem dS_mayAct_49 : dn tS_mayAct 49 (.iconst 1) 1 50 := qr_4 (by decide +kernel)
theorem dS_mayAct_50 : dn tS_mayAct 50 (.bipush 99) 2 52 := qr_16 99 99 (by decide +kernel)
theorem dS_mayAct_52 : dn tS_mayAct 52 (.invokestatic 173) 3 55 := qr_184 0 173 173 (by decide +kernel)
theorem dS_mayAct_55 : dn tS_mayAct 55 (.ireturn) 1 56 := qr_172 (by decide +kernel)
theorem dS_mayAct_56 : dl tS_mayAct 56 .iload_n .iload 1 57 := qr_27 (by decide +kernel)
theorem dS_mayAct_57 : dsw tS_mayAct 57 [(20, 84), (21, 90), (22, 136)] 145 := dsw_t 88 20 22 #[27, 33, 79] 27 (by decide +kernel) (by decide) (by decide) (by decide +kernel)
theorem dS_mayAct_84 : dl tS_mayAct 84 .aload_n .aload 0 85 := qr_42 (by decide +kernel)
theorem dS_mayAct_85 : dl tS_mayAct 85 .iload_n .iload 2 86 := qr_28 (by decide +kernel)
theorem dS_mayAct_86 : dn tS_mayAct 86 (.invokevirtual 109) 3 89 := qr_182 0 109 109 (by decide +kernel)
theorem dS_mayAct_89 : dn tS_mayAct 89 (.ireturn) 1 90 := qr_172 (by decide +kernel)
theorem dS_mayAct_90 : dl tS_mayAct 90 .aload_n .aload 0 91 := qr_42 (by decide +kernel)
theorem dS_mayAct_91 : dn tS_mayAct 91 (.getfield 9) 3 94 := qr_180 0 9 9 (by decide +kernel)
theorem dS_mayAct_94 : dl tS_mayAct 94 .iload_n .iload 2 95 := qr_28 (by decide +kernel)
theorem dS_mayAct_95 : dn tS_mayAct 95 (.bipush 7) 2 97 := qr_16 7 7 (by decide +kernel)
theorem dS_mayAct_97 : dn tS_mayAct 97 (.invokevirtual 66) 3 100 := qr_182 0 66 66 (by decide +kernel)
theorem dS_mayAct_100 : db tS_mayAct 100 (.ifCond .le) 134 103 := qr_158 0 34 34 (by decide +kernel) rfl
theorem dS_mayAct_103 : dl tS_mayAct 103 .iload_n .iload 3 104 := qr_29 (by decide +kernel)
theorem dS_mayAct_104 : dl tS_mayAct 104 .iload_n .iload 2 105 := qr_28 (by decide +kernel)
theorem dS_mayAct_105 : db tS_mayAct 105 (.if_icmp .eq) 134 108 := qr_159 0 29 29 (by decide +kernel) rfl
theorem dS_mayAct_108 : dl tS_mayAct 108 .aload_n .aload 0 109 := qr_42 (by decide +kernel)
theorem dS_mayAct_109 : dn tS_mayAct 109 (.getfield 9) 3 112 := qr_180 0 9 9 (by decide +kernel)
theorem dS_mayAct_112 : dl tS_mayAct 112 .iload_n .iload 3 113 := qr_29 (by decide +kernel)
theorem dS_mayAct_113 : dn tS_mayAct 113 (.invokevirtual 170) 3 116 := qr_182 0 170 170 (by decide +kernel)
theorem dS_mayAct_116 : db tS_mayAct 116 (.ifCond .eq) 134 119 := qr_153 0 18 18 (by decide +kernel) rfl
theorem dS_mayAct_119 : dl tS_mayAct 119 .aload_n .aload 0 120 := qr_42 (by decide +kernel)
theorem dS_mayAct_120 : dn tS_mayAct 120 (.getfield 9) 3 123 := qr_180 0 9 9 (by decide +kernel)
theorem dS_mayAct_123 : dl tS_mayAct 123 .iload_n .iload 3 124 := qr_29 (by decide +kernel)
theorem dS_mayAct_124 : dn tS_mayAct 124 (.invokevirtual 62) 3 127 := qr_182 0 62 62 (by decide +kernel)
theorem dS_mayAct_127 : db tS_mayAct 127 (.ifCond .eq) 134 130 := qr_153 0 7 7 (by decide +kernel) rfl
theorem dS_mayAct_130 : dn tS_mayAct 130 (.iconst 1) 1 131 := qr_4 (by decide +kernel)
theorem dS_mayAct_131 : db tS_mayAct 131 .goto 135 134 := qr_167 0 4 4 (by decide +kernel) rfl
theorem dS_mayAct_134 : dn tS_mayAct 134 (.iconst 0) 1 135 := qr_3 (by decide +kernel)
theorem dS_mayAct_135 : dn tS_mayAct 135 (.ireturn) 1 136 := qr_172 (by decide +kernel)
theorem dS_mayAct_136 : dl tS_mayAct 136 .aload_n .aload 0 137 := qr_42 (by decide +kernel)
theorem dS_mayAct_137 : dn tS_mayAct 137 (.getfield 9) 3 140 := qr_180 0 9 9 (by decide +kernel)
theorem dS_mayAct_140 : dl tS_mayAct 140 .iload_n .iload 2 141 := qr_28 (by decide +kernel)
theorem dS_mayAct_141 : dn tS_mayAct 141 (.invokevirtual 62) 3 144 := qr_182 0 62 62 (by decide +kernel)
theorem dS_mayAct_144 : dn tS_mayAct 144 (.ireturn) 1 145 := qr_172 (by decide +kernel)
theorem dS_mayAct_145 : dn tS_mayAct 145 (.iconst 0) 1 146 := qr_3 (by decide +kernel)
theorem dS_mayAct_146 : dn tS_mayAct 146 (.ireturn) 1 147 := qr_172 (by decide +kernel)
theorem dS_actByHand_0 : dl tS_actByHand 0 .iload_n .iload 1 1 := qr_27 (by decide +kernel)
theorem dS_actByHand_1 : dn tS_actByHand 1 (.iconst 0) 1 2 := qr_3 (by decide +kernel)
theorem dS_actByHand_2 : dn tS_actByHand 2 (.iconst 3) 1 3 := qr_6 (by decide +kernel)
theorem dS_actByHand_3 : dn tS_actByHand 3 (.invokestatic 173) 3 6 := qr_184 0 173 173 (by decide +kernel)
theorem dS_actByHand_6 : db tS_actByHand 6 (.ifCond .eq) 19 9 := qr_153 0 13 13 (by decide +kernel) rfl
theorem dS_actByHand_9 : dl tS_actByHand 9 .aload_n .aload 0 10 := qr_42 (by decide +kernel)
theorem dS_actByHand_10 : dl tS_actByHand 10 .iload_n .iload 2 11 := qr_28 (by decide +kernel)
theorem dS_actByHand_11 : dl tS_actByHand 11 .iload_n .iload 1 12 := qr_27 (by decide +kernel)
theorem dS_actByHand_12 : dl tS_actByHand 12 .iload_n .iload 3 13 := qr_29 (by decide +kernel)
theorem dS_actByHand_13 : dn tS_actByHand 13 (.invokevirtual 177) 3 16 := qr_182 0 177 177 (by decide +kernel)
theorem dS_actByHand_16 : db tS_actByHand 16 .goto 86 19 := qr_167 0 70 70 (by decide +kernel) rfl
theorem dS_actByHand_19 : dl tS_actByHand 19 .iload_n .iload 1 20 := qr_27 (by decide +kernel)
theorem dS_actByHand_20 : dn tS_actByHand 20 (.bipush 10) 2 22 := qr_16 10 10 (by decide +kernel)
theorem dS_actByHand_22 : dn tS_actByHand 22 (.bipush 13) 2 24 := qr_16 13 13 (by decide +kernel)
theorem dS_actByHand_24 : dn tS_actByHand 24 (.invokestatic 173) 3 27 := qr_184 0 173 173 (by decide +kernel)
theorem dS_actByHand_27 : db tS_actByHand 27 (.ifCond .eq) 46 30 := qr_153 0 19 19 (by decide +kernel) rfl
theorem dS_actByHand_30 : dl tS_actByHand 30 .aload_n .aload 0 31 := qr_42 (by decide +kernel)
theorem dS_actByHand_31 : dn tS_actByHand 31 (.getfield 9) 3 34 := qr_180 0 9 9 (by decide +kernel)
theorem dS_actByHand_34 : dl tS_actByHand 34 .iload_n .iload 2 35 := qr_28 (by decide +kernel)
theorem dS_actByHand_35 : dl tS_actByHand 35 .iload_n .iload 1 36 := qr_27 (by decide +kernel)
theorem dS_actByHand_36 : dn tS_actByHand 36 (.bipush 10) 2 38 := qr_16 10 10 (by decide +kernel)
theorem dS_actByHand_38 : dn tS_actByHand 38 (.isub) 1 39 := qr_100 (by decide +kernel)
theorem dS_actByHand_39 : dl tS_actByHand 39 .iload_n .iload 3 40 := qr_29 (by decide +kernel)
theorem dS_actByHand_40 : dn tS_actByHand 40 (.invokevirtual 106) 3 43 := qr_182 0 106 106 (by decide +kernel)
theorem dS_actByHand_43 : db tS_actByHand 43 .goto 86 46 := qr_167 0 43 43 (by decide +kernel) rfl
theorem dS_actByHand_46 : dl tS_actByHand 46 .iload_n .iload 1 47 := qr_27 (by decide +kernel)
theorem dS_actByHand_47 : dn tS_actByHand 47 (.bipush 20) 2 49 := qr_16 20 20 (by decide +kernel)
theorem dS_actByHand_49 : db tS_actByHand 49 (.if_icmp .ne) 60 52 := qr_160 0 11 11 (by decide +kernel) rfl
theorem dS_actByHand_52 : dl tS_actByHand 52 .aload_n .aload 0 53 := qr_42 (by decide +kernel)
theorem dS_actByHand_53 : dl tS_actByHand 53 .iload_n .iload 2 54 := qr_28 (by decide +kernel)
theorem dS_actByHand_54 : dn tS_actByHand 54 (.invokevirtual 112) 3 57 := qr_182 0 112 112 (by decide +kernel)
theorem dS_actByHand_57 : db tS_actByHand 57 .goto 86 60 := qr_167 0 29 29 (by decide +kernel) rfl
theorem dS_actByHand_60 : dl tS_actByHand 60 .iload_n .iload 1 61 := qr_27 (by decide +kernel)
theorem dS_actByHand_61 : dn tS_actByHand 61 (.bipush 21) 2 63 := qr_16 21 21 (by decide +kernel)
theorem dS_actByHand_63 : db tS_actByHand 63 (.if_icmp .ne) 75 66 := qr_160 0 12 12 (by decide +kernel) rfl
theorem dS_actByHand_66 : dl tS_actByHand 66 .aload_n .aload 0 67 := qr_42 (by decide +kernel)
theorem dS_actByHand_67 : dl tS_actByHand 67 .iload_n .iload 2 68 := qr_28 (by decide +kernel)
theorem dS_actByHand_68 : dl tS_actByHand 68 .iload_n .iload 3 69 := qr_29 (by decide +kernel)
theorem dS_actByHand_69 : dn tS_actByHand 69 (.invokevirtual 153) 3 72 := qr_182 0 153 153 (by decide +kernel)
theorem dS_actByHand_72 : db tS_actByHand 72 .goto 86 75 := qr_167 0 14 14 (by decide +kernel) rfl
theorem dS_actByHand_75 : dl tS_actByHand 75 .iload_n .iload 1 76 := qr_27 (by decide +kernel)
theorem dS_actByHand_76 : dn tS_actByHand 76 (.bipush 22) 2 78 := qr_16 22 22 (by decide +kernel)
theorem dS_actByHand_78 : db tS_actByHand 78 (.if_icmp .ne) 86 81 := qr_160 0 8 8 (by decide +kernel) rfl
theorem dS_actByHand_81 : dl tS_actByHand 81 .aload_n .aload 0 82 := qr_42 (by decide +kernel)
theorem dS_actByHand_82 : dl tS_actByHand 82 .iload_n .iload 2 83 := qr_28 (by decide +kernel)
theorem dS_actByHand_83 : dn tS_actByHand 83 (.invokevirtual 115) 3 86 := qr_182 0 115 115 (by decide +kernel)
theorem dS_actByHand_86 : dn tS_actByHand 86 (.return_) 1 87 := qr_177 (by decide +kernel)
theorem dS_nibble_0 : dl tS_nibble 0 .aload_n .aload 0 1 := qr_42 (by decide +kernel)
theorem dS_nibble_1 : dn tS_nibble 1 (.getfield 9) 3 4 := qr_180 0 9 9 (by decide +kernel)
theorem dS_nibble_4 : dn tS_nibble 4 (.dup) 1 5 := qr_89 (by decide +kernel)
theorem dS_nibble_5 : dn tS_nibble 5 (.getfield 132) 3 8 := qr_180 0 132 132 (by decide +kernel)
theorem dS_nibble_8 : dl tS_nibble 8 .aload_n .aload 0 9 := qr_42 (by decide +kernel)
theorem dS_nibble_9 : dn tS_nibble 9 (.getfield 9) 3 12 := qr_180 0 9 9 (by decide +kernel)
theorem dS_nibble_12 : dl tS_nibble 12 .iload_n .iload 1 13 := qr_27 (by decide +kernel)
theorem dS_nibble_13 : dl tS_nibble 13 .iload_n .iload 2 14 := qr_28 (by decide +kernel)
theorem dS_nibble_14 : dl tS_nibble 14 .iload_n .iload 3 15 := qr_29 (by decide +kernel)
theorem dS_nibble_15 : dn tS_nibble 15 (.invokevirtual 128) 3 18 := qr_182 0 128 128 (by decide +kernel)
theorem dS_nibble_18 : dn tS_nibble 18 (.iadd) 1 19 := qr_96 (by decide +kernel)
theorem dS_nibble_19 : dn tS_nibble 19 (.putfield 132) 3 22 := qr_181 0 132 132 (by decide +kernel)
theorem dS_nibble_22 : dl tS_nibble 22 .aload_n .aload 0 23 := qr_42 (by decide +kernel)
theorem dS_nibble_23 : dn tS_nibble 23 (.iconst 0) 1 24 := qr_3 (by decide +kernel)
theorem dS_nibble_24 : dl tS_nibble 24 .iload_n .iload 1 25 := qr_27 (by decide +kernel)
theorem dS_nibble_25 : dl tS_nibble 25 .iload_n .iload 3 26 := qr_29 (by decide +kernel)
theorem dS_nibble_26 : dn tS_nibble 26 (.invokevirtual 160) 3 29 := qr_182 0 160 160 (by decide +kernel)
theorem dS_nibble_29 : dl tS_nibble 29 .aload_n .aload 0 30 := qr_42 (by decide +kernel)
theorem dS_nibble_30 : dl tS_nibble 30 .iload_n .iload 1 31 := qr_27 (by decide +kernel)
theorem dS_nibble_31 : dn tS_nibble 31 (.invokevirtual 82) 3 34 := qr_182 0 82 82 (by decide +kernel)
theorem dS_nibble_34 : dn tS_nibble 34 (.return_) 1 35 := qr_177 (by decide +kernel)
theorem dS_mayWed_0 : dl tS_mayWed 0 .aload_n .aload 0 1 := qr_42 (by decide +kernel)
theorem dS_mayWed_1 : dn tS_mayWed 1 (.getfield 9) 3 4 := qr_180 0 9 9 (by decide +kernel)
theorem dS_mayWed_4 : dl tS_mayWed 4 .iload_n .iload 1 5 := qr_27 (by decide +kernel)
theorem dS_mayWed_5 : dn tS_mayWed 5 (.invokevirtual 62) 3 8 := qr_182 0 62 62 (by decide +kernel)
theorem dS_mayWed_8 : db tS_mayWed 8 (.ifCond .eq) 41 11 := qr_153 0 33 33 (by decide +kernel) rfl
theorem dS_mayWed_11 : dl tS_mayWed 11 .aload_n .aload 0 12 := qr_42 (by decide +kernel)
theorem dS_mayWed_12 : dn tS_mayWed 12 (.getfield 9) 3 15 := qr_180 0 9 9 (by decide +kernel)
theorem dS_mayWed_15 : dl tS_mayWed 15 .iload_n .iload 1 16 := qr_27 (by decide +kernel)
theorem dS_mayWed_16 : dn tS_mayWed 16 (.bipush 9) 2 18 := qr_16 9 9 (by decide +kernel)
theorem dS_mayWed_18 : dn tS_mayWed 18 (.invokevirtual 66) 3 21 := qr_182 0 66 66 (by decide +kernel)
theorem dS_mayWed_21 : db tS_mayWed 21 (.ifCond .ne) 41 24 := qr_154 0 20 20 (by decide +kernel) rfl
theorem dS_mayWed_24 : dl tS_mayWed 24 .aload_n .aload 0 25 := qr_42 (by decide +kernel)
theorem dS_mayWed_25 : dn tS_mayWed 25 (.getfield 9) 3 28 := qr_180 0 9 9 (by decide +kernel)
theorem dS_mayWed_28 : dl tS_mayWed 28 .iload_n .iload 1 29 := qr_27 (by decide +kernel)
theorem dS_mayWed_29 : dn tS_mayWed 29 (.bipush 7) 2 31 := qr_16 7 7 (by decide +kernel)
theorem dS_mayWed_31 : dn tS_mayWed 31 (.invokevirtual 66) 3 34 := qr_182 0 66 66 (by decide +kernel)
theorem dS_mayWed_34 : db tS_mayWed 34 (.ifCond .le) 41 37 := qr_158 0 7 7 (by decide +kernel) rfl
theorem dS_mayWed_37 : dn tS_mayWed 37 (.iconst 1) 1 38 := qr_4 (by decide +kernel)
theorem dS_mayWed_38 : db tS_mayWed 38 .goto 42 41 := qr_167 0 4 4 (by decide +kernel) rfl
theorem dS_mayWed_41 : dn tS_mayWed 41 (.iconst 0) 1 42 := qr_3 (by decide +kernel)
theorem dS_mayWed_42 : dn tS_mayWed 42 (.ireturn) 1 43 := qr_172 (by decide +kernel)
theorem dS_wed_0 : dl tS_wed 0 .aload_n .aload 0 1 := qr_42 (by decide +kernel)
theorem dS_wed_1 : dn tS_wed 1 (.getfield 9) 3 4 := qr_180 0 9 9 (by decide +kernel)
theorem dS_wed_4 : dl tS_wed 4 .iload_n .iload 1 5 := qr_27 (by decide +kernel)
theorem dS_wed_5 : dn tS_wed 5 (.bipush 9) 2 7 := qr_16 9 9 (by decide +kernel)
theorem dS_wed_7 : dn tS_wed 7 (.iconst 1) 1 8 := qr_4 (by decide +kernel)
theorem dS_wed_8 : dn tS_wed 8 (.invokevirtual 102) 3 11 := qr_182 0 102 102 (by decide +kernel)
theorem dS_wed_11 : dl tS_wed 11 .aload_n .aload 0 12 := qr_42 (by decide +kernel)
theorem dS_wed_12 : dn tS_wed 12 (.getfield 9) 3 15 := qr_180 0 9 9 (by decide +kernel)
theorem dS_wed_15 : dl tS_wed 15 .iload_n .iload 1 16 := qr_27 (by decide +kernel)
theorem dS_wed_16 : dl tS_wed 16 .aload_n .aload 0 17 := qr_42 (by decide +kernel)
theorem dS_wed_17 : dn tS_wed 17 (.getfield 9) 3 20 := qr_180 0 9 9 (by decide +kernel)
theorem dS_wed_20 : dl tS_wed 20 .iload_n .iload 1 21 := qr_27 (by decide +kernel)
theorem dS_wed_21 : dn tS_wed 21 (.invokevirtual 118) 3 24 := qr_182 0 118 118 (by decide +kernel)
theorem dS_wed_24 : dn tS_wed 24 (.bipush 10) 2 26 := qr_16 10 10 (by decide +kernel)
theorem dS_wed_26 : dn tS_wed 26 (.invokevirtual 128) 3 29 := qr_182 0 128 128 (by decide +kernel)
theorem dS_wed_29 : dn tS_wed 29 (.pop) 1 30 := qr_87 (by decide +kernel)
theorem dS_wed_30 : dl tS_wed 30 .aload_n .aload 0 31 := qr_42 (by decide +kernel)
theorem dS_wed_31 : dn tS_wed 31 (.getfield 9) 3 34 := qr_180 0 9 9 (by decide +kernel)
theorem dS_wed_34 : dl tS_wed 34 .iload_n .iload 1 35 := qr_27 (by decide +kernel)
theorem dS_wed_35 : dn tS_wed 35 (.bipush 7) 2 37 := qr_16 7 7 (by decide +kernel)
theorem dS_wed_37 : dn tS_wed 37 (.invokevirtual 66) 3 40 := qr_182 0 66 66 (by decide +kernel)
theorem dS_wed_40 : dn tS_wed 40 (.iconst 1) 1 41 := qr_4 (by decide +kernel)
theorem dS_wed_41 : dn tS_wed 41 (.iadd) 1 42 := qr_96 (by decide +kernel)
theorem dS_wed_42 : dl tS_wed 42 .istore_n .istore 2 43 := qr_61 (by decide +kernel)
theorem dS_wed_43 : dl tS_wed 43 .aload_n .aload 0 44 := qr_42 (by decide +kernel)
theorem dS_wed_44 : dn tS_wed 44 (.getfield 9) 3 47 := qr_180 0 9 9 (by decide +kernel)
theorem dS_wed_47 : dl tS_wed 47 .iload_n .iload 1 48 := qr_27 (by decide +kernel)
theorem dS_wed_48 : dn tS_wed 48 (.bipush 7) 2 50 := qr_16 7 7 (by decide +kernel)
theorem dS_wed_50 : dl tS_wed 50 .iload_n .iload 2 51 := qr_28 (by decide +kernel)
theorem dS_wed_51 : dn tS_wed 51 (.invokevirtual 102) 3 54 := qr_182 0 102 102 (by decide +kernel)
theorem dS_wed_54 : dl tS_wed 54 .aload_n .aload 0 55 := qr_42 (by decide +kernel)
theorem dS_wed_55 : dn tS_wed 55 (.iconst 5) 1 56 := qr_8 (by decide +kernel)
theorem dS_wed_56 : dl tS_wed 56 .iload_n .iload 1 57 := qr_27 (by decide +kernel)
theorem dS_wed_57 : dl tS_wed 57 .iload_n .iload 2 58 := qr_28 (by decide +kernel)
theorem dS_wed_58 : dn tS_wed 58 (.invokevirtual 160) 3 61 := qr_182 0 160 160 (by decide +kernel)
theorem dS_wed_61 : dl tS_wed 61 .aload_n .aload 0 62 := qr_42 (by decide +kernel)
theorem dS_wed_62 : dl tS_wed 62 .iload_n .iload 1 63 := qr_27 (by decide +kernel)
theorem dS_wed_63 : dn tS_wed 63 (.invokevirtual 82) 3 66 := qr_182 0 82 82 (by decide +kernel)
theorem dS_wed_66 : dn tS_wed 66 (.return_) 1 67 := qr_177 (by decide +kernel)
theorem dS_raze_0 : dn tS_raze 0 (.iconst 0) 1 1 := qr_3 (by decide +kernel)
theorem dS_raze_1 : dl tS_raze 1 .istore_n .istore 2 2 := qr_61 (by decide +kernel)
theorem dS_raze_2 : dl tS_raze 2 .iload_n .iload 2 3 := qr_28 (by decide +kernel)
theorem dS_raze_3 : dn tS_raze 3 (.iconst 4) 1 4 := qr_7 (by decide +kernel)
theorem dS_raze_4 : db tS_raze 4 (.if_icmp .ge) 23 7 := qr_162 0 19 19 (by decide +kernel) rfl
theorem dS_raze_7 : dl tS_raze 7 .aload_n .aload 0 8 := qr_42 (by decide +kernel)
theorem dS_raze_8 : dn tS_raze 8 (.getfield 9) 3 11 := qr_180 0 9 9 (by decide +kernel)
theorem dS_raze_11 : dl tS_raze 11 .iload_n .iload 1 12 := qr_27 (by decide +kernel)
theorem dS_raze_12 : dl tS_raze 12 .iload_n .iload 2 13 := qr_28 (by decide +kernel)
theorem dS_raze_13 : dn tS_raze 13 (.iconst 0) 1 14 := qr_3 (by decide +kernel)
theorem dS_raze_14 : dn tS_raze 14 (.invokevirtual 102) 3 17 := qr_182 0 102 102 (by decide +kernel)
theorem dS_raze_17 : dn tS_raze 17 (.iinc 2 1) 3 20 := qr_132 2 1 1 (by decide +kernel)
theorem dS_raze_20 : db tS_raze 20 .goto 2 23 := qr_167 255 238 (-18) (by decide +kernel) rfl
theorem dS_raze_23 : dl tS_raze 23 .aload_n .aload 0 24 := qr_42 (by decide +kernel)
theorem dS_raze_24 : dl tS_raze 24 .iload_n .iload 1 25 := qr_27 (by decide +kernel)
theorem dS_raze_25 : dn tS_raze 25 (.invokevirtual 82) 3 28 := qr_182 0 82 82 (by decide +kernel)
theorem dS_raze_28 : dn tS_raze 28 (.return_) 1 29 := qr_177 (by decide +kernel)
def tD_forgetFault : MM := (⟨"GingerRents$Reader", "forgetFault", "()V"⟩, prog_6_method_2_code, 1, none)
theorem okD_forgetFault : mV tD_forgetFault 0 := ⟨⟨tb_in (ch_3_10 _ (List.mem_of_getElem? (i := 13) rfl)) rfl, tb_in (ch_1_0 _ (List.mem_of_getElem? (i := 10) rfl)) rfl, ⟨cq_15.1, cq_15.2, by decide +kernel⟩, by decide⟩, tb_in (ch_3_10 _ (List.mem_of_getElem? (i := 11) rfl)) rfl, tb_in (ch_3_10 _ (List.mem_of_getElem? (i := 12) rfl)) rfl⟩
def tD_reads : MM := (⟨"GingerRents$Reader", "reads", "(II)Z"⟩, prog_6_method_3_code, 5, (some .boolean))
theorem okD_reads : mV tD_reads 2 := ⟨⟨tb_in (ch_3_11 _ (List.mem_of_getElem? (i := 1) rfl)) rfl, tb_in (ch_1_0 _ (List.mem_of_getElem? (i := 10) rfl)) rfl, ⟨cq_15.1, cq_15.2, by decide +kernel⟩, by decide⟩, tb_in (ch_3_10 _ (List.mem_of_getElem? (i := 15) rfl)) rfl, tb_in (ch_3_11 _ (List.mem_of_getElem? (i := 0) rfl)) rfl⟩
def tD_wordsOf : MM := (⟨"GingerRents$Reader", "wordsOf", "(I)Ljava/lang/String;"⟩, prog_6_method_4_code, 1, (Option.some (.object "java/lang/String")))
theorem okD_wordsOf : mS tD_wordsOf 1 := ⟨⟨tb_in (ch_3_11 _ (List.mem_of_getElem? (i := 4) rfl)) rfl, tb_in (ch_1_0 _ (List.mem_of_getElem? (i := 10) rfl)) rfl, ⟨cq_15.1, cq_15.2, by decide +kernel⟩, by decide⟩, tb_in (ch_3_11 _ (List.mem_of_getElem? (i := 3) rfl)) rfl⟩
def tD_lawLine : MM := (⟨"GingerRents$Reader", "lawLine", "()Z"⟩, prog_6_method_5_code, 4, (some .boolean))
theorem okD_lawLine : mV tD_lawLine 0 := ⟨⟨tb_in (ch_4_6 _ (List.mem_of_getElem? (i := 10) rfl)) rfl, tb_in (ch_1_0 _ (List.mem_of_getElem? (i := 10) rfl)) rfl, ⟨cq_15.1, cq_15.2, by decide +kernel⟩, by decide⟩, tb_in (ch_4_6 _ (List.mem_of_getElem? (i := 9) rfl)) rfl, tb_in (cs_2 _ (List.mem_of_getElem? (i := 15) (a := (⟨"GingerRents$Reader", "lawLine", "()Z"⟩, 10)) rfl)) rfl⟩
def tD_skyLine : MM := (⟨"GingerRents$Reader", "skyLine", "()Z"⟩, prog_6_method_6_code, 4, (some .boolean))
theorem okD_skyLine : mV tD_skyLine 0 := ⟨⟨tb_in (ch_4_9 _ (List.mem_of_getElem? (i := 4) rfl)) rfl, tb_in (ch_1_0 _ (List.mem_of_getElem? (i := 10) rfl)) rfl, ⟨cq_15.1, cq_15.2, by decide +kernel⟩, by decide⟩, tb_in (ch_4_9 _ (List.mem_of_getElem? (i := 3) rfl)) rfl, tb_in (cs_3 _ (List.mem_of_getElem? (i := 9) (a := (⟨"GingerRents$Reader", "skyLine", "()Z"⟩, 10)) rfl)) rfl⟩
def tD_officeLine : MM := (⟨"GingerRents$Reader", "officeLine", "()Z"⟩, prog_6_method_7_code, 6, (some .boolean))
theorem okD_officeLine : mV tD_officeLine 0 := ⟨⟨tb_in (ch_4_9 _ (List.mem_of_getElem? (i := 8) rfl)) rfl, tb_in (ch_1_0 _ (List.mem_of_getElem? (i := 10) rfl)) rfl, ⟨cq_15.1, cq_15.2, by decide +kernel⟩, by decide⟩, tb_in (ch_4_9 _ (List.mem_of_getElem? (i := 7) rfl)) rfl, tb_in (cs_3 _ (List.mem_of_getElem? (i := 10) (a := (⟨"GingerRents$Reader", "officeLine", "()Z"⟩, 10)) rfl)) rfl⟩
def tD_nextLine : MM := (⟨"GingerRents$Reader", "nextLine", "()Z"⟩, prog_6_method_8_code, 2, (some .boolean))
theorem okD_nextLine : mV tD_nextLine 0 := ⟨⟨tb_in (ch_4_9 _ (List.mem_of_getElem? (i := 12) rfl)) rfl, tb_in (ch_1_0 _ (List.mem_of_getElem? (i := 10) rfl)) rfl, ⟨cq_15.1, cq_15.2, by decide +kernel⟩, by decide⟩, tb_in (ch_4_9 _ (List.mem_of_getElem? (i := 11) rfl)) rfl, tb_in (cs_3 _ (List.mem_of_getElem? (i := 11) (a := (⟨"GingerRents$Reader", "nextLine", "()Z"⟩, 10)) rfl)) rfl⟩
def tD_expression : MM := (⟨"GingerRents$Reader", "expression", "()Z"⟩, prog_6_method_9_code, 4, (some .boolean))
theorem okD_expression : mV tD_expression 0 := ⟨⟨tb_in (ch_4_6 _ (List.mem_of_getElem? (i := 14) rfl)) rfl, tb_in (ch_1_0 _ (List.mem_of_getElem? (i := 10) rfl)) rfl, ⟨cq_15.1, cq_15.2, by decide +kernel⟩, by decide⟩, tb_in (ch_4_6 _ (List.mem_of_getElem? (i := 13) rfl)) rfl, tb_in (cs_3 _ (List.mem_of_getElem? (i := 0) (a := (⟨"GingerRents$Reader", "expression", "()Z"⟩, 10)) rfl)) rfl⟩
def tD_unit : MM := (⟨"GingerRents$Reader", "unit", "()Z"⟩, prog_6_method_10_code, 1, (some .boolean))
theorem okD_unit : mV tD_unit 0 := ⟨⟨tb_in (ch_4_7 _ (List.mem_of_getElem? (i := 2) rfl)) rfl, tb_in (ch_1_0 _ (List.mem_of_getElem? (i := 10) rfl)) rfl, ⟨cq_15.1, cq_15.2, by decide +kernel⟩, by decide⟩, tb_in (ch_4_7 _ (List.mem_of_getElem? (i := 1) rfl)) rfl, tb_in (cs_3 _ (List.mem_of_getElem? (i := 1) (a := (⟨"GingerRents$Reader", "unit", "()Z"⟩, 10)) rfl)) rfl⟩
def tD_condition : MM := (⟨"GingerRents$Reader", "condition", "(I)Z"⟩, prog_6_method_11_code, 5, (some .boolean))
theorem okD_condition : mV tD_condition 1 := ⟨⟨tb_in (ch_4_8 _ (List.mem_of_getElem? (i := 8) rfl)) rfl, tb_in (ch_1_0 _ (List.mem_of_getElem? (i := 10) rfl)) rfl, ⟨cq_15.1, cq_15.2, by decide +kernel⟩, by decide⟩, tb_in (ch_4_8 _ (List.mem_of_getElem? (i := 7) rfl)) rfl, tb_in (cs_3 _ (List.mem_of_getElem? (i := 6) (a := (⟨"GingerRents$Reader", "condition", "(I)Z"⟩, 10)) rfl)) rfl⟩
def tD_clause : MM := (⟨"GingerRents$Reader", "clause", "(I)Z"⟩, prog_6_method_12_code, 4, (some .boolean))
theorem okD_clause : mV tD_clause 1 := ⟨⟨tb_in (ch_4_8 _ (List.mem_of_getElem? (i := 12) rfl)) rfl, tb_in (ch_1_0 _ (List.mem_of_getElem? (i := 10) rfl)) rfl, ⟨cq_15.1, cq_15.2, by decide +kernel⟩, by decide⟩, tb_in (ch_4_8 _ (List.mem_of_getElem? (i := 11) rfl)) rfl, tb_in (cs_3 _ (List.mem_of_getElem? (i := 7) (a := (⟨"GingerRents$Reader", "clause", "(I)Z"⟩, 10)) rfl)) rfl⟩
def tD_emit : MM := (⟨"GingerRents$Reader", "emit", "(II)Z"⟩, prog_6_method_13_code, 3, (some .boolean))
theorem okD_emit : mV tD_emit 2 := ⟨⟨tb_in (ch_4_8 _ (List.mem_of_getElem? (i := 0) rfl)) rfl, tb_in (ch_1_0 _ (List.mem_of_getElem? (i := 10) rfl)) rfl, ⟨cq_15.1, cq_15.2, by decide +kernel⟩, by decide⟩, tb_in (ch_4_7 _ (List.mem_of_getElem? (i := 15) rfl)) rfl, tb_in (cs_3 _ (List.mem_of_getElem? (i := 4) (a := (⟨"GingerRents$Reader", "emit", "(II)Z"⟩, 10)) rfl)) rfl⟩
def tD_takesNumber : MM := (⟨"GingerRents$Reader", "takesNumber", "(II)Z"⟩, prog_6_method_14_code, 3, (some .boolean))
theorem okD_takesNumber : mV tD_takesNumber 2 := ⟨⟨tb_in (ch_4_7 _ (List.mem_of_getElem? (i := 11) rfl)) rfl, tb_in (ch_1_0 _ (List.mem_of_getElem? (i := 10) rfl)) rfl, ⟨cq_15.1, cq_15.2, by decide +kernel⟩, by decide⟩, tb_in (ch_4_7 _ (List.mem_of_getElem? (i := 10) rfl)) rfl, tb_in (cs_3 _ (List.mem_of_getElem? (i := 3) (a := (⟨"GingerRents$Reader", "takesNumber", "(II)Z"⟩, 10)) rfl)) rfl⟩
def tD_takesSign : MM := (⟨"GingerRents$Reader", "takesSign", "(C)Z"⟩, prog_6_method_15_code, 2, (some .boolean))
theorem okD_takesSign : mV tD_takesSign 1 := ⟨⟨tb_in (ch_4_9 _ (List.mem_of_getElem? (i := 0) rfl)) rfl, tb_in (ch_1_0 _ (List.mem_of_getElem? (i := 10) rfl)) rfl, ⟨cq_15.1, cq_15.2, by decide +kernel⟩, by decide⟩, tb_in (ch_4_8 _ (List.mem_of_getElem? (i := 15) rfl)) rfl, tb_in (cs_3 _ (List.mem_of_getElem? (i := 8) (a := (⟨"GingerRents$Reader", "takesSign", "(C)Z"⟩, 10)) rfl)) rfl⟩
def tD_isSign : MM := (⟨"GingerRents$Reader", "isSign", "(C)Z"⟩, prog_6_method_16_code, 2, (some .boolean))
theorem okD_isSign : mV tD_isSign 1 := ⟨⟨tb_in (ch_4_7 _ (List.mem_of_getElem? (i := 7) rfl)) rfl, tb_in (ch_1_0 _ (List.mem_of_getElem? (i := 10) rfl)) rfl, ⟨cq_15.1, cq_15.2, by decide +kernel⟩, by decide⟩, tb_in (ch_4_7 _ (List.mem_of_getElem? (i := 6) rfl)) rfl, tb_in (cs_3 _ (List.mem_of_getElem? (i := 2) (a := (⟨"GingerRents$Reader", "isSign", "(C)Z"⟩, 10)) rfl)) rfl⟩
def tD_isWord : MM := (⟨"GingerRents$Reader", "isWord", "(I)Z"⟩, prog_6_method_17_code, 2, (some .boolean))
theorem okD_isWord : mV tD_isWord 1 := ⟨⟨tb_in (ch_4_8 _ (List.mem_of_getElem? (i := 4) rfl)) rfl, tb_in (ch_1_0 _ (List.mem_of_getElem? (i := 10) rfl)) rfl, ⟨cq_15.1, cq_15.2, by decide +kernel⟩, by decide⟩, tb_in (ch_4_8 _ (List.mem_of_getElem? (i := 3) rfl)) rfl, tb_in (cs_3 _ (List.mem_of_getElem? (i := 5) (a := (⟨"GingerRents$Reader", "isWord", "(I)Z"⟩, 10)) rfl)) rfl⟩
def tD_advance : MM := (⟨"GingerRents$Reader", "advance", "()V"⟩, prog_6_method_18_code, 2, none)
theorem okD_advance : mV tD_advance 0 := ⟨⟨tb_in (ch_4_6 _ (List.mem_of_getElem? (i := 2) rfl)) rfl, tb_in (ch_1_0 _ (List.mem_of_getElem? (i := 10) rfl)) rfl, ⟨cq_15.1, cq_15.2, by decide +kernel⟩, by decide⟩, tb_in (ch_4_6 _ (List.mem_of_getElem? (i := 1) rfl)) rfl, tb_in (cs_2 _ (List.mem_of_getElem? (i := 13) (a := (⟨"GingerRents$Reader", "advance", "()V"⟩, 10)) rfl)) rfl⟩
def tD_refuse : MM := (⟨"GingerRents$Reader", "refuse", "(I)Z"⟩, prog_6_method_19_code, 2, (some .boolean))
theorem okD_refuse : mV tD_refuse 1 := ⟨⟨tb_in (ch_4_6 _ (List.mem_of_getElem? (i := 6) rfl)) rfl, tb_in (ch_1_0 _ (List.mem_of_getElem? (i := 10) rfl)) rfl, ⟨cq_15.1, cq_15.2, by decide +kernel⟩, by decide⟩, tb_in (ch_4_6 _ (List.mem_of_getElem? (i := 5) rfl)) rfl, tb_in (cs_2 _ (List.mem_of_getElem? (i := 14) (a := (⟨"GingerRents$Reader", "refuse", "(I)Z"⟩, 10)) rfl)) rfl⟩
theorem fuD_25 : fu "GingerRents$Reader" 25 5 2 := ⟨_, _, _, rfl, by decide, rfl, tb_in (ch_2_2 _ (List.mem_of_getElem? (i := 11) rfl)) rfl⟩
theorem fuD_29 : fu "GingerRents$Reader" 29 5 3 := ⟨_, _, _, rfl, by decide, rfl, tb_in (ch_2_2 _ (List.mem_of_getElem? (i := 13) rfl)) rfl⟩
theorem fuD_32 : fu "GingerRents$Reader" 32 5 4 := ⟨_, _, _, rfl, by decide, rfl, tb_in (ch_2_2 _ (List.mem_of_getElem? (i := 15) rfl)) rfl⟩
theorem mlD_36 : Cond.methodLink "GingerRents$Reader" 36 ⟨"GingerRents$Reader", "wordsOf", "(I)Ljava/lang/String;"⟩ ∈ tb := tb_in (ch_3_11 _ (List.mem_of_getElem? (i := 2) rfl)) rfl
theorem mlD_40 : Cond.methodLink "GingerRents$Reader" 40 ⟨"GingerRents$Tape", "scan", "(Ljava/lang/String;)V"⟩ ∈ tb := tb_in (ch_3_11 _ (List.mem_of_getElem? (i := 9) rfl)) rfl
theorem fuD_46 : fu "GingerRents$Reader" 46 5 8 := ⟨_, _, _, rfl, by decide, rfl, tb_in (ch_2_3 _ (List.mem_of_getElem? (i := 3) rfl)) rfl⟩
theorem fuD_14 : fu "GingerRents$Reader" 14 5 0 := ⟨_, _, _, rfl, by decide, rfl, tb_in (ch_2_2 _ (List.mem_of_getElem? (i := 7) rfl)) rfl⟩
theorem fuD_49 : fu "GingerRents$Reader" 49 6 3 := ⟨_, _, _, rfl, by decide, rfl, tb_in (ch_1_6 _ (List.mem_of_getElem? (i := 7) rfl)) rfl⟩
theorem fuD_22 : fu "GingerRents$Reader" 22 5 1 := ⟨_, _, _, rfl, by decide, rfl, tb_in (ch_2_2 _ (List.mem_of_getElem? (i := 9) rfl)) rfl⟩
theorem fuD_51 : fu "GingerRents$Reader" 51 5 5 := ⟨_, _, _, rfl, by decide, rfl, tb_in (ch_2_3 _ (List.mem_of_getElem? (i := 0) rfl)) rfl⟩
theorem mlD_54 : Cond.methodLink "GingerRents$Reader" 54 ⟨"GingerRents$Reader", "advance", "()V"⟩ ∈ tb := tb_in (ch_4_5 _ (List.mem_of_getElem? (i := 15) rfl)) rfl
theorem fuD_57 : fu "GingerRents$Reader" 57 5 6 := ⟨_, _, _, rfl, by decide, rfl, tb_in (ch_2_3 _ (List.mem_of_getElem? (i := 1) rfl)) rfl⟩
theorem fuD_60 : fu "GingerRents$Reader" 60 5 7 := ⟨_, _, _, rfl, by decide, rfl, tb_in (ch_2_3 _ (List.mem_of_getElem? (i := 2) rfl)) rfl⟩
theorem mlD_63 : Cond.methodLink "GingerRents$Reader" 63 ⟨"GingerRents$Reader", "refuse", "(I)Z"⟩ ∈ tb := tb_in (ch_4_6 _ (List.mem_of_getElem? (i := 3) rfl)) rfl
theorem mlD_67 : Cond.methodLink "GingerRents$Reader" 67 ⟨"GingerRents$Reader", "lawLine", "()Z"⟩ ∈ tb := tb_in (ch_4_6 _ (List.mem_of_getElem? (i := 7) rfl)) rfl
theorem mlD_71 : Cond.methodLink "GingerRents$Reader" 71 ⟨"GingerRents$Reader", "skyLine", "()Z"⟩ ∈ tb := tb_in (ch_4_9 _ (List.mem_of_getElem? (i := 1) rfl)) rfl
theorem mlD_74 : Cond.methodLink "GingerRents$Reader" 74 ⟨"GingerRents$Reader", "officeLine", "()Z"⟩ ∈ tb := tb_in (ch_4_9 _ (List.mem_of_getElem? (i := 5) rfl)) rfl
theorem mlD_77 : Cond.methodLink "GingerRents$Reader" 77 ⟨"GingerRents$Reader", "nextLine", "()Z"⟩ ∈ tb := tb_in (ch_4_9 _ (List.mem_of_getElem? (i := 9) rfl)) rfl
theorem mlD_88 : Cond.methodLink "GingerRents$Reader" 88 ⟨"GingerRents$Reader", "expression", "()Z"⟩ ∈ tb := tb_in (ch_4_6 _ (List.mem_of_getElem? (i := 11) rfl)) rfl
theorem mlD_91 : Cond.methodLink "GingerRents$Reader" 91 ⟨"GingerRents$Reader", "isWord", "(I)Z"⟩ ∈ tb := tb_in (ch_4_8 _ (List.mem_of_getElem? (i := 1) rfl)) rfl
theorem mlD_94 : Cond.methodLink "GingerRents$Reader" 94 ⟨"GingerRents$Reader", "condition", "(I)Z"⟩ ∈ tb := tb_in (ch_4_8 _ (List.mem_of_getElem? (i := 5) rfl)) rfl
theorem mlD_97 : Cond.methodLink "GingerRents$Reader" 97 ⟨"GingerRents$Reader", "takesSign", "(C)Z"⟩ ∈ tb := tb_in (ch_4_8 _ (List.mem_of_getElem? (i := 13) rfl)) rfl
theorem mlD_101 : Cond.methodLink "GingerRents$Reader" 101 ⟨"GingerRents$Rows", "add", "(IIIII)Z"⟩ ∈ tb := tb_in (ch_4_7 _ (List.mem_of_getElem? (i := 3) rfl)) rfl
theorem mlD_105 : Cond.methodLink "GingerRents$Reader" 105 ⟨"GingerRents$Reader", "takesNumber", "(II)Z"⟩ ∈ tb := tb_in (ch_4_7 _ (List.mem_of_getElem? (i := 8) rfl)) rfl
theorem fuD_109 : fu "GingerRents$Reader" 109 5 9 := ⟨_, _, _, rfl, by decide, rfl, tb_in (ch_2_3 _ (List.mem_of_getElem? (i := 4) rfl)) rfl⟩
theorem mlD_112 : ("GingerRents$Reader", 112, (⟨"GingerRents", "within", "(III)Z"⟩ : MethodName)) ∈ nsL := by decide
theorem mlD_116 : Cond.methodLink "GingerRents$Reader" 116 ⟨"GingerRents$Reader", "unit", "()Z"⟩ ∈ tb := tb_in (ch_4_6 _ (List.mem_of_getElem? (i := 15) rfl)) rfl
theorem mlD_119 : Cond.methodLink "GingerRents$Reader" 119 ⟨"GingerRents$Reader", "isSign", "(C)Z"⟩ ∈ tb := tb_in (ch_4_7 _ (List.mem_of_getElem? (i := 4) rfl)) rfl
theorem mlD_124 : Cond.methodLink "GingerRents$Reader" 124 ⟨"GingerRents$Reader", "emit", "(II)Z"⟩ ∈ tb := tb_in (ch_4_7 _ (List.mem_of_getElem? (i := 13) rfl)) rfl
theorem mlD_127 : Cond.methodLink "GingerRents$Reader" 127 ⟨"GingerRents$Reader", "clause", "(I)Z"⟩ ∈ tb := tb_in (ch_4_8 _ (List.mem_of_getElem? (i := 9) rfl)) rfl
theorem fuD_130 : fu "GingerRents$Reader" 130 10 5 := ⟨_, _, _, rfl, by decide, rfl, tb_in (ch_2_1 _ (List.mem_of_getElem? (i := 0) rfl)) rfl⟩
theorem fuD_133 : fu "GingerRents$Reader" 133 10 1 := ⟨_, _, _, rfl, by decide, rfl, tb_in (ch_2_0 _ (List.mem_of_getElem? (i := 7) rfl)) rfl⟩
theorem fuD_137 : fu "GingerRents$Reader" 137 10 2 := ⟨_, _, _, rfl, by decide, rfl, tb_in (ch_2_0 _ (List.mem_of_getElem? (i := 9) rfl)) rfl⟩
theorem fuD_140 : fu "GingerRents$Reader" 140 10 3 := ⟨_, _, _, rfl, by decide, rfl, tb_in (ch_2_0 _ (List.mem_of_getElem? (i := 11) rfl)) rfl⟩
theorem fuD_143 : fu "GingerRents$Reader" 143 10 4 := ⟨_, _, _, rfl, by decide, rfl, tb_in (ch_2_0 _ (List.mem_of_getElem? (i := 14) rfl)) rfl⟩
theorem dD_forgetFault_0 : dl tD_forgetFault 0 .aload_n .aload 0 1 := qr_42 (by decide +kernel)
theorem dD_forgetFault_1 : dn tD_forgetFault 1 (.iconst 0) 1 2 := qr_3 (by decide +kernel)
theorem dD_forgetFault_2 : dn tD_forgetFault 2 (.putfield 25) 3 5 := qr_181 0 25 25 (by decide +kernel)
theorem dD_forgetFault_5 : dl tD_forgetFault 5 .aload_n .aload 0 6 := qr_42 (by decide +kernel)
theorem dD_forgetFault_6 : dn tD_forgetFault 6 (.iconst (-1)) 1 7 := qr_2 (by decide +kernel)
theorem dD_forgetFault_7 : dn tD_forgetFault 7 (.putfield 29) 3 10 := qr_181 0 29 29 (by decide +kernel)
theorem dD_forgetFault_10 : dn tD_forgetFault 10 (.return_) 1 11 := qr_177 (by decide +kernel)
theorem dD_reads_0 : dl tD_reads 0 .aload_n .aload 0 1 := qr_42 (by decide +kernel)
theorem dD_reads_1 : dn tD_reads 1 (.getfield 32) 3 4 := qr_180 0 32 32 (by decide +kernel)
theorem dD_reads_4 : dl tD_reads 4 .iload_n .iload 1 5 := qr_27 (by decide +kernel)
theorem dD_reads_5 : dn tD_reads 5 (.invokestatic 36) 3 8 := qr_184 0 36 36 (by decide +kernel)
theorem dD_reads_8 : dn tD_reads 8 (.invokevirtual 40) 3 11 := qr_182 0 40 40 (by decide +kernel)
theorem dD_reads_11 : dl tD_reads 11 .aload_n .aload 0 12 := qr_42 (by decide +kernel)
theorem dD_reads_12 : dl tD_reads 12 .iload_n .iload 2 13 := qr_28 (by decide +kernel)
theorem dD_reads_13 : dn tD_reads 13 (.putfield 46) 3 16 := qr_181 0 46 46 (by decide +kernel)
theorem dD_reads_16 : dl tD_reads 16 .aload_n .aload 0 17 := qr_42 (by decide +kernel)
theorem dD_reads_17 : dn tD_reads 17 (.getfield 14) 3 20 := qr_180 0 14 14 (by decide +kernel)
theorem dD_reads_20 : dn tD_reads 20 (.iconst 0) 1 21 := qr_3 (by decide +kernel)
theorem dD_reads_21 : dn tD_reads 21 (.putfield 49) 3 24 := qr_181 0 49 49 (by decide +kernel)
theorem dD_reads_24 : dl tD_reads 24 .aload_n .aload 0 25 := qr_42 (by decide +kernel)
theorem dD_reads_25 : dn tD_reads 25 (.getfield 22) 3 28 := qr_180 0 22 22 (by decide +kernel)
theorem dD_reads_28 : dn tD_reads 28 (.iconst 0) 1 29 := qr_3 (by decide +kernel)
theorem dD_reads_29 : dn tD_reads 29 (.putfield 49) 3 32 := qr_181 0 49 49 (by decide +kernel)
theorem dD_reads_32 : dl tD_reads 32 .aload_n .aload 0 33 := qr_42 (by decide +kernel)
theorem dD_reads_33 : dn tD_reads 33 (.iconst (-1)) 1 34 := qr_2 (by decide +kernel)
theorem dD_reads_34 : dn tD_reads 34 (.putfield 51) 3 37 := qr_181 0 51 51 (by decide +kernel)
theorem dD_reads_37 : dl tD_reads 37 .aload_n .aload 0 38 := qr_42 (by decide +kernel)
theorem dD_reads_38 : dn tD_reads 38 (.invokevirtual 54) 3 41 := qr_182 0 54 54 (by decide +kernel)
theorem dD_reads_41 : dn tD_reads 41 (.iconst 0) 1 42 := qr_3 (by decide +kernel)
theorem dD_reads_42 : dl tD_reads 42 .istore_n .istore 3 43 := qr_62 (by decide +kernel)
theorem dD_reads_43 : dl tD_reads 43 .iload_n .iload 3 44 := qr_29 (by decide +kernel)
theorem dD_reads_44 : dn tD_reads 44 (.bipush 16) 2 46 := qr_16 16 16 (by decide +kernel)
theorem dD_reads_46 : db tD_reads 46 (.if_icmp .gt) 154 49 := qr_163 0 108 108 (by decide +kernel) rfl
theorem dD_reads_49 : dl tD_reads 49 .aload_n .aload 0 50 := qr_42 (by decide +kernel)
theorem dD_reads_50 : dn tD_reads 50 (.getfield 57) 3 53 := qr_180 0 57 57 (by decide +kernel)
theorem dD_reads_53 : db tD_reads 53 (.ifCond .ne) 58 56 := qr_154 0 5 5 (by decide +kernel) rfl
theorem dD_reads_56 : dn tD_reads 56 (.iconst 1) 1 57 := qr_4 (by decide +kernel)
theorem dD_reads_57 : dn tD_reads 57 (.ireturn) 1 58 := qr_172 (by decide +kernel)
theorem dD_reads_58 : dl tD_reads 58 .aload_n .aload 0 59 := qr_42 (by decide +kernel)
theorem dD_reads_59 : dn tD_reads 59 (.getfield 57) 3 62 := qr_180 0 57 57 (by decide +kernel)
theorem dD_reads_62 : dn tD_reads 62 (.iconst 1) 1 63 := qr_4 (by decide +kernel)
