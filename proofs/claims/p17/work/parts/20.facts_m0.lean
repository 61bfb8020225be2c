def tm_isIn : MM := (⟨"GingerRentsModel", "isIn", "(III)Z"⟩, prog_14_method_3_code, 4, (some .boolean))
theorem okm_isIn : mV tm_isIn 3 := ⟨⟨tb_in (ch_6_14 _ (List.mem_of_getElem? (i := 14) rfl)) rfl, tb_in (ch_1_0 _ (List.mem_of_getElem? (i := 14) rfl)) rfl, ⟨cq_17.1, cq_17.2, by decide +kernel⟩, by decide⟩, tb_in (ch_6_14 _ (List.mem_of_getElem? (i := 13) rfl)) rfl, tb_in (cs_4 _ (List.mem_of_getElem? (i := 3) (a := (⟨"GingerRentsModel", "isIn", "(III)Z"⟩, 75)) rfl)) rfl⟩
def tm_held : MM := (⟨"GingerRentsModel", "held", "(III)I"⟩, prog_14_method_4_code, 4, (some .int))
theorem okm_held : mV tm_held 3 := ⟨⟨tb_in (ch_7_1 _ (List.mem_of_getElem? (i := 2) rfl)) rfl, tb_in (ch_1_0 _ (List.mem_of_getElem? (i := 14) rfl)) rfl, ⟨cq_17.1, cq_17.2, by decide +kernel⟩, by decide⟩, tb_in (ch_7_1 _ (List.mem_of_getElem? (i := 1) rfl)) rfl, tb_in (cs_4 _ (List.mem_of_getElem? (i := 7) (a := (⟨"GingerRentsModel", "held", "(III)I"⟩, 75)) rfl)) rfl⟩
def tm_greater : MM := (⟨"GingerRentsModel", "greater", "(II)I"⟩, prog_14_method_5_code, 3, (some .int))
theorem okm_greater : mV tm_greater 2 := ⟨⟨tb_in (ch_8_0 _ (List.mem_of_getElem? (i := 2) rfl)) rfl, tb_in (ch_1_0 _ (List.mem_of_getElem? (i := 14) rfl)) rfl, ⟨cq_17.1, cq_17.2, by decide +kernel⟩, by decide⟩, tb_in (ch_8_0 _ (List.mem_of_getElem? (i := 1) rfl)) rfl, tb_in (cs_7 _ (List.mem_of_getElem? (i := 9) (a := (⟨"GingerRentsModel", "greater", "(II)I"⟩, 75)) rfl)) rfl⟩
def tm_lesser : MM := (⟨"GingerRentsModel", "lesser", "(II)I"⟩, prog_14_method_6_code, 3, (some .int))
theorem okm_lesser : mV tm_lesser 2 := ⟨⟨tb_in (ch_8_3 _ (List.mem_of_getElem? (i := 12) rfl)) rfl, tb_in (ch_1_0 _ (List.mem_of_getElem? (i := 14) rfl)) rfl, ⟨cq_17.1, cq_17.2, by decide +kernel⟩, by decide⟩, tb_in (ch_8_3 _ (List.mem_of_getElem? (i := 11) rfl)) rfl, tb_in (cs_8 _ (List.mem_of_getElem? (i := 7) (a := (⟨"GingerRentsModel", "lesser", "(II)I"⟩, 75)) rfl)) rfl⟩
def tm_apart : MM := (⟨"GingerRentsModel", "apart", "(II)I"⟩, prog_14_method_7_code, 3, (some .int))
theorem okm_apart : mV tm_apart 2 := ⟨⟨tb_in (ch_8_10 _ (List.mem_of_getElem? (i := 13) rfl)) rfl, tb_in (ch_1_0 _ (List.mem_of_getElem? (i := 14) rfl)) rfl, ⟨cq_17.1, cq_17.2, by decide +kernel⟩, by decide⟩, tb_in (ch_8_10 _ (List.mem_of_getElem? (i := 12) rfl)) rfl, tb_in (cs_9 _ (List.mem_of_getElem? (i := 5) (a := (⟨"GingerRentsModel", "apart", "(II)I"⟩, 75)) rfl)) rfl⟩
def tm_onesOf : MM := (⟨"GingerRentsModel", "onesOf", "(I)I"⟩, prog_14_method_8_code, 4, (some .int))
theorem okm_onesOf : mV tm_onesOf 1 := ⟨⟨tb_in (ch_8_4 _ (List.mem_of_getElem? (i := 0) rfl)) rfl, tb_in (ch_1_0 _ (List.mem_of_getElem? (i := 14) rfl)) rfl, ⟨cq_17.1, cq_17.2, by decide +kernel⟩, by decide⟩, tb_in (ch_8_3 _ (List.mem_of_getElem? (i := 15) rfl)) rfl, tb_in (cs_8 _ (List.mem_of_getElem? (i := 8) (a := (⟨"GingerRentsModel", "onesOf", "(I)I"⟩, 75)) rfl)) rfl⟩
def tm_has : MM := (⟨"GingerRentsModel", "has", "(II)Z"⟩, prog_14_method_9_code, 3, (some .boolean))
theorem okm_has : mV tm_has 2 := ⟨⟨tb_in (ch_7_12 _ (List.mem_of_getElem? (i := 14) rfl)) rfl, tb_in (ch_1_0 _ (List.mem_of_getElem? (i := 14) rfl)) rfl, ⟨cq_17.1, cq_17.2, by decide +kernel⟩, by decide⟩, tb_in (ch_7_12 _ (List.mem_of_getElem? (i := 13) rfl)) rfl, tb_in (cs_7 _ (List.mem_of_getElem? (i := 1) (a := (⟨"GingerRentsModel", "has", "(II)Z"⟩, 75)) rfl)) rfl⟩
def tm_keepsAhead : MM := (⟨"GingerRentsModel", "keepsAhead", "()V"⟩, prog_14_method_10_code, 2, none)
theorem okm_keepsAhead : mV tm_keepsAhead 0 := ⟨⟨tb_in (ch_7_12 _ (List.mem_of_getElem? (i := 2) rfl)) rfl, tb_in (ch_1_0 _ (List.mem_of_getElem? (i := 14) rfl)) rfl, ⟨cq_17.1, cq_17.2, by decide +kernel⟩, by decide⟩, tb_in (ch_7_12 _ (List.mem_of_getElem? (i := 1) rfl)) rfl, tb_in (cs_6 _ (List.mem_of_getElem? (i := 14) (a := (⟨"GingerRentsModel", "keepsAhead", "()V"⟩, 75)) rfl)) rfl⟩
def tm_undo : MM := (⟨"GingerRentsModel", "undo", "()Z"⟩, prog_14_method_11_code, 2, (some .boolean))
theorem okm_undo : mV tm_undo 0 := ⟨⟨tb_in (ch_6_14 _ (List.mem_of_getElem? (i := 2) rfl)) rfl, tb_in (ch_1_0 _ (List.mem_of_getElem? (i := 14) rfl)) rfl, ⟨cq_17.1, cq_17.2, by decide +kernel⟩, by decide⟩, tb_in (ch_6_14 _ (List.mem_of_getElem? (i := 0) rfl)) rfl, tb_in (ch_6_14 _ (List.mem_of_getElem? (i := 1) rfl)) rfl⟩
def tm_thinks : MM := (⟨"GingerRentsModel", "thinks", "()V"⟩, prog_14_method_12_code, 2, none)
theorem okm_thinks : mV tm_thinks 0 := ⟨⟨tb_in (ch_8_5 _ (List.mem_of_getElem? (i := 0) rfl)) rfl, tb_in (ch_1_0 _ (List.mem_of_getElem? (i := 14) rfl)) rfl, ⟨cq_17.1, cq_17.2, by decide +kernel⟩, by decide⟩, tb_in (ch_8_4 _ (List.mem_of_getElem? (i := 15) rfl)) rfl, tb_in (cs_8 _ (List.mem_of_getElem? (i := 9) (a := (⟨"GingerRentsModel", "thinks", "()V"⟩, 75)) rfl)) rfl⟩
def tm_endsThought : MM := (⟨"GingerRentsModel", "endsThought", "()V"⟩, prog_14_method_13_code, 2, none)
theorem okm_endsThought : mV tm_endsThought 0 := ⟨⟨tb_in (ch_8_5 _ (List.mem_of_getElem? (i := 8) rfl)) rfl, tb_in (ch_1_0 _ (List.mem_of_getElem? (i := 14) rfl)) rfl, ⟨cq_17.1, cq_17.2, by decide +kernel⟩, by decide⟩, tb_in (ch_8_5 _ (List.mem_of_getElem? (i := 7) rfl)) rfl, tb_in (cs_8 _ (List.mem_of_getElem? (i := 11) (a := (⟨"GingerRentsModel", "endsThought", "()V"⟩, 75)) rfl)) rfl⟩
def tm_state : MM := (⟨"GingerRentsModel", "state", "(I)I"⟩, prog_14_method_14_code, 3, (some .int))
theorem okm_state : mV tm_state 1 := ⟨⟨tb_in (ch_6_14 _ (List.mem_of_getElem? (i := 6) rfl)) rfl, tb_in (ch_1_0 _ (List.mem_of_getElem? (i := 14) rfl)) rfl, ⟨cq_17.1, cq_17.2, by decide +kernel⟩, by decide⟩, tb_in (ch_6_14 _ (List.mem_of_getElem? (i := 4) rfl)) rfl, tb_in (ch_6_14 _ (List.mem_of_getElem? (i := 5) rfl)) rfl⟩
def tm_draw : MM := (⟨"GingerRentsModel", "draw", "(I)I"⟩, prog_14_method_15_code, 2, (some .int))
theorem okm_draw : mV tm_draw 1 := ⟨⟨tb_in (ch_8_2 _ (List.mem_of_getElem? (i := 14) rfl)) rfl, tb_in (ch_1_0 _ (List.mem_of_getElem? (i := 14) rfl)) rfl, ⟨cq_17.1, cq_17.2, by decide +kernel⟩, by decide⟩, tb_in (ch_8_2 _ (List.mem_of_getElem? (i := 13) rfl)) rfl, tb_in (cs_8 _ (List.mem_of_getElem? (i := 4) (a := (⟨"GingerRentsModel", "draw", "(I)I"⟩, 75)) rfl)) rfl⟩
def tm_isHouse : MM := (⟨"GingerRentsModel", "isHouse", "(I)Z"⟩, prog_14_method_16_code, 2, (some .boolean))
theorem okm_isHouse : mV tm_isHouse 1 := ⟨⟨tb_in (ch_7_0 _ (List.mem_of_getElem? (i := 10) rfl)) rfl, tb_in (ch_1_0 _ (List.mem_of_getElem? (i := 14) rfl)) rfl, ⟨cq_17.1, cq_17.2, by decide +kernel⟩, by decide⟩, tb_in (ch_7_0 _ (List.mem_of_getElem? (i := 9) rfl)) rfl, tb_in (cs_4 _ (List.mem_of_getElem? (i := 5) (a := (⟨"GingerRentsModel", "isHouse", "(I)Z"⟩, 75)) rfl)) rfl⟩
def tm_wallOf : MM := (⟨"GingerRentsModel", "wallOf", "(II)I"⟩, prog_14_method_17_code, 3, (some .int))
theorem okm_wallOf : mV tm_wallOf 2 := ⟨⟨tb_in (ch_7_11 _ (List.mem_of_getElem? (i := 2) rfl)) rfl, tb_in (ch_1_0 _ (List.mem_of_getElem? (i := 14) rfl)) rfl, ⟨cq_17.1, cq_17.2, by decide +kernel⟩, by decide⟩, tb_in (ch_7_11 _ (List.mem_of_getElem? (i := 1) rfl)) rfl, tb_in (cs_6 _ (List.mem_of_getElem? (i := 10) (a := (⟨"GingerRentsModel", "wallOf", "(II)I"⟩, 75)) rfl)) rfl⟩
def tm_hasWall : MM := (⟨"GingerRentsModel", "hasWall", "(III)V"⟩, prog_14_method_18_code, 4, none)
theorem okm_hasWall : mV tm_hasWall 3 := ⟨⟨tb_in (ch_7_0 _ (List.mem_of_getElem? (i := 14) rfl)) rfl, tb_in (ch_1_0 _ (List.mem_of_getElem? (i := 14) rfl)) rfl, ⟨cq_17.1, cq_17.2, by decide +kernel⟩, by decide⟩, tb_in (ch_7_0 _ (List.mem_of_getElem? (i := 13) rfl)) rfl, tb_in (cs_4 _ (List.mem_of_getElem? (i := 6) (a := (⟨"GingerRentsModel", "hasWall", "(III)V"⟩, 75)) rfl)) rfl⟩
def tm_sumOf : MM := (⟨"GingerRentsModel", "sumOf", "(I)I"⟩, prog_14_method_19_code, 2, (some .int))
theorem okm_sumOf : mV tm_sumOf 1 := ⟨⟨tb_in (ch_7_11 _ (List.mem_of_getElem? (i := 14) rfl)) rfl, tb_in (ch_1_0 _ (List.mem_of_getElem? (i := 14) rfl)) rfl, ⟨cq_17.1, cq_17.2, by decide +kernel⟩, by decide⟩, tb_in (ch_7_11 _ (List.mem_of_getElem? (i := 13) rfl)) rfl, tb_in (cs_6 _ (List.mem_of_getElem? (i := 13) (a := (⟨"GingerRentsModel", "sumOf", "(I)I"⟩, 75)) rfl)) rfl⟩
def tm_doesStand : MM := (⟨"GingerRentsModel", "doesStand", "(I)Z"⟩, prog_14_method_20_code, 2, (some .boolean))
theorem okm_doesStand : mV tm_doesStand 1 := ⟨⟨tb_in (ch_7_11 _ (List.mem_of_getElem? (i := 10) rfl)) rfl, tb_in (ch_1_0 _ (List.mem_of_getElem? (i := 14) rfl)) rfl, ⟨cq_17.1, cq_17.2, by decide +kernel⟩, by decide⟩, tb_in (ch_7_11 _ (List.mem_of_getElem? (i := 9) rfl)) rfl, tb_in (cs_6 _ (List.mem_of_getElem? (i := 12) (a := (⟨"GingerRentsModel", "doesStand", "(I)Z"⟩, 75)) rfl)) rfl⟩
def tm_thickest : MM := (⟨"GingerRentsModel", "thickest", "(I)I"⟩, prog_14_method_21_code, 4, (some .int))
theorem okm_thickest : mV tm_thickest 1 := ⟨⟨tb_in (ch_7_13 _ (List.mem_of_getElem? (i := 10) rfl)) rfl, tb_in (ch_1_0 _ (List.mem_of_getElem? (i := 14) rfl)) rfl, ⟨cq_17.1, cq_17.2, by decide +kernel⟩, by decide⟩, tb_in (ch_7_13 _ (List.mem_of_getElem? (i := 9) rfl)) rfl, tb_in (cs_7 _ (List.mem_of_getElem? (i := 4) (a := (⟨"GingerRentsModel", "thickest", "(I)I"⟩, 75)) rfl)) rfl⟩
def tm_standingSet : MM := (⟨"GingerRentsModel", "standingSet", "()I"⟩, prog_14_method_22_code, 3, (some .int))
theorem okm_standingSet : mV tm_standingSet 0 := ⟨⟨tb_in (ch_8_0 _ (List.mem_of_getElem? (i := 6) rfl)) rfl, tb_in (ch_1_0 _ (List.mem_of_getElem? (i := 14) rfl)) rfl, ⟨cq_17.1, cq_17.2, by decide +kernel⟩, by decide⟩, tb_in (ch_8_0 _ (List.mem_of_getElem? (i := 5) rfl)) rfl, tb_in (cs_7 _ (List.mem_of_getElem? (i := 10) (a := (⟨"GingerRentsModel", "standingSet", "()I"⟩, 75)) rfl)) rfl⟩
def tm_house : MM := (⟨"GingerRentsModel", "house", "(III)I"⟩, prog_14_method_23_code, 5, (some .int))
theorem okm_house : mV tm_house 3 := ⟨⟨tb_in (ch_6_14 _ (List.mem_of_getElem? (i := 10) rfl)) rfl, tb_in (ch_1_0 _ (List.mem_of_getElem? (i := 14) rfl)) rfl, ⟨cq_17.1, cq_17.2, by decide +kernel⟩, by decide⟩, tb_in (ch_6_14 _ (List.mem_of_getElem? (i := 8) rfl)) rfl, tb_in (ch_6_14 _ (List.mem_of_getElem? (i := 9) rfl)) rfl⟩
def tm_canSet : MM := (⟨"GingerRentsModel", "canSet", "(III)Z"⟩, prog_14_method_24_code, 4, (some .boolean))
theorem okm_canSet : mV tm_canSet 3 := ⟨⟨tb_in (ch_7_0 _ (List.mem_of_getElem? (i := 6) rfl)) rfl, tb_in (ch_1_0 _ (List.mem_of_getElem? (i := 14) rfl)) rfl, ⟨cq_17.1, cq_17.2, by decide +kernel⟩, by decide⟩, tb_in (ch_7_0 _ (List.mem_of_getElem? (i := 5) rfl)) rfl, tb_in (cs_4 _ (List.mem_of_getElem? (i := 4) (a := (⟨"GingerRentsModel", "canSet", "(III)Z"⟩, 75)) rfl)) rfl⟩
def tm_set : MM := (⟨"GingerRentsModel", "set", "(III)Z"⟩, prog_14_method_25_code, 4, (some .boolean))
theorem okm_set : mV tm_set 3 := ⟨⟨tb_in (ch_7_0 _ (List.mem_of_getElem? (i := 2) rfl)) rfl, tb_in (ch_1_0 _ (List.mem_of_getElem? (i := 14) rfl)) rfl, ⟨cq_17.1, cq_17.2, by decide +kernel⟩, by decide⟩, tb_in (ch_7_0 _ (List.mem_of_getElem? (i := 0) rfl)) rfl, tb_in (ch_7_0 _ (List.mem_of_getElem? (i := 1) rfl)) rfl⟩
def tm_types : MM := (⟨"GingerRentsModel", "types", "(I)V"⟩, prog_14_method_26_code, 3, none)
theorem okm_types : mV tm_types 1 := ⟨⟨tb_in (ch_7_1 _ (List.mem_of_getElem? (i := 10) rfl)) rfl, tb_in (ch_1_0 _ (List.mem_of_getElem? (i := 14) rfl)) rfl, ⟨cq_17.1, cq_17.2, by decide +kernel⟩, by decide⟩, tb_in (ch_7_1 _ (List.mem_of_getElem? (i := 9) rfl)) rfl, tb_in (cs_4 _ (List.mem_of_getElem? (i := 8) (a := (⟨"GingerRentsModel", "types", "(I)V"⟩, 75)) rfl)) rfl⟩
def tm_feed : MM := (⟨"GingerRentsModel", "feed", "(IIIII)I"⟩, prog_14_method_27_code, 6, (some .int))
theorem okm_feed : mV tm_feed 5 := ⟨⟨tb_in (ch_7_1 _ (List.mem_of_getElem? (i := 6) rfl)) rfl, tb_in (ch_1_0 _ (List.mem_of_getElem? (i := 14) rfl)) rfl, ⟨cq_17.1, cq_17.2, by decide +kernel⟩, by decide⟩, tb_in (ch_7_1 _ (List.mem_of_getElem? (i := 4) rfl)) rfl, tb_in (ch_7_1 _ (List.mem_of_getElem? (i := 5) rfl)) rfl⟩
def tm_end : MM := (⟨"GingerRentsModel", "end", "(I)Z"⟩, prog_14_method_28_code, 2, (some .boolean))
theorem okm_end : mV tm_end 1 := ⟨⟨tb_in (ch_7_1 _ (List.mem_of_getElem? (i := 14) rfl)) rfl, tb_in (ch_1_0 _ (List.mem_of_getElem? (i := 14) rfl)) rfl, ⟨cq_17.1, cq_17.2, by decide +kernel⟩, by decide⟩, tb_in (ch_7_1 _ (List.mem_of_getElem? (i := 12) rfl)) rfl, tb_in (ch_7_1 _ (List.mem_of_getElem? (i := 13) rfl)) rfl⟩
def tm_raw : MM := (⟨"GingerRentsModel", "raw", "(I)I"⟩, prog_14_method_29_code, 2, (some .int))
theorem okm_raw : mV tm_raw 1 := ⟨⟨tb_in (ch_7_2 _ (List.mem_of_getElem? (i := 14) rfl)) rfl, tb_in (ch_1_0 _ (List.mem_of_getElem? (i := 14) rfl)) rfl, ⟨cq_17.1, cq_17.2, by decide +kernel⟩, by decide⟩, tb_in (ch_7_2 _ (List.mem_of_getElem? (i := 13) rfl)) rfl, tb_in (cs_4 _ (List.mem_of_getElem? (i := 11) (a := (⟨"GingerRentsModel", "raw", "(I)I"⟩, 75)) rfl)) rfl⟩
def tm_isLetter : MM := (⟨"GingerRentsModel", "isLetter", "(I)Z"⟩, prog_14_method_30_code, 2, (some .boolean))
theorem okm_isLetter : mV tm_isLetter 1 := ⟨⟨tb_in (ch_7_3 _ (List.mem_of_getElem? (i := 2) rfl)) rfl, tb_in (ch_1_0 _ (List.mem_of_getElem? (i := 14) rfl)) rfl, ⟨cq_17.1, cq_17.2, by decide +kernel⟩, by decide⟩, tb_in (ch_7_3 _ (List.mem_of_getElem? (i := 1) rfl)) rfl, tb_in (cs_4 _ (List.mem_of_getElem? (i := 12) (a := (⟨"GingerRentsModel", "isLetter", "(I)Z"⟩, 75)) rfl)) rfl⟩
def tm_isDigit : MM := (⟨"GingerRentsModel", "isDigit", "(I)Z"⟩, prog_14_method_31_code, 2, (some .boolean))
theorem okm_isDigit : mV tm_isDigit 1 := ⟨⟨tb_in (ch_7_3 _ (List.mem_of_getElem? (i := 10) rfl)) rfl, tb_in (ch_1_0 _ (List.mem_of_getElem? (i := 14) rfl)) rfl, ⟨cq_17.1, cq_17.2, by decide +kernel⟩, by decide⟩, tb_in (ch_7_3 _ (List.mem_of_getElem? (i := 9) rfl)) rfl, tb_in (cs_4 _ (List.mem_of_getElem? (i := 14) (a := (⟨"GingerRentsModel", "isDigit", "(I)Z"⟩, 75)) rfl)) rfl⟩
def tm_isMarkSign : MM := (⟨"GingerRentsModel", "isMarkSign", "(I)Z"⟩, prog_14_method_32_code, 2, (some .boolean))
theorem okm_isMarkSign : mV tm_isMarkSign 1 := ⟨⟨tb_in (ch_7_3 _ (List.mem_of_getElem? (i := 14) rfl)) rfl, tb_in (ch_1_0 _ (List.mem_of_getElem? (i := 14) rfl)) rfl, ⟨cq_17.1, cq_17.2, by decide +kernel⟩, by decide⟩, tb_in (ch_7_3 _ (List.mem_of_getElem? (i := 13) rfl)) rfl, tb_in (cs_4 _ (List.mem_of_getElem? (i := 15) (a := (⟨"GingerRentsModel", "isMarkSign", "(I)Z"⟩, 75)) rfl)) rfl⟩
def tm_wordAt : MM := (⟨"GingerRentsModel", "wordAt", "(II)I"⟩, prog_14_method_33_code, 6, (some .int))
theorem okm_wordAt : mV tm_wordAt 2 := ⟨⟨tb_in (ch_7_3 _ (List.mem_of_getElem? (i := 6) rfl)) rfl, tb_in (ch_1_0 _ (List.mem_of_getElem? (i := 14) rfl)) rfl, ⟨cq_17.1, cq_17.2, by decide +kernel⟩, by decide⟩, tb_in (ch_7_3 _ (List.mem_of_getElem? (i := 5) rfl)) rfl, tb_in (cs_4 _ (List.mem_of_getElem? (i := 13) (a := (⟨"GingerRentsModel", "wordAt", "(II)I"⟩, 75)) rfl)) rfl⟩
def tm_reads : MM := (⟨"GingerRentsModel", "reads", "()V"⟩, prog_14_method_34_code, 2, none)
theorem okm_reads : mV tm_reads 0 := ⟨⟨tb_in (ch_7_2 _ (List.mem_of_getElem? (i := 10) rfl)) rfl, tb_in (ch_1_0 _ (List.mem_of_getElem? (i := 14) rfl)) rfl, ⟨cq_17.1, cq_17.2, by decide +kernel⟩, by decide⟩, tb_in (ch_7_2 _ (List.mem_of_getElem? (i := 9) rfl)) rfl, tb_in (cs_4 _ (List.mem_of_getElem? (i := 10) (a := (⟨"GingerRentsModel", "reads", "()V"⟩, 75)) rfl)) rfl⟩
def tm_errs : MM := (⟨"GingerRentsModel", "errs", "(I)I"⟩, prog_14_method_35_code, 2, (some .int))
theorem okm_errs : mV tm_errs 1 := ⟨⟨tb_in (ch_7_4 _ (List.mem_of_getElem? (i := 10) rfl)) rfl, tb_in (ch_1_0 _ (List.mem_of_getElem? (i := 14) rfl)) rfl, ⟨cq_17.1, cq_17.2, by decide +kernel⟩, by decide⟩, tb_in (ch_7_4 _ (List.mem_of_getElem? (i := 9) rfl)) rfl, tb_in (cs_5 _ (List.mem_of_getElem? (i := 2) (a := (⟨"GingerRentsModel", "errs", "(I)I"⟩, 75)) rfl)) rfl⟩
def tm_isWord : MM := (⟨"GingerRentsModel", "isWord", "(I)Z"⟩, prog_14_method_36_code, 2, (some .boolean))
theorem okm_isWord : mV tm_isWord 1 := ⟨⟨tb_in (ch_7_4 _ (List.mem_of_getElem? (i := 6) rfl)) rfl, tb_in (ch_1_0 _ (List.mem_of_getElem? (i := 14) rfl)) rfl, ⟨cq_17.1, cq_17.2, by decide +kernel⟩, by decide⟩, tb_in (ch_7_4 _ (List.mem_of_getElem? (i := 5) rfl)) rfl, tb_in (cs_5 _ (List.mem_of_getElem? (i := 1) (a := (⟨"GingerRentsModel", "isWord", "(I)Z"⟩, 75)) rfl)) rfl⟩
def tm_isSign : MM := (⟨"GingerRentsModel", "isSign", "(I)Z"⟩, prog_14_method_37_code, 2, (some .boolean))
theorem okm_isSign : mV tm_isSign 1 := ⟨⟨tb_in (ch_7_5 _ (List.mem_of_getElem? (i := 14) rfl)) rfl, tb_in (ch_1_0 _ (List.mem_of_getElem? (i := 14) rfl)) rfl, ⟨cq_17.1, cq_17.2, by decide +kernel⟩, by decide⟩, tb_in (ch_7_5 _ (List.mem_of_getElem? (i := 13) rfl)) rfl, tb_in (cs_5 _ (List.mem_of_getElem? (i := 7) (a := (⟨"GingerRentsModel", "isSign", "(I)Z"⟩, 75)) rfl)) rfl⟩
def tm_emits : MM := (⟨"GingerRentsModel", "emits", "(II)V"⟩, prog_14_method_38_code, 3, none)
theorem okm_emits : mV tm_emits 2 := ⟨⟨tb_in (ch_7_8 _ (List.mem_of_getElem? (i := 10) rfl)) rfl, tb_in (ch_1_0 _ (List.mem_of_getElem? (i := 14) rfl)) rfl, ⟨cq_17.1, cq_17.2, by decide +kernel⟩, by decide⟩, tb_in (ch_7_8 _ (List.mem_of_getElem? (i := 9) rfl)) rfl, tb_in (cs_6 _ (List.mem_of_getElem? (i := 2) (a := (⟨"GingerRentsModel", "emits", "(II)V"⟩, 75)) rfl)) rfl⟩
def tm_canAsk : MM := (⟨"GingerRentsModel", "canAsk", "(I)Z"⟩, prog_14_method_39_code, 2, (some .boolean))
theorem okm_canAsk : mV tm_canAsk 1 := ⟨⟨tb_in (ch_7_8 _ (List.mem_of_getElem? (i := 6) rfl)) rfl, tb_in (ch_1_0 _ (List.mem_of_getElem? (i := 14) rfl)) rfl, ⟨cq_17.1, cq_17.2, by decide +kernel⟩, by decide⟩, tb_in (ch_7_8 _ (List.mem_of_getElem? (i := 5) rfl)) rfl, tb_in (cs_6 _ (List.mem_of_getElem? (i := 1) (a := (⟨"GingerRentsModel", "canAsk", "(I)Z"⟩, 75)) rfl)) rfl⟩
def tm_readUnit : MM := (⟨"GingerRentsModel", "readUnit", "()I"⟩, prog_14_method_40_code, 2, (some .int))
theorem okm_readUnit : mV tm_readUnit 0 := ⟨⟨tb_in (ch_7_8 _ (List.mem_of_getElem? (i := 2) rfl)) rfl, tb_in (ch_1_0 _ (List.mem_of_getElem? (i := 14) rfl)) rfl, ⟨cq_17.1, cq_17.2, by decide +kernel⟩, by decide⟩, tb_in (ch_7_8 _ (List.mem_of_getElem? (i := 1) rfl)) rfl, tb_in (cs_6 _ (List.mem_of_getElem? (i := 0) (a := (⟨"GingerRentsModel", "readUnit", "()I"⟩, 75)) rfl)) rfl⟩
def tm_readProduct : MM := (⟨"GingerRentsModel", "readProduct", "()I"⟩, prog_14_method_41_code, 2, (some .int))
theorem okm_readProduct : mV tm_readProduct 0 := ⟨⟨tb_in (ch_7_7 _ (List.mem_of_getElem? (i := 14) rfl)) rfl, tb_in (ch_1_0 _ (List.mem_of_getElem? (i := 14) rfl)) rfl, ⟨cq_17.1, cq_17.2, by decide +kernel⟩, by decide⟩, tb_in (ch_7_7 _ (List.mem_of_getElem? (i := 13) rfl)) rfl, tb_in (cs_5 _ (List.mem_of_getElem? (i := 15) (a := (⟨"GingerRentsModel", "readProduct", "()I"⟩, 75)) rfl)) rfl⟩
def tm_readSum : MM := (⟨"GingerRentsModel", "readSum", "()I"⟩, prog_14_method_42_code, 2, (some .int))
theorem okm_readSum : mV tm_readSum 0 := ⟨⟨tb_in (ch_7_7 _ (List.mem_of_getElem? (i := 10) rfl)) rfl, tb_in (ch_1_0 _ (List.mem_of_getElem? (i := 14) rfl)) rfl, ⟨cq_17.1, cq_17.2, by decide +kernel⟩, by decide⟩, tb_in (ch_7_7 _ (List.mem_of_getElem? (i := 9) rfl)) rfl, tb_in (cs_5 _ (List.mem_of_getElem? (i := 14) (a := (⟨"GingerRentsModel", "readSum", "()I"⟩, 75)) rfl)) rfl⟩
def tm_readCompared : MM := (⟨"GingerRentsModel", "readCompared", "()I"⟩, prog_14_method_43_code, 2, (some .int))
theorem okm_readCompared : mV tm_readCompared 0 := ⟨⟨tb_in (ch_7_9 _ (List.mem_of_getElem? (i := 6) rfl)) rfl, tb_in (ch_1_0 _ (List.mem_of_getElem? (i := 14) rfl)) rfl, ⟨cq_17.1, cq_17.2, by decide +kernel⟩, by decide⟩, tb_in (ch_7_9 _ (List.mem_of_getElem? (i := 5) rfl)) rfl, tb_in (cs_6 _ (List.mem_of_getElem? (i := 5) (a := (⟨"GingerRentsModel", "readCompared", "()I"⟩, 75)) rfl)) rfl⟩
def tm_waits : MM := (⟨"GingerRentsModel", "waits", "(I)V"⟩, prog_14_method_44_code, 2, none)
theorem okm_waits : mV tm_waits 1 := ⟨⟨tb_in (ch_7_9 _ (List.mem_of_getElem? (i := 2) rfl)) rfl, tb_in (ch_1_0 _ (List.mem_of_getElem? (i := 14) rfl)) rfl, ⟨cq_17.1, cq_17.2, by decide +kernel⟩, by decide⟩, tb_in (ch_7_9 _ (List.mem_of_getElem? (i := 1) rfl)) rfl, tb_in (cs_6 _ (List.mem_of_getElem? (i := 4) (a := (⟨"GingerRentsModel", "waits", "(I)V"⟩, 75)) rfl)) rfl⟩
def tm_settles : MM := (⟨"GingerRentsModel", "settles", "(I)V"⟩, prog_14_method_45_code, 2, none)
theorem okm_settles : mV tm_settles 1 := ⟨⟨tb_in (ch_7_9 _ (List.mem_of_getElem? (i := 10) rfl)) rfl, tb_in (ch_1_0 _ (List.mem_of_getElem? (i := 14) rfl)) rfl, ⟨cq_17.1, cq_17.2, by decide +kernel⟩, by decide⟩, tb_in (ch_7_9 _ (List.mem_of_getElem? (i := 9) rfl)) rfl, tb_in (cs_6 _ (List.mem_of_getElem? (i := 6) (a := (⟨"GingerRentsModel", "settles", "(I)V"⟩, 75)) rfl)) rfl⟩
def tm_readAny : MM := (⟨"GingerRentsModel", "readAny", "()I"⟩, prog_14_method_46_code, 4, (some .int))
theorem okm_readAny : mV tm_readAny 0 := ⟨⟨tb_in (ch_7_8 _ (List.mem_of_getElem? (i := 14) rfl)) rfl, tb_in (ch_1_0 _ (List.mem_of_getElem? (i := 14) rfl)) rfl, ⟨cq_17.1, cq_17.2, by decide +kernel⟩, by decide⟩, tb_in (ch_7_8 _ (List.mem_of_getElem? (i := 13) rfl)) rfl, tb_in (cs_6 _ (List.mem_of_getElem? (i := 3) (a := (⟨"GingerRentsModel", "readAny", "()I"⟩, 75)) rfl)) rfl⟩
def tm_isLineWord : MM := (⟨"GingerRentsModel", "isLineWord", "()Z"⟩, prog_14_method_47_code, 1, (some .boolean))
theorem okm_isLineWord : mV tm_isLineWord 0 := ⟨⟨tb_in (ch_7_7 _ (List.mem_of_getElem? (i := 6) rfl)) rfl, tb_in (ch_1_0 _ (List.mem_of_getElem? (i := 14) rfl)) rfl, ⟨cq_17.1, cq_17.2, by decide +kernel⟩, by decide⟩, tb_in (ch_7_7 _ (List.mem_of_getElem? (i := 5) rfl)) rfl, tb_in (cs_5 _ (List.mem_of_getElem? (i := 13) (a := (⟨"GingerRentsModel", "isLineWord", "()Z"⟩, 75)) rfl)) rfl⟩
def tm_readLaw : MM := (⟨"GingerRentsModel", "readLaw", "()I"⟩, prog_14_method_48_code, 3, (some .int))
theorem okm_readLaw : mV tm_readLaw 0 := ⟨⟨tb_in (ch_7_7 _ (List.mem_of_getElem? (i := 2) rfl)) rfl, tb_in (ch_1_0 _ (List.mem_of_getElem? (i := 14) rfl)) rfl, ⟨cq_17.1, cq_17.2, by decide +kernel⟩, by decide⟩, tb_in (ch_7_7 _ (List.mem_of_getElem? (i := 1) rfl)) rfl, tb_in (cs_5 _ (List.mem_of_getElem? (i := 12) (a := (⟨"GingerRentsModel", "readLaw", "()I"⟩, 75)) rfl)) rfl⟩
def tm_takesLaw : MM := (⟨"GingerRentsModel", "takesLaw", "(I)V"⟩, prog_14_method_49_code, 3, none)
theorem okm_takesLaw : mV tm_takesLaw 1 := ⟨⟨tb_in (ch_7_9 _ (List.mem_of_getElem? (i := 14) rfl)) rfl, tb_in (ch_1_0 _ (List.mem_of_getElem? (i := 14) rfl)) rfl, ⟨cq_17.1, cq_17.2, by decide +kernel⟩, by decide⟩, tb_in (ch_7_9 _ (List.mem_of_getElem? (i := 13) rfl)) rfl, tb_in (cs_6 _ (List.mem_of_getElem? (i := 7) (a := (⟨"GingerRentsModel", "takesLaw", "(I)V"⟩, 75)) rfl)) rfl⟩
def tm_readNumber : MM := (⟨"GingerRentsModel", "readNumber", "(II)I"⟩, prog_14_method_50_code, 4, (some .int))
theorem okm_readNumber : mV tm_readNumber 2 := ⟨⟨tb_in (ch_7_5 _ (List.mem_of_getElem? (i := 6) rfl)) rfl, tb_in (ch_1_0 _ (List.mem_of_getElem? (i := 14) rfl)) rfl, ⟨cq_17.1, cq_17.2, by decide +kernel⟩, by decide⟩, tb_in (ch_7_5 _ (List.mem_of_getElem? (i := 5) rfl)) rfl, tb_in (cs_5 _ (List.mem_of_getElem? (i := 5) (a := (⟨"GingerRentsModel", "readNumber", "(II)I"⟩, 75)) rfl)) rfl⟩
def tm_readMark : MM := (⟨"GingerRentsModel", "readMark", "(I)I"⟩, prog_14_method_51_code, 2, (some .int))
theorem okm_readMark : mV tm_readMark 1 := ⟨⟨tb_in (ch_7_5 _ (List.mem_of_getElem? (i := 10) rfl)) rfl, tb_in (ch_1_0 _ (List.mem_of_getElem? (i := 14) rfl)) rfl, ⟨cq_17.1, cq_17.2, by decide +kernel⟩, by decide⟩, tb_in (ch_7_5 _ (List.mem_of_getElem? (i := 9) rfl)) rfl, tb_in (cs_5 _ (List.mem_of_getElem? (i := 6) (a := (⟨"GingerRentsModel", "readMark", "(I)I"⟩, 75)) rfl)) rfl⟩
def tm_readTold : MM := (⟨"GingerRentsModel", "readTold", "(III)I"⟩, prog_14_method_52_code, 4, (some .int))
theorem okm_readTold : mV tm_readTold 3 := ⟨⟨tb_in (ch_7_5 _ (List.mem_of_getElem? (i := 2) rfl)) rfl, tb_in (ch_1_0 _ (List.mem_of_getElem? (i := 14) rfl)) rfl, ⟨cq_17.1, cq_17.2, by decide +kernel⟩, by decide⟩, tb_in (ch_7_5 _ (List.mem_of_getElem? (i := 1) rfl)) rfl, tb_in (cs_5 _ (List.mem_of_getElem? (i := 4) (a := (⟨"GingerRentsModel", "readTold", "(III)I"⟩, 75)) rfl)) rfl⟩
def tm_readSkyLine : MM := (⟨"GingerRentsModel", "readSkyLine", "(I)I"⟩, prog_14_method_53_code, 3, (some .int))
theorem okm_readSkyLine : mV tm_readSkyLine 1 := ⟨⟨tb_in (ch_7_4 _ (List.mem_of_getElem? (i := 14) rfl)) rfl, tb_in (ch_1_0 _ (List.mem_of_getElem? (i := 14) rfl)) rfl, ⟨cq_17.1, cq_17.2, by decide +kernel⟩, by decide⟩, tb_in (ch_7_4 _ (List.mem_of_getElem? (i := 13) rfl)) rfl, tb_in (cs_5 _ (List.mem_of_getElem? (i := 3) (a := (⟨"GingerRentsModel", "readSkyLine", "(I)I"⟩, 75)) rfl)) rfl⟩
def tm_readSky : MM := (⟨"GingerRentsModel", "readSky", "()I"⟩, prog_14_method_54_code, 2, (some .int))
theorem okm_readSky : mV tm_readSky 0 := ⟨⟨tb_in (ch_7_4 _ (List.mem_of_getElem? (i := 2) rfl)) rfl, tb_in (ch_1_0 _ (List.mem_of_getElem? (i := 14) rfl)) rfl, ⟨cq_17.1, cq_17.2, by decide +kernel⟩, by decide⟩, tb_in (ch_7_4 _ (List.mem_of_getElem? (i := 1) rfl)) rfl, tb_in (cs_5 _ (List.mem_of_getElem? (i := 0) (a := (⟨"GingerRentsModel", "readSky", "()I"⟩, 75)) rfl)) rfl⟩
def tm_readDeed : MM := (⟨"GingerRentsModel", "readDeed", "(I)I"⟩, prog_14_method_55_code, 3, (some .int))
theorem okm_readDeed : mV tm_readDeed 1 := ⟨⟨tb_in (ch_7_6 _ (List.mem_of_getElem? (i := 6) rfl)) rfl, tb_in (ch_1_0 _ (List.mem_of_getElem? (i := 14) rfl)) rfl, ⟨cq_17.1, cq_17.2, by decide +kernel⟩, by decide⟩, tb_in (ch_7_6 _ (List.mem_of_getElem? (i := 5) rfl)) rfl, tb_in (cs_5 _ (List.mem_of_getElem? (i := 9) (a := (⟨"GingerRentsModel", "readDeed", "(I)I"⟩, 75)) rfl)) rfl⟩
def tm_readOffice : MM := (⟨"GingerRentsModel", "readOffice", "()I"⟩, prog_14_method_56_code, 2, (some .int))
theorem okm_readOffice : mV tm_readOffice 0 := ⟨⟨tb_in (ch_7_6 _ (List.mem_of_getElem? (i := 2) rfl)) rfl, tb_in (ch_1_0 _ (List.mem_of_getElem? (i := 14) rfl)) rfl, ⟨cq_17.1, cq_17.2, by decide +kernel⟩, by decide⟩, tb_in (ch_7_6 _ (List.mem_of_getElem? (i := 1) rfl)) rfl, tb_in (cs_5 _ (List.mem_of_getElem? (i := 8) (a := (⟨"GingerRentsModel", "readOffice", "()I"⟩, 75)) rfl)) rfl⟩
def tm_readNext : MM := (⟨"GingerRentsModel", "readNext", "()I"⟩, prog_14_method_57_code, 3, (some .int))
theorem okm_readNext : mV tm_readNext 0 := ⟨⟨tb_in (ch_7_6 _ (List.mem_of_getElem? (i := 14) rfl)) rfl, tb_in (ch_1_0 _ (List.mem_of_getElem? (i := 14) rfl)) rfl, ⟨cq_17.1, cq_17.2, by decide +kernel⟩, by decide⟩, tb_in (ch_7_6 _ (List.mem_of_getElem? (i := 13) rfl)) rfl, tb_in (cs_5 _ (List.mem_of_getElem? (i := 11) (a := (⟨"GingerRentsModel", "readNext", "()I"⟩, 75)) rfl)) rfl⟩
def tm_readNexts : MM := (⟨"GingerRentsModel", "readNexts", "()I"⟩, prog_14_method_58_code, 2, (some .int))
theorem okm_readNexts : mV tm_readNexts 0 := ⟨⟨tb_in (ch_7_6 _ (List.mem_of_getElem? (i := 10) rfl)) rfl, tb_in (ch_1_0 _ (List.mem_of_getElem? (i := 14) rfl)) rfl, ⟨cq_17.1, cq_17.2, by decide +kernel⟩, by decide⟩, tb_in (ch_7_6 _ (List.mem_of_getElem? (i := 9) rfl)) rfl, tb_in (cs_5 _ (List.mem_of_getElem? (i := 10) (a := (⟨"GingerRentsModel", "readNexts", "()I"⟩, 75)) rfl)) rfl⟩
def tm_readsText : MM := (⟨"GingerRentsModel", "readsText", "(I)I"⟩, prog_14_method_59_code, 2, (some .int))
theorem okm_readsText : mV tm_readsText 1 := ⟨⟨tb_in (ch_7_2 _ (List.mem_of_getElem? (i := 6) rfl)) rfl, tb_in (ch_1_0 _ (List.mem_of_getElem? (i := 14) rfl)) rfl, ⟨cq_17.1, cq_17.2, by decide +kernel⟩, by decide⟩, tb_in (ch_7_2 _ (List.mem_of_getElem? (i := 5) rfl)) rfl, tb_in (cs_4 _ (List.mem_of_getElem? (i := 9) (a := (⟨"GingerRentsModel", "readsText", "(I)I"⟩, 75)) rfl)) rfl⟩
def tm_takesOther : MM := (⟨"GingerRentsModel", "takesOther", "(II)V"⟩, prog_14_method_60_code, 4, none)
theorem okm_takesOther : mV tm_takesOther 2 := ⟨⟨tb_in (ch_7_10 _ (List.mem_of_getElem? (i := 2) rfl)) rfl, tb_in (ch_1_0 _ (List.mem_of_getElem? (i := 14) rfl)) rfl, ⟨cq_17.1, cq_17.2, by decide +kernel⟩, by decide⟩, tb_in (ch_7_10 _ (List.mem_of_getElem? (i := 1) rfl)) rfl, tb_in (cs_6 _ (List.mem_of_getElem? (i := 8) (a := (⟨"GingerRentsModel", "takesOther", "(II)V"⟩, 75)) rfl)) rfl⟩
def tm_text : MM := (⟨"GingerRentsModel", "text", "(I)I"⟩, prog_14_method_61_code, 3, (some .int))
theorem okm_text : mV tm_text 1 := ⟨⟨tb_in (ch_7_2 _ (List.mem_of_getElem? (i := 2) rfl)) rfl, tb_in (ch_1_0 _ (List.mem_of_getElem? (i := 14) rfl)) rfl, ⟨cq_17.1, cq_17.2, by decide +kernel⟩, by decide⟩, tb_in (ch_7_2 _ (List.mem_of_getElem? (i := 0) rfl)) rfl, tb_in (ch_7_2 _ (List.mem_of_getElem? (i := 1) rfl)) rfl⟩
def tm_fault : MM := (⟨"GingerRentsModel", "fault", "(I)I"⟩, prog_14_method_62_code, 2, (some .int))
theorem okm_fault : mV tm_fault 1 := ⟨⟨tb_in (ch_7_10 _ (List.mem_of_getElem? (i := 6) rfl)) rfl, tb_in (ch_1_0 _ (List.mem_of_getElem? (i := 14) rfl)) rfl, ⟨cq_17.1, cq_17.2, by decide +kernel⟩, by decide⟩, tb_in (ch_7_10 _ (List.mem_of_getElem? (i := 4) rfl)) rfl, tb_in (ch_7_10 _ (List.mem_of_getElem? (i := 5) rfl)) rfl⟩
def tm_twoOf : MM := (⟨"GingerRentsModel", "twoOf", "(III)I"⟩, prog_14_method_63_code, 4, (some .int))
theorem okm_twoOf : mV tm_twoOf 3 := ⟨⟨tb_in (ch_8_2 _ (List.mem_of_getElem? (i := 2) rfl)) rfl, tb_in (ch_1_0 _ (List.mem_of_getElem? (i := 14) rfl)) rfl, ⟨cq_17.1, cq_17.2, by decide +kernel⟩, by decide⟩, tb_in (ch_8_2 _ (List.mem_of_getElem? (i := 1) rfl)) rfl, tb_in (cs_8 _ (List.mem_of_getElem? (i := 1) (a := (⟨"GingerRentsModel", "twoOf", "(III)I"⟩, 75)) rfl)) rfl⟩
def tm_runs : MM := (⟨"GingerRentsModel", "runs", "(III)I"⟩, prog_14_method_64_code, 6, (some .int))
theorem okm_runs : mV tm_runs 3 := ⟨⟨tb_in (ch_8_1 _ (List.mem_of_getElem? (i := 14) rfl)) rfl, tb_in (ch_1_0 _ (List.mem_of_getElem? (i := 14) rfl)) rfl, ⟨cq_17.1, cq_17.2, by decide +kernel⟩, by decide⟩, tb_in (ch_8_1 _ (List.mem_of_getElem? (i := 13) rfl)) rfl, tb_in (cs_8 _ (List.mem_of_getElem? (i := 0) (a := (⟨"GingerRentsModel", "runs", "(III)I"⟩, 75)) rfl)) rfl⟩
def tm_lineOf : MM := (⟨"GingerRentsModel", "lineOf", "(I)I"⟩, prog_14_method_65_code, 3, (some .int))
theorem okm_lineOf : mV tm_lineOf 1 := ⟨⟨tb_in (ch_8_1 _ (List.mem_of_getElem? (i := 10) rfl)) rfl, tb_in (ch_1_0 _ (List.mem_of_getElem? (i := 14) rfl)) rfl, ⟨cq_17.1, cq_17.2, by decide +kernel⟩, by decide⟩, tb_in (ch_8_1 _ (List.mem_of_getElem? (i := 9) rfl)) rfl, tb_in (cs_7 _ (List.mem_of_getElem? (i := 15) (a := (⟨"GingerRentsModel", "lineOf", "(I)I"⟩, 75)) rfl)) rfl⟩
def tm_asks : MM := (⟨"GingerRentsModel", "asks", "(II)V"⟩, prog_14_method_66_code, 3, none)
theorem okm_asks : mV tm_asks 2 := ⟨⟨tb_in (ch_8_1 _ (List.mem_of_getElem? (i := 2) rfl)) rfl, tb_in (ch_1_0 _ (List.mem_of_getElem? (i := 14) rfl)) rfl, ⟨cq_17.1, cq_17.2, by decide +kernel⟩, by decide⟩, tb_in (ch_8_1 _ (List.mem_of_getElem? (i := 1) rfl)) rfl, tb_in (cs_7 _ (List.mem_of_getElem? (i := 13) (a := (⟨"GingerRentsModel", "asks", "(II)V"⟩, 75)) rfl)) rfl⟩
def tm_lawTells : MM := (⟨"GingerRentsModel", "lawTells", "(III)I"⟩, prog_14_method_67_code, 5, (some .int))
theorem okm_lawTells : mV tm_lawTells 3 := ⟨⟨tb_in (ch_8_1 _ (List.mem_of_getElem? (i := 6) rfl)) rfl, tb_in (ch_1_0 _ (List.mem_of_getElem? (i := 14) rfl)) rfl, ⟨cq_17.1, cq_17.2, by decide +kernel⟩, by decide⟩, tb_in (ch_8_1 _ (List.mem_of_getElem? (i := 5) rfl)) rfl, tb_in (cs_7 _ (List.mem_of_getElem? (i := 14) (a := (⟨"GingerRentsModel", "lawTells", "(III)I"⟩, 75)) rfl)) rfl⟩
def tm_rentOf : MM := (⟨"GingerRentsModel", "rentOf", "(I)I"⟩, prog_14_method_68_code, 2, (some .int))
theorem okm_rentOf : mV tm_rentOf 1 := ⟨⟨tb_in (ch_8_0 _ (List.mem_of_getElem? (i := 14) rfl)) rfl, tb_in (ch_1_0 _ (List.mem_of_getElem? (i := 14) rfl)) rfl, ⟨cq_17.1, cq_17.2, by decide +kernel⟩, by decide⟩, tb_in (ch_8_0 _ (List.mem_of_getElem? (i := 13) rfl)) rfl, tb_in (cs_7 _ (List.mem_of_getElem? (i := 12) (a := (⟨"GingerRentsModel", "rentOf", "(I)I"⟩, 75)) rfl)) rfl⟩
def tm_gnawsOf : MM := (⟨"GingerRentsModel", "gnawsOf", "(II)I"⟩, prog_14_method_69_code, 3, (some .int))
theorem okm_gnawsOf : mV tm_gnawsOf 2 := ⟨⟨tb_in (ch_8_2 _ (List.mem_of_getElem? (i := 10) rfl)) rfl, tb_in (ch_1_0 _ (List.mem_of_getElem? (i := 14) rfl)) rfl, ⟨cq_17.1, cq_17.2, by decide +kernel⟩, by decide⟩, tb_in (ch_8_2 _ (List.mem_of_getElem? (i := 9) rfl)) rfl, tb_in (cs_8 _ (List.mem_of_getElem? (i := 3) (a := (⟨"GingerRentsModel", "gnawsOf", "(II)I"⟩, 75)) rfl)) rfl⟩
def tm_meltsOf : MM := (⟨"GingerRentsModel", "meltsOf", "(II)I"⟩, prog_14_method_70_code, 3, (some .int))
theorem okm_meltsOf : mV tm_meltsOf 2 := ⟨⟨tb_in (ch_8_3 _ (List.mem_of_getElem? (i := 8) rfl)) rfl, tb_in (ch_1_0 _ (List.mem_of_getElem? (i := 14) rfl)) rfl, ⟨cq_17.1, cq_17.2, by decide +kernel⟩, by decide⟩, tb_in (ch_8_3 _ (List.mem_of_getElem? (i := 7) rfl)) rfl, tb_in (cs_8 _ (List.mem_of_getElem? (i := 6) (a := (⟨"GingerRentsModel", "meltsOf", "(II)I"⟩, 75)) rfl)) rfl⟩
def tm_notes : MM := (⟨"GingerRentsModel", "notes", "(III)V"⟩, prog_14_method_71_code, 5, none)
theorem okm_notes : mV tm_notes 3 := ⟨⟨tb_in (ch_7_12 _ (List.mem_of_getElem? (i := 6) rfl)) rfl, tb_in (ch_1_0 _ (List.mem_of_getElem? (i := 14) rfl)) rfl, ⟨cq_17.1, cq_17.2, by decide +kernel⟩, by decide⟩, tb_in (ch_7_12 _ (List.mem_of_getElem? (i := 5) rfl)) rfl, tb_in (cs_6 _ (List.mem_of_getElem? (i := 15) (a := (⟨"GingerRentsModel", "notes", "(III)V"⟩, 75)) rfl)) rfl⟩
def tm_lodgersGo : MM := (⟨"GingerRentsModel", "lodgersGo", "(II)V"⟩, prog_14_method_72_code, 4, none)
theorem okm_lodgersGo : mV tm_lodgersGo 2 := ⟨⟨tb_in (ch_7_13 _ (List.mem_of_getElem? (i := 2) rfl)) rfl, tb_in (ch_1_0 _ (List.mem_of_getElem? (i := 14) rfl)) rfl, ⟨cq_17.1, cq_17.2, by decide +kernel⟩, by decide⟩, tb_in (ch_7_13 _ (List.mem_of_getElem? (i := 1) rfl)) rfl, tb_in (cs_7 _ (List.mem_of_getElem? (i := 2) (a := (⟨"GingerRentsModel", "lodgersGo", "(II)V"⟩, 75)) rfl)) rfl⟩
def tm_areOut : MM := (⟨"GingerRentsModel", "areOut", "(I)V"⟩, prog_14_method_73_code, 4, none)
theorem okm_areOut : mV tm_areOut 1 := ⟨⟨tb_in (ch_7_12 _ (List.mem_of_getElem? (i := 10) rfl)) rfl, tb_in (ch_1_0 _ (List.mem_of_getElem? (i := 14) rfl)) rfl, ⟨cq_17.1, cq_17.2, by decide +kernel⟩, by decide⟩, tb_in (ch_7_12 _ (List.mem_of_getElem? (i := 9) rfl)) rfl, tb_in (cs_7 _ (List.mem_of_getElem? (i := 0) (a := (⟨"GingerRentsModel", "areOut", "(I)V"⟩, 75)) rfl)) rfl⟩
def tm_isWed : MM := (⟨"GingerRentsModel", "isWed", "(I)V"⟩, prog_14_method_74_code, 3, none)
theorem okm_isWed : mV tm_isWed 1 := ⟨⟨tb_in (ch_7_13 _ (List.mem_of_getElem? (i := 6) rfl)) rfl, tb_in (ch_1_0 _ (List.mem_of_getElem? (i := 14) rfl)) rfl, ⟨cq_17.1, cq_17.2, by decide +kernel⟩, by decide⟩, tb_in (ch_7_13 _ (List.mem_of_getElem? (i := 5) rfl)) rfl, tb_in (cs_7 _ (List.mem_of_getElem? (i := 3) (a := (⟨"GingerRentsModel", "isWed", "(I)V"⟩, 75)) rfl)) rfl⟩
def tm_canWed : MM := (⟨"GingerRentsModel", "canWed", "(I)Z"⟩, prog_14_method_75_code, 2, (some .boolean))
theorem okm_canWed : mV tm_canWed 1 := ⟨⟨tb_in (ch_7_11 _ (List.mem_of_getElem? (i := 6) rfl)) rfl, tb_in (ch_1_0 _ (List.mem_of_getElem? (i := 14) rfl)) rfl, ⟨cq_17.1, cq_17.2, by decide +kernel⟩, by decide⟩, tb_in (ch_7_11 _ (List.mem_of_getElem? (i := 5) rfl)) rfl, tb_in (cs_6 _ (List.mem_of_getElem? (i := 11) (a := (⟨"GingerRentsModel", "canWed", "(I)Z"⟩, 75)) rfl)) rfl⟩
def tm_isRazed : MM := (⟨"GingerRentsModel", "isRazed", "(I)V"⟩, prog_14_method_76_code, 3, none)
theorem okm_isRazed : mV tm_isRazed 1 := ⟨⟨tb_in (ch_7_13 _ (List.mem_of_getElem? (i := 14) rfl)) rfl, tb_in (ch_1_0 _ (List.mem_of_getElem? (i := 14) rfl)) rfl, ⟨cq_17.1, cq_17.2, by decide +kernel⟩, by decide⟩, tb_in (ch_7_13 _ (List.mem_of_getElem? (i := 13) rfl)) rfl, tb_in (cs_7 _ (List.mem_of_getElem? (i := 5) (a := (⟨"GingerRentsModel", "isRazed", "(I)V"⟩, 75)) rfl)) rfl⟩
def tm_canAct : MM := (⟨"GingerRentsModel", "canAct", "(III)Z"⟩, prog_14_method_77_code, 4, (some .boolean))
theorem okm_canAct : mV tm_canAct 3 := ⟨⟨tb_in (ch_7_10 _ (List.mem_of_getElem? (i := 14) rfl)) rfl, tb_in (ch_1_0 _ (List.mem_of_getElem? (i := 14) rfl)) rfl, ⟨cq_17.1, cq_17.2, by decide +kernel⟩, by decide⟩, tb_in (ch_7_10 _ (List.mem_of_getElem? (i := 13) rfl)) rfl, tb_in (cs_6 _ (List.mem_of_getElem? (i := 9) (a := (⟨"GingerRentsModel", "canAct", "(III)Z"⟩, 75)) rfl)) rfl⟩
def tm_act : MM := (⟨"GingerRentsModel", "act", "(III)Z"⟩, prog_14_method_78_code, 4, (some .boolean))
theorem okm_act : mV tm_act 3 := ⟨⟨tb_in (ch_7_10 _ (List.mem_of_getElem? (i := 10) rfl)) rfl, tb_in (ch_1_0 _ (List.mem_of_getElem? (i := 14) rfl)) rfl, ⟨cq_17.1, cq_17.2, by decide +kernel⟩, by decide⟩, tb_in (ch_7_10 _ (List.mem_of_getElem? (i := 8) rfl)) rfl, tb_in (ch_7_10 _ (List.mem_of_getElem? (i := 9) rfl)) rfl⟩
def tm_skyOf : MM := (⟨"GingerRentsModel", "skyOf", "()V"⟩, prog_14_method_79_code, 2, none)
theorem okm_skyOf : mV tm_skyOf 0 := ⟨⟨tb_in (ch_7_14 _ (List.mem_of_getElem? (i := 10) rfl)) rfl, tb_in (ch_1_0 _ (List.mem_of_getElem? (i := 14) rfl)) rfl, ⟨cq_17.1, cq_17.2, by decide +kernel⟩, by decide⟩, tb_in (ch_7_14 _ (List.mem_of_getElem? (i := 9) rfl)) rfl, tb_in (cs_7 _ (List.mem_of_getElem? (i := 7) (a := (⟨"GingerRentsModel", "skyOf", "()V"⟩, 75)) rfl)) rfl⟩
def tm_does : MM := (⟨"GingerRentsModel", "does", "(I)V"⟩, prog_14_method_80_code, 5, none)
theorem okm_does : mV tm_does 1 := ⟨⟨tb_in (ch_7_14 _ (List.mem_of_getElem? (i := 14) rfl)) rfl, tb_in (ch_1_0 _ (List.mem_of_getElem? (i := 14) rfl)) rfl, ⟨cq_17.1, cq_17.2, by decide +kernel⟩, by decide⟩, tb_in (ch_7_14 _ (List.mem_of_getElem? (i := 13) rfl)) rfl, tb_in (cs_7 _ (List.mem_of_getElem? (i := 8) (a := (⟨"GingerRentsModel", "does", "(I)V"⟩, 75)) rfl)) rfl⟩
def tm_paysRent : MM := (⟨"GingerRentsModel", "paysRent", "(I)V"⟩, prog_14_method_81_code, 5, none)
theorem okm_paysRent : mV tm_paysRent 1 := ⟨⟨tb_in (ch_8_0 _ (List.mem_of_getElem? (i := 10) rfl)) rfl, tb_in (ch_1_0 _ (List.mem_of_getElem? (i := 14) rfl)) rfl, ⟨cq_17.1, cq_17.2, by decide +kernel⟩, by decide⟩, tb_in (ch_8_0 _ (List.mem_of_getElem? (i := 9) rfl)) rfl, tb_in (cs_7 _ (List.mem_of_getElem? (i := 11) (a := (⟨"GingerRentsModel", "paysRent", "(I)V"⟩, 75)) rfl)) rfl⟩
def tm_isGnawed : MM := (⟨"GingerRentsModel", "isGnawed", "(I)V"⟩, prog_14_method_82_code, 6, none)
theorem okm_isGnawed : mV tm_isGnawed 1 := ⟨⟨tb_in (ch_8_2 _ (List.mem_of_getElem? (i := 6) rfl)) rfl, tb_in (ch_1_0 _ (List.mem_of_getElem? (i := 14) rfl)) rfl, ⟨cq_17.1, cq_17.2, by decide +kernel⟩, by decide⟩, tb_in (ch_8_2 _ (List.mem_of_getElem? (i := 5) rfl)) rfl, tb_in (cs_8 _ (List.mem_of_getElem? (i := 2) (a := (⟨"GingerRentsModel", "isGnawed", "(I)V"⟩, 75)) rfl)) rfl⟩
def tm_doesMelt : MM := (⟨"GingerRentsModel", "doesMelt", "(I)V"⟩, prog_14_method_83_code, 5, none)
theorem okm_doesMelt : mV tm_doesMelt 1 := ⟨⟨tb_in (ch_8_3 _ (List.mem_of_getElem? (i := 4) rfl)) rfl, tb_in (ch_1_0 _ (List.mem_of_getElem? (i := 14) rfl)) rfl, ⟨cq_17.1, cq_17.2, by decide +kernel⟩, by decide⟩, tb_in (ch_8_3 _ (List.mem_of_getElem? (i := 3) rfl)) rfl, tb_in (cs_8 _ (List.mem_of_getElem? (i := 5) (a := (⟨"GingerRentsModel", "doesMelt", "(I)V"⟩, 75)) rfl)) rfl⟩
def tm_goesBy : MM := (⟨"GingerRentsModel", "goesBy", "()I"⟩, prog_14_method_84_code, 3, (some .int))
theorem okm_goesBy : mV tm_goesBy 0 := ⟨⟨tb_in (ch_7_14 _ (List.mem_of_getElem? (i := 6) rfl)) rfl, tb_in (ch_1_0 _ (List.mem_of_getElem? (i := 14) rfl)) rfl, ⟨cq_17.1, cq_17.2, by decide +kernel⟩, by decide⟩, tb_in (ch_7_14 _ (List.mem_of_getElem? (i := 5) rfl)) rfl, tb_in (cs_7 _ (List.mem_of_getElem? (i := 6) (a := (⟨"GingerRentsModel", "goesBy", "()I"⟩, 75)) rfl)) rfl⟩
def tm_quarters : MM := (⟨"GingerRentsModel", "quarters", "(I)I"⟩, prog_14_method_85_code, 4, (some .int))
theorem okm_quarters : mV tm_quarters 1 := ⟨⟨tb_in (ch_7_14 _ (List.mem_of_getElem? (i := 2) rfl)) rfl, tb_in (ch_1_0 _ (List.mem_of_getElem? (i := 14) rfl)) rfl, ⟨cq_17.1, cq_17.2, by decide +kernel⟩, by decide⟩, tb_in (ch_7_14 _ (List.mem_of_getElem? (i := 0) rfl)) rfl, tb_in (ch_7_14 _ (List.mem_of_getElem? (i := 1) rfl)) rfl⟩
def tm_of : MM := (⟨"GingerRentsModel", "of", "(II)I"⟩, prog_14_method_86_code, 3, (some .int))
theorem okm_of : mV tm_of 2 := ⟨⟨tb_in (ch_8_4 _ (List.mem_of_getElem? (i := 4) rfl)) rfl, tb_in (ch_1_0 _ (List.mem_of_getElem? (i := 14) rfl)) rfl, ⟨cq_17.1, cq_17.2, by decide +kernel⟩, by decide⟩, tb_in (ch_8_4 _ (List.mem_of_getElem? (i := 2) rfl)) rfl, tb_in (ch_8_4 _ (List.mem_of_getElem? (i := 3) rfl)) rfl⟩
def tm_book : MM := (⟨"GingerRentsModel", "book", "(II)I"⟩, prog_14_method_87_code, 3, (some .int))
theorem okm_book : mV tm_book 2 := ⟨⟨tb_in (ch_8_4 _ (List.mem_of_getElem? (i := 8) rfl)) rfl, tb_in (ch_1_0 _ (List.mem_of_getElem? (i := 14) rfl)) rfl, ⟨cq_17.1, cq_17.2, by decide +kernel⟩, by decide⟩, tb_in (ch_8_4 _ (List.mem_of_getElem? (i := 6) rfl)) rfl, tb_in (ch_8_4 _ (List.mem_of_getElem? (i := 7) rfl)) rfl⟩
def tm_allOf : MM := (⟨"GingerRentsModel", "allOf", "(I)I"⟩, prog_14_method_88_code, 4, (some .int))
theorem okm_allOf : mV tm_allOf 1 := ⟨⟨tb_in (ch_8_5 _ (List.mem_of_getElem? (i := 4) rfl)) rfl, tb_in (ch_1_0 _ (List.mem_of_getElem? (i := 14) rfl)) rfl, ⟨cq_17.1, cq_17.2, by decide +kernel⟩, by decide⟩, tb_in (ch_8_5 _ (List.mem_of_getElem? (i := 3) rfl)) rfl, tb_in (cs_8 _ (List.mem_of_getElem? (i := 10) (a := (⟨"GingerRentsModel", "allOf", "(I)I"⟩, 75)) rfl)) rfl⟩
def tm_goes : MM := (⟨"GingerRentsModel", "goes", "(II)I"⟩, prog_14_method_89_code, 4, (some .int))
theorem okm_goes : mV tm_goes 2 := ⟨⟨tb_in (ch_8_4 _ (List.mem_of_getElem? (i := 12) rfl)) rfl, tb_in (ch_1_0 _ (List.mem_of_getElem? (i := 14) rfl)) rfl, ⟨cq_17.1, cq_17.2, by decide +kernel⟩, by decide⟩, tb_in (ch_8_4 _ (List.mem_of_getElem? (i := 10) rfl)) rfl, tb_in (ch_8_4 _ (List.mem_of_getElem? (i := 11) rfl)) rfl⟩
def tm_stands : MM := (⟨"GingerRentsModel", "stands", "(I)I"⟩, prog_14_method_90_code, 3, (some .int))
theorem okm_stands : mV tm_stands 1 := ⟨⟨tb_in (ch_8_5 _ (List.mem_of_getElem? (i := 12) rfl)) rfl, tb_in (ch_1_0 _ (List.mem_of_getElem? (i := 14) rfl)) rfl, ⟨cq_17.1, cq_17.2, by decide +kernel⟩, by decide⟩, tb_in (ch_8_5 _ (List.mem_of_getElem? (i := 10) rfl)) rfl, tb_in (ch_8_5 _ (List.mem_of_getElem? (i := 11) rfl)) rfl⟩
def tm_stepCost : MM := (⟨"GingerRentsModel", "stepCost", "(II)I"⟩, prog_14_method_91_code, 3, (some .int))
theorem okm_stepCost : mV tm_stepCost 2 := ⟨⟨tb_in (ch_8_6 _ (List.mem_of_getElem? (i := 13) rfl)) rfl, tb_in (ch_1_0 _ (List.mem_of_getElem? (i := 14) rfl)) rfl, ⟨cq_17.1, cq_17.2, by decide +kernel⟩, by decide⟩, tb_in (ch_8_6 _ (List.mem_of_getElem? (i := 12) rfl)) rfl, tb_in (cs_8 _ (List.mem_of_getElem? (i := 14) (a := (⟨"GingerRentsModel", "stepCost", "(II)I"⟩, 75)) rfl)) rfl⟩
def tm_findsCosts : MM := (⟨"GingerRentsModel", "findsCosts", "(IZ)V"⟩, prog_14_method_92_code, 7, none)
theorem okm_findsCosts : mV tm_findsCosts 2 := ⟨⟨tb_in (ch_8_6 _ (List.mem_of_getElem? (i := 8) rfl)) rfl, tb_in (ch_1_0 _ (List.mem_of_getElem? (i := 14) rfl)) rfl, ⟨cq_17.1, cq_17.2, by decide +kernel⟩, by decide⟩, tb_in (ch_8_6 _ (List.mem_of_getElem? (i := 7) rfl)) rfl, tb_in (cs_8 _ (List.mem_of_getElem? (i := 13) (a := (⟨"GingerRentsModel", "findsCosts", "(IZ)V"⟩, 75)) rfl)) rfl⟩
def tm_costOf : MM := (⟨"GingerRentsModel", "costOf", "(IIZ)I"⟩, prog_14_method_93_code, 4, (some .int))
theorem okm_costOf : mV tm_costOf 3 := ⟨⟨tb_in (ch_8_6 _ (List.mem_of_getElem? (i := 4) rfl)) rfl, tb_in (ch_1_0 _ (List.mem_of_getElem? (i := 14) rfl)) rfl, ⟨cq_17.1, cq_17.2, by decide +kernel⟩, by decide⟩, tb_in (ch_8_6 _ (List.mem_of_getElem? (i := 3) rfl)) rfl, tb_in (cs_8 _ (List.mem_of_getElem? (i := 12) (a := (⟨"GingerRentsModel", "costOf", "(IIZ)I"⟩, 75)) rfl)) rfl⟩
def tm_hears : MM := (⟨"GingerRentsModel", "hears", "(II)I"⟩, prog_14_method_94_code, 3, (some .int))
theorem okm_hears : mV tm_hears 2 := ⟨⟨tb_in (ch_8_6 _ (List.mem_of_getElem? (i := 0) rfl)) rfl, tb_in (ch_1_0 _ (List.mem_of_getElem? (i := 14) rfl)) rfl, ⟨cq_17.1, cq_17.2, by decide +kernel⟩, by decide⟩, tb_in (ch_8_5 _ (List.mem_of_getElem? (i := 14) rfl)) rfl, tb_in (ch_8_5 _ (List.mem_of_getElem? (i := 15) rfl)) rfl⟩
def tm_heard : MM := (⟨"GingerRentsModel", "heard", "(II)I"⟩, prog_14_method_95_code, 5, (some .int))
theorem okm_heard : mV tm_heard 2 := ⟨⟨tb_in (ch_8_7 _ (List.mem_of_getElem? (i := 1) rfl)) rfl, tb_in (ch_1_0 _ (List.mem_of_getElem? (i := 14) rfl)) rfl, ⟨cq_17.1, cq_17.2, by decide +kernel⟩, by decide⟩, tb_in (ch_8_6 _ (List.mem_of_getElem? (i := 15) rfl)) rfl, tb_in (ch_8_7 _ (List.mem_of_getElem? (i := 0) rfl)) rfl⟩
def tm_ants : MM := (⟨"GingerRentsModel", "ants", "(II)I"⟩, prog_14_method_96_code, 3, (some .int))
theorem okm_ants : mV tm_ants 2 := ⟨⟨tb_in (ch_8_7 _ (List.mem_of_getElem? (i := 5) rfl)) rfl, tb_in (ch_1_0 _ (List.mem_of_getElem? (i := 14) rfl)) rfl, ⟨cq_17.1, cq_17.2, by decide +kernel⟩, by decide⟩, tb_in (ch_8_7 _ (List.mem_of_getElem? (i := 3) rfl)) rfl, tb_in (ch_8_7 _ (List.mem_of_getElem? (i := 4) rfl)) rfl⟩
def tm_piece : MM := (⟨"GingerRentsModel", "piece", "(I)I"⟩, prog_14_method_97_code, 2, (some .int))
theorem okm_piece : mV tm_piece 1 := ⟨⟨tb_in (ch_8_7 _ (List.mem_of_getElem? (i := 9) rfl)) rfl, tb_in (ch_1_0 _ (List.mem_of_getElem? (i := 14) rfl)) rfl, ⟨cq_17.1, cq_17.2, by decide +kernel⟩, by decide⟩, tb_in (ch_8_7 _ (List.mem_of_getElem? (i := 7) rfl)) rfl, tb_in (ch_8_7 _ (List.mem_of_getElem? (i := 8) rfl)) rfl⟩
def tm_piecesOver : MM := (⟨"GingerRentsModel", "piecesOver", "(II)I"⟩, prog_14_method_98_code, 5, (some .int))
theorem okm_piecesOver : mV tm_piecesOver 2 := ⟨⟨tb_in (ch_8_8 _ (List.mem_of_getElem? (i := 5) rfl)) rfl, tb_in (ch_1_0 _ (List.mem_of_getElem? (i := 14) rfl)) rfl, ⟨cq_17.1, cq_17.2, by decide +kernel⟩, by decide⟩, tb_in (ch_8_8 _ (List.mem_of_getElem? (i := 4) rfl)) rfl, tb_in (cs_9 _ (List.mem_of_getElem? (i := 0) (a := (⟨"GingerRentsModel", "piecesOver", "(II)I"⟩, 75)) rfl)) rfl⟩
def tm_findsShares : MM := (⟨"GingerRentsModel", "findsShares", "()V"⟩, prog_14_method_99_code, 5, none)
theorem okm_findsShares : mV tm_findsShares 0 := ⟨⟨tb_in (ch_8_8 _ (List.mem_of_getElem? (i := 1) rfl)) rfl, tb_in (ch_1_0 _ (List.mem_of_getElem? (i := 14) rfl)) rfl, ⟨cq_17.1, cq_17.2, by decide +kernel⟩, by decide⟩, tb_in (ch_8_8 _ (List.mem_of_getElem? (i := 0) rfl)) rfl, tb_in (cs_8 _ (List.mem_of_getElem? (i := 15) (a := (⟨"GingerRentsModel", "findsShares", "()V"⟩, 75)) rfl)) rfl⟩
def tm_plate : MM := (⟨"GingerRentsModel", "plate", "(II)I"⟩, prog_14_method_100_code, 5, (some .int))
theorem okm_plate : mV tm_plate 2 := ⟨⟨tb_in (ch_8_7 _ (List.mem_of_getElem? (i := 13) rfl)) rfl, tb_in (ch_1_0 _ (List.mem_of_getElem? (i := 14) rfl)) rfl, ⟨cq_17.1, cq_17.2, by decide +kernel⟩, by decide⟩, tb_in (ch_8_7 _ (List.mem_of_getElem? (i := 11) rfl)) rfl, tb_in (ch_8_7 _ (List.mem_of_getElem? (i := 12) rfl)) rfl⟩
def tm_dough : MM := (⟨"GingerRentsModel", "dough", "(I)I"⟩, prog_14_method_101_code, 2, (some .int))
theorem okm_dough : mV tm_dough 1 := ⟨⟨tb_in (ch_8_8 _ (List.mem_of_getElem? (i := 9) rfl)) rfl, tb_in (ch_1_0 _ (List.mem_of_getElem? (i := 14) rfl)) rfl, ⟨cq_17.1, cq_17.2, by decide +kernel⟩, by decide⟩, tb_in (ch_8_8 _ (List.mem_of_getElem? (i := 7) rfl)) rfl, tb_in (ch_8_8 _ (List.mem_of_getElem? (i := 8) rfl)) rfl⟩
def tm_withDough : MM := (⟨"GingerRentsModel", "withDough", "(III)I"⟩, prog_14_method_102_code, 6, (some .int))
theorem okm_withDough : mV tm_withDough 3 := ⟨⟨tb_in (ch_8_9 _ (List.mem_of_getElem? (i := 5) rfl)) rfl, tb_in (ch_1_0 _ (List.mem_of_getElem? (i := 14) rfl)) rfl, ⟨cq_17.1, cq_17.2, by decide +kernel⟩, by decide⟩, tb_in (ch_8_9 _ (List.mem_of_getElem? (i := 4) rfl)) rfl, tb_in (cs_9 _ (List.mem_of_getElem? (i := 2) (a := (⟨"GingerRentsModel", "withDough", "(III)I"⟩, 75)) rfl)) rfl⟩
def tm_fewestPans : MM := (⟨"GingerRentsModel", "fewestPans", "(I)I"⟩, prog_14_method_103_code, 4, (some .int))
theorem okm_fewestPans : mV tm_fewestPans 1 := ⟨⟨tb_in (ch_8_9 _ (List.mem_of_getElem? (i := 1) rfl)) rfl, tb_in (ch_1_0 _ (List.mem_of_getElem? (i := 14) rfl)) rfl, ⟨cq_17.1, cq_17.2, by decide +kernel⟩, by decide⟩, tb_in (ch_8_9 _ (List.mem_of_getElem? (i := 0) rfl)) rfl, tb_in (cs_9 _ (List.mem_of_getElem? (i := 1) (a := (⟨"GingerRentsModel", "fewestPans", "(I)I"⟩, 75)) rfl)) rfl⟩
def tm_firstPans : MM := (⟨"GingerRentsModel", "firstPans", "(I)I"⟩, prog_14_method_104_code, 5, (some .int))
theorem okm_firstPans : mV tm_firstPans 1 := ⟨⟨tb_in (ch_8_9 _ (List.mem_of_getElem? (i := 9) rfl)) rfl, tb_in (ch_1_0 _ (List.mem_of_getElem? (i := 14) rfl)) rfl, ⟨cq_17.1, cq_17.2, by decide +kernel⟩, by decide⟩, tb_in (ch_8_9 _ (List.mem_of_getElem? (i := 8) rfl)) rfl, tb_in (cs_9 _ (List.mem_of_getElem? (i := 3) (a := (⟨"GingerRentsModel", "firstPans", "(I)I"⟩, 75)) rfl)) rfl⟩
def tm_pans : MM := (⟨"GingerRentsModel", "pans", "(II)I"⟩, prog_14_method_105_code, 4, (some .int))
theorem okm_pans : mV tm_pans 2 := ⟨⟨tb_in (ch_8_8 _ (List.mem_of_getElem? (i := 13) rfl)) rfl, tb_in (ch_1_0 _ (List.mem_of_getElem? (i := 14) rfl)) rfl, ⟨cq_17.1, cq_17.2, by decide +kernel⟩, by decide⟩, tb_in (ch_8_8 _ (List.mem_of_getElem? (i := 11) rfl)) rfl, tb_in (ch_8_8 _ (List.mem_of_getElem? (i := 12) rfl)) rfl⟩
def tm_mortgage : MM := (⟨"GingerRentsModel", "mortgage", "(IIII)I"⟩, prog_14_method_106_code, 10, (some .int))
theorem okm_mortgage : mV tm_mortgage 4 := ⟨⟨tb_in (ch_8_9 _ (List.mem_of_getElem? (i := 13) rfl)) rfl, tb_in (ch_1_0 _ (List.mem_of_getElem? (i := 14) rfl)) rfl, ⟨cq_17.1, cq_17.2, by decide +kernel⟩, by decide⟩, tb_in (ch_8_9 _ (List.mem_of_getElem? (i := 11) rfl)) rfl, tb_in (ch_8_9 _ (List.mem_of_getElem? (i := 12) rfl)) rfl⟩
def tm_mark : MM := (⟨"GingerRentsModel", "mark", "(I)I"⟩, prog_14_method_107_code, 2, (some .int))
theorem okm_mark : mV tm_mark 1 := ⟨⟨tb_in (ch_8_10 _ (List.mem_of_getElem? (i := 1) rfl)) rfl, tb_in (ch_1_0 _ (List.mem_of_getElem? (i := 14) rfl)) rfl, ⟨cq_17.1, cq_17.2, by decide +kernel⟩, by decide⟩, tb_in (ch_8_9 _ (List.mem_of_getElem? (i := 15) rfl)) rfl, tb_in (ch_8_10 _ (List.mem_of_getElem? (i := 0) rfl)) rfl⟩
def tm_isMeasured : MM := (⟨"GingerRentsModel", "isMeasured", "(I)Z"⟩, prog_14_method_108_code, 4, (some .boolean))
theorem okm_isMeasured : mV tm_isMeasured 1 := ⟨⟨tb_in (ch_8_10 _ (List.mem_of_getElem? (i := 9) rfl)) rfl, tb_in (ch_1_0 _ (List.mem_of_getElem? (i := 14) rfl)) rfl, ⟨cq_17.1, cq_17.2, by decide +kernel⟩, by decide⟩, tb_in (ch_8_10 _ (List.mem_of_getElem? (i := 8) rfl)) rfl, tb_in (cs_9 _ (List.mem_of_getElem? (i := 4) (a := (⟨"GingerRentsModel", "isMeasured", "(I)Z"⟩, 75)) rfl)) rfl⟩
def tm_measures : MM := (⟨"GingerRentsModel", "measures", "(I)I"⟩, prog_14_method_109_code, 4, (some .int))
theorem okm_measures : mV tm_measures 1 := ⟨⟨tb_in (ch_8_10 _ (List.mem_of_getElem? (i := 5) rfl)) rfl, tb_in (ch_1_0 _ (List.mem_of_getElem? (i := 14) rfl)) rfl, ⟨cq_17.1, cq_17.2, by decide +kernel⟩, by decide⟩, tb_in (ch_8_10 _ (List.mem_of_getElem? (i := 3) rfl)) rfl, tb_in (ch_8_10 _ (List.mem_of_getElem? (i := 4) rfl)) rfl⟩
def tm_bite : MM := (⟨"GingerRentsModel", "bite", "(II)I"⟩, prog_14_method_110_code, 3, (some .int))
theorem okm_bite : mV tm_bite 2 := ⟨⟨tb_in (ch_8_11 _ (List.mem_of_getElem? (i := 1) rfl)) rfl, tb_in (ch_1_0 _ (List.mem_of_getElem? (i := 14) rfl)) rfl, ⟨cq_17.1, cq_17.2, by decide +kernel⟩, by decide⟩, tb_in (ch_8_10 _ (List.mem_of_getElem? (i := 15) rfl)) rfl, tb_in (ch_8_11 _ (List.mem_of_getElem? (i := 0) rfl)) rfl⟩
def tm_whose : MM := (⟨"GingerRentsModel", "whose", "(II)I"⟩, prog_14_method_111_code, 5, (some .int))
theorem okm_whose : mV tm_whose 2 := ⟨⟨tb_in (ch_8_11 _ (List.mem_of_getElem? (i := 5) rfl)) rfl, tb_in (ch_1_0 _ (List.mem_of_getElem? (i := 14) rfl)) rfl, ⟨cq_17.1, cq_17.2, by decide +kernel⟩, by decide⟩, tb_in (ch_8_11 _ (List.mem_of_getElem? (i := 3) rfl)) rfl, tb_in (ch_8_11 _ (List.mem_of_getElem? (i := 4) rfl)) rfl⟩
def tm_crumb : MM := (⟨"GingerRentsModel", "crumb", "(I)I"⟩, prog_14_method_112_code, 2, (some .int))
theorem okm_crumb : mV tm_crumb 1 := ⟨⟨tb_in (ch_8_11 _ (List.mem_of_getElem? (i := 9) rfl)) rfl, tb_in (ch_1_0 _ (List.mem_of_getElem? (i := 14) rfl)) rfl, ⟨cq_17.1, cq_17.2, by decide +kernel⟩, by decide⟩, tb_in (ch_8_11 _ (List.mem_of_getElem? (i := 7) rfl)) rfl, tb_in (ch_8_11 _ (List.mem_of_getElem? (i := 8) rfl)) rfl⟩
def tm_crumbs : MM := (⟨"GingerRentsModel", "crumbs", "(I)I"⟩, prog_14_method_113_code, 6, (some .int))
theorem okm_crumbs : mV tm_crumbs 1 := ⟨⟨tb_in (ch_8_11 _ (List.mem_of_getElem? (i := 13) rfl)) rfl, tb_in (ch_1_0 _ (List.mem_of_getElem? (i := 14) rfl)) rfl, ⟨cq_17.1, cq_17.2, by decide +kernel⟩, by decide⟩, tb_in (ch_8_11 _ (List.mem_of_getElem? (i := 11) rfl)) rfl, tb_in (ch_8_11 _ (List.mem_of_getElem? (i := 12) rfl)) rfl⟩
def tm_loaf : MM := (⟨"GingerRentsModel", "loaf", "(II)I"⟩, prog_14_method_114_code, 3, (some .int))
theorem okm_loaf : mV tm_loaf 2 := ⟨⟨tb_in (ch_8_12 _ (List.mem_of_getElem? (i := 1) rfl)) rfl, tb_in (ch_1_0 _ (List.mem_of_getElem? (i := 14) rfl)) rfl, ⟨cq_17.1, cq_17.2, by decide +kernel⟩, by decide⟩, tb_in (ch_8_11 _ (List.mem_of_getElem? (i := 15) rfl)) rfl, tb_in (ch_8_12 _ (List.mem_of_getElem? (i := 0) rfl)) rfl⟩
def tm_goesToNextOrder : MM := (⟨"GingerRentsModel", "goesToNextOrder", "()Z"⟩, prog_14_method_115_code, 6, (some .boolean))
theorem okm_goesToNextOrder : mV tm_goesToNextOrder 0 := ⟨⟨tb_in (ch_8_12 _ (List.mem_of_getElem? (i := 13) rfl)) rfl, tb_in (ch_1_0 _ (List.mem_of_getElem? (i := 14) rfl)) rfl, ⟨cq_17.1, cq_17.2, by decide +kernel⟩, by decide⟩, tb_in (ch_8_12 _ (List.mem_of_getElem? (i := 12) rfl)) rfl, tb_in (cs_9 _ (List.mem_of_getElem? (i := 7) (a := (⟨"GingerRentsModel", "goesToNextOrder", "()Z"⟩, 75)) rfl)) rfl⟩
def tm_doneBy : MM := (⟨"GingerRentsModel", "doneBy", "()I"⟩, prog_14_method_116_code, 4, (some .int))
theorem okm_doneBy : mV tm_doneBy 0 := ⟨⟨tb_in (ch_8_12 _ (List.mem_of_getElem? (i := 9) rfl)) rfl, tb_in (ch_1_0 _ (List.mem_of_getElem? (i := 14) rfl)) rfl, ⟨cq_17.1, cq_17.2, by decide +kernel⟩, by decide⟩, tb_in (ch_8_12 _ (List.mem_of_getElem? (i := 8) rfl)) rfl, tb_in (cs_9 _ (List.mem_of_getElem? (i := 6) (a := (⟨"GingerRentsModel", "doneBy", "()I"⟩, 75)) rfl)) rfl⟩
def tm_ovens : MM := (⟨"GingerRentsModel", "ovens", "(I)I"⟩, prog_14_method_117_code, 6, (some .int))
theorem okm_ovens : mV tm_ovens 1 := ⟨⟨tb_in (ch_8_12 _ (List.mem_of_getElem? (i := 5) rfl)) rfl, tb_in (ch_1_0 _ (List.mem_of_getElem? (i := 14) rfl)) rfl, ⟨cq_17.1, cq_17.2, by decide +kernel⟩, by decide⟩, tb_in (ch_8_12 _ (List.mem_of_getElem? (i := 3) rfl)) rfl, tb_in (ch_8_12 _ (List.mem_of_getElem? (i := 4) rfl)) rfl⟩
def tm_areAlone : MM := (⟨"GingerRentsModel", "areAlone", "(I)Z"⟩, prog_14_method_118_code, 3, (some .boolean))
theorem okm_areAlone : mV tm_areAlone 1 := ⟨⟨tb_in (ch_8_13 _ (List.mem_of_getElem? (i := 5) rfl)) rfl, tb_in (ch_1_0 _ (List.mem_of_getElem? (i := 14) rfl)) rfl, ⟨cq_17.1, cq_17.2, by decide +kernel⟩, by decide⟩, tb_in (ch_8_13 _ (List.mem_of_getElem? (i := 4) rfl)) rfl, tb_in (cs_9 _ (List.mem_of_getElem? (i := 8) (a := (⟨"GingerRentsModel", "areAlone", "(I)Z"⟩, 75)) rfl)) rfl⟩
def tm_alone : MM := (⟨"GingerRentsModel", "alone", "(I)I"⟩, prog_14_method_119_code, 5, (some .int))
theorem okm_alone : mV tm_alone 1 := ⟨⟨tb_in (ch_8_13 _ (List.mem_of_getElem? (i := 1) rfl)) rfl, tb_in (ch_1_0 _ (List.mem_of_getElem? (i := 14) rfl)) rfl, ⟨cq_17.1, cq_17.2, by decide +kernel⟩, by decide⟩, tb_in (ch_8_12 _ (List.mem_of_getElem? (i := 15) rfl)) rfl, tb_in (ch_8_13 _ (List.mem_of_getElem? (i := 0) rfl)) rfl⟩
def tm_heir : MM := (⟨"GingerRentsModel", "heir", "(II)I"⟩, prog_14_method_120_code, 4, (some .int))
theorem okm_heir : mV tm_heir 2 := ⟨⟨tb_in (ch_8_13 _ (List.mem_of_getElem? (i := 9) rfl)) rfl, tb_in (ch_1_0 _ (List.mem_of_getElem? (i := 14) rfl)) rfl, ⟨cq_17.1, cq_17.2, by decide +kernel⟩, by decide⟩, tb_in (ch_8_13 _ (List.mem_of_getElem? (i := 7) rfl)) rfl, tb_in (ch_8_13 _ (List.mem_of_getElem? (i := 8) rfl)) rfl⟩
def tm_line : MM := (⟨"GingerRentsModel", "line", "(II)I"⟩, prog_14_method_121_code, 5, (some .int))
theorem okm_line : mV tm_line 2 := ⟨⟨tb_in (ch_8_13 _ (List.mem_of_getElem? (i := 13) rfl)) rfl, tb_in (ch_1_0 _ (List.mem_of_getElem? (i := 14) rfl)) rfl, ⟨cq_17.1, cq_17.2, by decide +kernel⟩, by decide⟩, tb_in (ch_8_13 _ (List.mem_of_getElem? (i := 11) rfl)) rfl, tb_in (ch_8_13 _ (List.mem_of_getElem? (i := 12) rfl)) rfl⟩
def tm_window : MM := (⟨"GingerRentsModel", "window", "(I)I"⟩, prog_14_method_122_code, 3, (some .int))
theorem okm_window : mV tm_window 1 := ⟨⟨tb_in (ch_8_14 _ (List.mem_of_getElem? (i := 1) rfl)) rfl, tb_in (ch_1_0 _ (List.mem_of_getElem? (i := 14) rfl)) rfl, ⟨cq_17.1, cq_17.2, by decide +kernel⟩, by decide⟩, tb_in (ch_8_13 _ (List.mem_of_getElem? (i := 15) rfl)) rfl, tb_in (ch_8_14 _ (List.mem_of_getElem? (i := 0) rfl)) rfl⟩
def tm_member : MM := (⟨"GingerRentsModel", "member", "(II)I"⟩, prog_14_method_123_code, 3, (some .int))
theorem okm_member : mV tm_member 2 := ⟨⟨tb_in (ch_8_14 _ (List.mem_of_getElem? (i := 5) rfl)) rfl, tb_in (ch_1_0 _ (List.mem_of_getElem? (i := 14) rfl)) rfl, ⟨cq_17.1, cq_17.2, by decide +kernel⟩, by decide⟩, tb_in (ch_8_14 _ (List.mem_of_getElem? (i := 3) rfl)) rfl, tb_in (ch_8_14 _ (List.mem_of_getElem? (i := 4) rfl)) rfl⟩
def tm_moreOf : MM := (⟨"GingerRentsModel", "moreOf", "(I)I"⟩, prog_14_method_124_code, 4, (some .int))
theorem okm_moreOf : mV tm_moreOf 1 := ⟨⟨tb_in (ch_8_14 _ (List.mem_of_getElem? (i := 13) rfl)) rfl, tb_in (ch_1_0 _ (List.mem_of_getElem? (i := 14) rfl)) rfl, ⟨cq_17.1, cq_17.2, by decide +kernel⟩, by decide⟩, tb_in (ch_8_14 _ (List.mem_of_getElem? (i := 12) rfl)) rfl, tb_in (cs_9 _ (List.mem_of_getElem? (i := 9) (a := (⟨"GingerRentsModel", "moreOf", "(I)I"⟩, 75)) rfl)) rfl⟩
def tm_council : MM := (⟨"GingerRentsModel", "council", "(I)I"⟩, prog_14_method_125_code, 6, (some .int))
theorem okm_council : mV tm_council 1 := ⟨⟨tb_in (ch_8_14 _ (List.mem_of_getElem? (i := 9) rfl)) rfl, tb_in (ch_1_0 _ (List.mem_of_getElem? (i := 14) rfl)) rfl, ⟨cq_17.1, cq_17.2, by decide +kernel⟩, by decide⟩, tb_in (ch_8_14 _ (List.mem_of_getElem? (i := 7) rfl)) rfl, tb_in (ch_8_14 _ (List.mem_of_getElem? (i := 8) rfl)) rfl⟩
def tm_takesSlab : MM := (⟨"GingerRentsModel", "takesSlab", "(I)V"⟩, prog_14_method_126_code, 4, none)
theorem okm_takesSlab : mV tm_takesSlab 1 := ⟨⟨tb_in (ch_9_0 _ (List.mem_of_getElem? (i := 5) rfl)) rfl, tb_in (ch_1_0 _ (List.mem_of_getElem? (i := 14) rfl)) rfl, ⟨cq_17.1, cq_17.2, by decide +kernel⟩, by decide⟩, tb_in (ch_9_0 _ (List.mem_of_getElem? (i := 4) rfl)) rfl, tb_in (cs_9 _ (List.mem_of_getElem? (i := 10) (a := (⟨"GingerRentsModel", "takesSlab", "(I)V"⟩, 75)) rfl)) rfl⟩
def tm_isSlab : MM := (⟨"GingerRentsModel", "isSlab", "()Z"⟩, prog_14_method_127_code, 2, (some .boolean))
theorem okm_isSlab : mV tm_isSlab 0 := ⟨⟨tb_in (ch_9_0 _ (List.mem_of_getElem? (i := 9) rfl)) rfl, tb_in (ch_1_0 _ (List.mem_of_getElem? (i := 14) rfl)) rfl, ⟨cq_17.1, cq_17.2, by decide +kernel⟩, by decide⟩, tb_in (ch_9_0 _ (List.mem_of_getElem? (i := 8) rfl)) rfl, tb_in (cs_9 _ (List.mem_of_getElem? (i := 11) (a := (⟨"GingerRentsModel", "isSlab", "()Z"⟩, 75)) rfl)) rfl⟩
def tm_bitten : MM := (⟨"GingerRentsModel", "bitten", "(II)I"⟩, prog_14_method_128_code, 5, (some .int))
theorem okm_bitten : mV tm_bitten 2 := ⟨⟨tb_in (ch_9_1 _ (List.mem_of_getElem? (i := 1) rfl)) rfl, tb_in (ch_1_0 _ (List.mem_of_getElem? (i := 14) rfl)) rfl, ⟨cq_17.1, cq_17.2, by decide +kernel⟩, by decide⟩, tb_in (ch_9_1 _ (List.mem_of_getElem? (i := 0) rfl)) rfl, tb_in (cs_9 _ (List.mem_of_getElem? (i := 13) (a := (⟨"GingerRentsModel", "bitten", "(II)I"⟩, 75)) rfl)) rfl⟩
def tm_goodBite : MM := (⟨"GingerRentsModel", "goodBite", "()I"⟩, prog_14_method_129_code, 3, (some .int))
theorem okm_goodBite : mV tm_goodBite 0 := ⟨⟨tb_in (ch_9_0 _ (List.mem_of_getElem? (i := 13) rfl)) rfl, tb_in (ch_1_0 _ (List.mem_of_getElem? (i := 14) rfl)) rfl, ⟨cq_17.1, cq_17.2, by decide +kernel⟩, by decide⟩, tb_in (ch_9_0 _ (List.mem_of_getElem? (i := 12) rfl)) rfl, tb_in (cs_9 _ (List.mem_of_getElem? (i := 12) (a := (⟨"GingerRentsModel", "goodBite", "()I"⟩, 75)) rfl)) rfl⟩
def tm_game : MM := (⟨"GingerRentsModel", "game", "(II)I"⟩, prog_14_method_130_code, 5, (some .int))
theorem okm_game : mV tm_game 2 := ⟨⟨tb_in (ch_9_0 _ (List.mem_of_getElem? (i := 1) rfl)) rfl, tb_in (ch_1_0 _ (List.mem_of_getElem? (i := 14) rfl)) rfl, ⟨cq_17.1, cq_17.2, by decide +kernel⟩, by decide⟩, tb_in (ch_8_14 _ (List.mem_of_getElem? (i := 15) rfl)) rfl, tb_in (ch_9_0 _ (List.mem_of_getElem? (i := 0) rfl)) rfl⟩
def tm_keeps : MM := (⟨"GingerRentsModel", "keeps", "(I)I"⟩, prog_14_method_131_code, 2, (some .int))
theorem okm_keeps : mV tm_keeps 1 := ⟨⟨tb_in (ch_9_1 _ (List.mem_of_getElem? (i := 9) rfl)) rfl, tb_in (ch_1_0 _ (List.mem_of_getElem? (i := 14) rfl)) rfl, ⟨cq_17.1, cq_17.2, by decide +kernel⟩, by decide⟩, tb_in (ch_9_1 _ (List.mem_of_getElem? (i := 8) rfl)) rfl, tb_in (cs_9 _ (List.mem_of_getElem? (i := 14) (a := (⟨"GingerRentsModel", "keeps", "(I)I"⟩, 75)) rfl)) rfl⟩
def tm_keepsLaw : MM := (⟨"GingerRentsModel", "keepsLaw", "()V"⟩, prog_14_method_132_code, 2, none)
theorem okm_keepsLaw : mV tm_keepsLaw 0 := ⟨⟨tb_in (ch_9_2 _ (List.mem_of_getElem? (i := 5) rfl)) rfl, tb_in (ch_1_0 _ (List.mem_of_getElem? (i := 14) rfl)) rfl, ⟨cq_17.1, cq_17.2, by decide +kernel⟩, by decide⟩, tb_in (ch_9_2 _ (List.mem_of_getElem? (i := 4) rfl)) rfl, tb_in (cs_10 _ (List.mem_of_getElem? (i := 1) (a := (⟨"GingerRentsModel", "keepsLaw", "()V"⟩, 75)) rfl)) rfl⟩
def tm_keepsMany : MM := (⟨"GingerRentsModel", "keepsMany", "()V"⟩, prog_14_method_133_code, 1, none)
theorem okm_keepsMany : mV tm_keepsMany 0 := ⟨⟨tb_in (ch_9_1 _ (List.mem_of_getElem? (i := 13) rfl)) rfl, tb_in (ch_1_0 _ (List.mem_of_getElem? (i := 14) rfl)) rfl, ⟨cq_17.1, cq_17.2, by decide +kernel⟩, by decide⟩, tb_in (ch_9_1 _ (List.mem_of_getElem? (i := 12) rfl)) rfl, tb_in (cs_9 _ (List.mem_of_getElem? (i := 15) (a := (⟨"GingerRentsModel", "keepsMany", "()V"⟩, 75)) rfl)) rfl⟩
def tm_keepsTold : MM := (⟨"GingerRentsModel", "keepsTold", "()V"⟩, prog_14_method_134_code, 2, none)
theorem okm_keepsTold : mV tm_keepsTold 0 := ⟨⟨tb_in (ch_9_2 _ (List.mem_of_getElem? (i := 1) rfl)) rfl, tb_in (ch_1_0 _ (List.mem_of_getElem? (i := 14) rfl)) rfl, ⟨cq_17.1, cq_17.2, by decide +kernel⟩, by decide⟩, tb_in (ch_9_2 _ (List.mem_of_getElem? (i := 0) rfl)) rfl, tb_in (cs_10 _ (List.mem_of_getElem? (i := 0) (a := (⟨"GingerRentsModel", "keepsTold", "()V"⟩, 75)) rfl)) rfl⟩
def tm_image : MM := (⟨"GingerRentsModel", "image", "(Z)Z"⟩, prog_14_method_135_code, 3, (some .boolean))
theorem okm_image : mV tm_image 1 := ⟨⟨tb_in (ch_9_1 _ (List.mem_of_getElem? (i := 5) rfl)) rfl, tb_in (ch_1_0 _ (List.mem_of_getElem? (i := 14) rfl)) rfl, ⟨cq_17.1, cq_17.2, by decide +kernel⟩, by decide⟩, tb_in (ch_9_1 _ (List.mem_of_getElem? (i := 3) rfl)) rfl, tb_in (ch_9_1 _ (List.mem_of_getElem? (i := 4) rfl)) rfl⟩
def tm_look : MM := (⟨"GingerRentsModel", "look", "(I)I"⟩, prog_14_method_136_code, 2, (some .int))
theorem okm_look : mV tm_look 1 := ⟨⟨tb_in (ch_9_2 _ (List.mem_of_getElem? (i := 9) rfl)) rfl, tb_in (ch_1_0 _ (List.mem_of_getElem? (i := 14) rfl)) rfl, ⟨cq_17.1, cq_17.2, by decide +kernel⟩, by decide⟩, tb_in (ch_9_2 _ (List.mem_of_getElem? (i := 7) rfl)) rfl, tb_in (ch_9_2 _ (List.mem_of_getElem? (i := 8) rfl)) rfl⟩
theorem fum_149 : fu "GingerRentsModel" 149 12 3 := ⟨_, _, _, rfl, by decide, rfl, tb_in (ch_6_0 _ (List.mem_of_getElem? (i := 0) rfl)) rfl⟩
theorem fum_13 : fu "GingerRentsModel" 13 12 2 := ⟨_, _, _, rfl, by decide, rfl, tb_in (ch_5_14 _ (List.mem_of_getElem? (i := 15) rfl)) rfl⟩
theorem fum_7 : fu "GingerRentsModel" 7 12 1 := ⟨_, _, _, rfl, by decide, rfl, tb_in (ch_5_14 _ (List.mem_of_getElem? (i := 14) rfl)) rfl⟩
theorem fum_146 : fu "GingerRentsModel" 146 12 0 := ⟨_, _, _, rfl, by decide, rfl, tb_in (ch_5_14 _ (List.mem_of_getElem? (i := 13) rfl)) rfl⟩
theorem fum_16 : fu "GingerRentsModel" 16 12 4 := ⟨_, _, _, rfl, by decide, rfl, tb_in (ch_6_0 _ (List.mem_of_getElem? (i := 1) rfl)) rfl⟩
theorem fum_152 : fu "GingerRentsModel" 152 12 5 := ⟨_, _, _, rfl, by decide, rfl, tb_in (ch_6_0 _ (List.mem_of_getElem? (i := 2) rfl)) rfl⟩
theorem lcm_156 : Cond.constant "GingerRentsModel" 156 1664525 ∈ tb := tb_in (ch_8_2 _ (List.mem_of_getElem? (i := 15) rfl)) rfl
theorem lcm_157 : Cond.constant "GingerRentsModel" 157 1013904223 ∈ tb := tb_in (ch_8_3 _ (List.mem_of_getElem? (i := 0) rfl)) rfl
theorem fum_158 : fu "GingerRentsModel" 158 12 6 := ⟨_, _, _, rfl, by decide, rfl, tb_in (ch_6_0 _ (List.mem_of_getElem? (i := 3) rfl)) rfl⟩
theorem mlm_161 : Cond.methodLink "GingerRentsModel" 161 ⟨"GingerRentsModel", "held", "(III)I"⟩ ∈ tb := tb_in (ch_7_0 _ (List.mem_of_getElem? (i := 15) rfl)) rfl
theorem mlm_165 : Cond.methodLink "GingerRentsModel" 165 ⟨"GingerRentsModel", "wallOf", "(II)I"⟩ ∈ tb := tb_in (ch_7_10 _ (List.mem_of_getElem? (i := 15) rfl)) rfl
theorem mlm_169 : Cond.methodLink "GingerRentsModel" 169 ⟨"GingerRentsModel", "sumOf", "(I)I"⟩ ∈ tb := tb_in (ch_7_11 _ (List.mem_of_getElem? (i := 11) rfl)) rfl
theorem mlm_173 : Cond.methodLink "GingerRentsModel" 173 ⟨"GingerRentsModel", "doesStand", "(I)Z"⟩ ∈ tb := tb_in (ch_7_11 _ (List.mem_of_getElem? (i := 7) rfl)) rfl
theorem mlm_177 : Cond.methodLink "GingerRentsModel" 177 ⟨"GingerRentsModel", "isIn", "(III)Z"⟩ ∈ tb := tb_in (ch_6_14 _ (List.mem_of_getElem? (i := 11) rfl)) rfl
theorem fum_19 : fu "GingerRentsModel" 19 12 7 := ⟨_, _, _, rfl, by decide, rfl, tb_in (ch_6_0 _ (List.mem_of_getElem? (i := 4) rfl)) rfl⟩
theorem fum_22 : fu "GingerRentsModel" 22 12 8 := ⟨_, _, _, rfl, by decide, rfl, tb_in (ch_6_0 _ (List.mem_of_getElem? (i := 5) rfl)) rfl⟩
theorem mlm_181 : Cond.methodLink "GingerRentsModel" 181 ⟨"GingerRentsModel", "isHouse", "(I)Z"⟩ ∈ tb := tb_in (ch_7_0 _ (List.mem_of_getElem? (i := 7) rfl)) rfl
theorem mlm_184 : Cond.methodLink "GingerRentsModel" 184 ⟨"GingerRentsModel", "canSet", "(III)Z"⟩ ∈ tb := tb_in (ch_7_0 _ (List.mem_of_getElem? (i := 3) rfl)) rfl
theorem mlm_187 : Cond.methodLink "GingerRentsModel" 187 ⟨"GingerRentsModel", "hasWall", "(III)V"⟩ ∈ tb := tb_in (ch_7_0 _ (List.mem_of_getElem? (i := 11) rfl)) rfl
theorem fum_28 : fu "GingerRentsModel" 28 12 10 := ⟨_, _, _, rfl, by decide, rfl, tb_in (ch_6_0 _ (List.mem_of_getElem? (i := 7) rfl)) rfl⟩
theorem fum_191 : fu "GingerRentsModel" 191 12 11 := ⟨_, _, _, rfl, by decide, rfl, tb_in (ch_6_0 _ (List.mem_of_getElem? (i := 8) rfl)) rfl⟩
theorem mlm_194 : Cond.methodLink "GingerRentsModel" 194 ⟨"GingerRentsModel", "types", "(I)V"⟩ ∈ tb := tb_in (ch_7_1 _ (List.mem_of_getElem? (i := 7) rfl)) rfl
theorem fum_31 : fu "GingerRentsModel" 31 12 16 := ⟨_, _, _, rfl, by decide, rfl, tb_in (ch_6_0 _ (List.mem_of_getElem? (i := 13) rfl)) rfl⟩
theorem fum_198 : fu "GingerRentsModel" 198 12 12 := ⟨_, _, _, rfl, by decide, rfl, tb_in (ch_6_0 _ (List.mem_of_getElem? (i := 9) rfl)) rfl⟩
theorem mlm_201 : Cond.methodLink "GingerRentsModel" 201 ⟨"GingerRentsModel", "raw", "(I)I"⟩ ∈ tb := tb_in (ch_7_2 _ (List.mem_of_getElem? (i := 11) rfl)) rfl
theorem fum_204 : fu "GingerRentsModel" 204 12 13 := ⟨_, _, _, rfl, by decide, rfl, tb_in (ch_6_0 _ (List.mem_of_getElem? (i := 10) rfl)) rfl⟩
theorem fum_207 : fu "GingerRentsModel" 207 12 14 := ⟨_, _, _, rfl, by decide, rfl, tb_in (ch_6_0 _ (List.mem_of_getElem? (i := 11) rfl)) rfl⟩
theorem fum_210 : fu "GingerRentsModel" 210 12 15 := ⟨_, _, _, rfl, by decide, rfl, tb_in (ch_6_0 _ (List.mem_of_getElem? (i := 12) rfl)) rfl⟩
theorem mlm_213 : Cond.methodLink "GingerRentsModel" 213 ⟨"GingerRentsModel", "isLetter", "(I)Z"⟩ ∈ tb := tb_in (ch_7_2 _ (List.mem_of_getElem? (i := 15) rfl)) rfl
theorem mlm_216 : Cond.methodLink "GingerRentsModel" 216 ⟨"GingerRentsModel", "wordAt", "(II)I"⟩ ∈ tb := tb_in (ch_7_3 _ (List.mem_of_getElem? (i := 3) rfl)) rfl
theorem mlm_219 : Cond.methodLink "GingerRentsModel" 219 ⟨"GingerRentsModel", "isDigit", "(I)Z"⟩ ∈ tb := tb_in (ch_7_3 _ (List.mem_of_getElem? (i := 7) rfl)) rfl
theorem mlm_222 : Cond.methodLink "GingerRentsModel" 222 ⟨"GingerRentsModel", "isMarkSign", "(I)Z"⟩ ∈ tb := tb_in (ch_7_3 _ (List.mem_of_getElem? (i := 11) rfl)) rfl
theorem fum_225 : fu "GingerRentsModel" 225 12 29 := ⟨_, _, _, rfl, by decide, rfl, tb_in (ch_6_1 _ (List.mem_of_getElem? (i := 10) rfl)) rfl⟩
theorem fum_228 : fu "GingerRentsModel" 228 12 30 := ⟨_, _, _, rfl, by decide, rfl, tb_in (ch_6_1 _ (List.mem_of_getElem? (i := 11) rfl)) rfl⟩
theorem fum_49 : fu "GingerRentsModel" 49 12 22 := ⟨_, _, _, rfl, by decide, rfl, tb_in (ch_6_1 _ (List.mem_of_getElem? (i := 3) rfl)) rfl⟩
theorem fum_231 : fu "GingerRentsModel" 231 12 25 := ⟨_, _, _, rfl, by decide, rfl, tb_in (ch_6_1 _ (List.mem_of_getElem? (i := 6) rfl)) rfl⟩
theorem fum_52 : fu "GingerRentsModel" 52 12 23 := ⟨_, _, _, rfl, by decide, rfl, tb_in (ch_6_1 _ (List.mem_of_getElem? (i := 4) rfl)) rfl⟩
theorem mlm_234 : Cond.methodLink "GingerRentsModel" 234 ⟨"GingerRentsModel", "canAsk", "(I)Z"⟩ ∈ tb := tb_in (ch_7_8 _ (List.mem_of_getElem? (i := 3) rfl)) rfl
theorem mlm_237 : Cond.methodLink "GingerRentsModel" 237 ⟨"GingerRentsModel", "errs", "(I)I"⟩ ∈ tb := tb_in (ch_7_4 _ (List.mem_of_getElem? (i := 7) rfl)) rfl
theorem mlm_240 : Cond.methodLink "GingerRentsModel" 240 ⟨"GingerRentsModel", "emits", "(II)V"⟩ ∈ tb := tb_in (ch_7_8 _ (List.mem_of_getElem? (i := 7) rfl)) rfl
theorem mlm_244 : Cond.methodLink "GingerRentsModel" 244 ⟨"GingerRentsModel", "reads", "()V"⟩ ∈ tb := tb_in (ch_7_2 _ (List.mem_of_getElem? (i := 7) rfl)) rfl
theorem mlm_247 : Cond.methodLink "GingerRentsModel" 247 ⟨"GingerRentsModel", "readUnit", "()I"⟩ ∈ tb := tb_in (ch_7_7 _ (List.mem_of_getElem? (i := 15) rfl)) rfl
theorem mlm_251 : Cond.methodLink "GingerRentsModel" 251 ⟨"GingerRentsModel", "isSign", "(I)Z"⟩ ∈ tb := tb_in (ch_7_5 _ (List.mem_of_getElem? (i := 11) rfl)) rfl
theorem mlm_254 : Cond.methodLink "GingerRentsModel" 254 ⟨"GingerRentsModel", "readProduct", "()I"⟩ ∈ tb := tb_in (ch_7_7 _ (List.mem_of_getElem? (i := 11) rfl)) rfl
theorem mlm_257 : Cond.methodLink "GingerRentsModel" 257 ⟨"GingerRentsModel", "readSum", "()I"⟩ ∈ tb := tb_in (ch_7_7 _ (List.mem_of_getElem? (i := 7) rfl)) rfl
theorem fum_55 : fu "GingerRentsModel" 55 12 27 := ⟨_, _, _, rfl, by decide, rfl, tb_in (ch_6_1 _ (List.mem_of_getElem? (i := 8) rfl)) rfl⟩
theorem fum_260 : fu "GingerRentsModel" 260 12 28 := ⟨_, _, _, rfl, by decide, rfl, tb_in (ch_6_1 _ (List.mem_of_getElem? (i := 9) rfl)) rfl⟩
theorem fum_263 : fu "GingerRentsModel" 263 12 26 := ⟨_, _, _, rfl, by decide, rfl, tb_in (ch_6_1 _ (List.mem_of_getElem? (i := 7) rfl)) rfl⟩
theorem mlm_266 : Cond.methodLink "GingerRentsModel" 266 ⟨"GingerRentsModel", "isWord", "(I)Z"⟩ ∈ tb := tb_in (ch_7_4 _ (List.mem_of_getElem? (i := 3) rfl)) rfl
theorem mlm_269 : Cond.methodLink "GingerRentsModel" 269 ⟨"GingerRentsModel", "waits", "(I)V"⟩ ∈ tb := tb_in (ch_7_8 _ (List.mem_of_getElem? (i := 15) rfl)) rfl
theorem mlm_272 : Cond.methodLink "GingerRentsModel" 272 ⟨"GingerRentsModel", "readCompared", "()I"⟩ ∈ tb := tb_in (ch_7_9 _ (List.mem_of_getElem? (i := 3) rfl)) rfl
theorem mlm_275 : Cond.methodLink "GingerRentsModel" 275 ⟨"GingerRentsModel", "settles", "(I)V"⟩ ∈ tb := tb_in (ch_7_9 _ (List.mem_of_getElem? (i := 7) rfl)) rfl
theorem mlm_278 : Cond.methodLink "GingerRentsModel" 278 ⟨"GingerRentsModel", "isLineWord", "()Z"⟩ ∈ tb := tb_in (ch_7_7 _ (List.mem_of_getElem? (i := 3) rfl)) rfl
theorem fum_37 : fu "GingerRentsModel" 37 12 18 := ⟨_, _, _, rfl, by decide, rfl, tb_in (ch_6_0 _ (List.mem_of_getElem? (i := 15) rfl)) rfl⟩
theorem fum_40 : fu "GingerRentsModel" 40 12 19 := ⟨_, _, _, rfl, by decide, rfl, tb_in (ch_6_1 _ (List.mem_of_getElem? (i := 0) rfl)) rfl⟩
theorem fum_43 : fu "GingerRentsModel" 43 12 20 := ⟨_, _, _, rfl, by decide, rfl, tb_in (ch_6_1 _ (List.mem_of_getElem? (i := 1) rfl)) rfl⟩
theorem mlm_282 : Cond.methodLink "GingerRentsModel" 282 ⟨"GingerRentsModel", "readAny", "()I"⟩ ∈ tb := tb_in (ch_7_8 _ (List.mem_of_getElem? (i := 11) rfl)) rfl
theorem fum_46 : fu "GingerRentsModel" 46 12 21 := ⟨_, _, _, rfl, by decide, rfl, tb_in (ch_6_1 _ (List.mem_of_getElem? (i := 2) rfl)) rfl⟩
theorem fum_285 : fu "GingerRentsModel" 285 12 24 := ⟨_, _, _, rfl, by decide, rfl, tb_in (ch_6_1 _ (List.mem_of_getElem? (i := 5) rfl)) rfl⟩
theorem fum_34 : fu "GingerRentsModel" 34 12 17 := ⟨_, _, _, rfl, by decide, rfl, tb_in (ch_6_0 _ (List.mem_of_getElem? (i := 14) rfl)) rfl⟩
theorem mlm_288 : Cond.methodLink "GingerRentsModel" 288 ⟨"GingerRentsModel", "readNumber", "(II)I"⟩ ∈ tb := tb_in (ch_7_5 _ (List.mem_of_getElem? (i := 3) rfl)) rfl
theorem fum_62 : fu "GingerRentsModel" 62 12 34 := ⟨_, _, _, rfl, by decide, rfl, tb_in (ch_6_1 _ (List.mem_of_getElem? (i := 15) rfl)) rfl⟩
theorem mlm_291 : Cond.methodLink "GingerRentsModel" 291 ⟨"GingerRentsModel", "readTold", "(III)I"⟩ ∈ tb := tb_in (ch_7_4 _ (List.mem_of_getElem? (i := 15) rfl)) rfl
theorem mlm_294 : Cond.methodLink "GingerRentsModel" 294 ⟨"GingerRentsModel", "readMark", "(I)I"⟩ ∈ tb := tb_in (ch_7_5 _ (List.mem_of_getElem? (i := 7) rfl)) rfl
theorem mlm_297 : Cond.methodLink "GingerRentsModel" 297 ⟨"GingerRentsModel", "readSkyLine", "(I)I"⟩ ∈ tb := tb_in (ch_7_4 _ (List.mem_of_getElem? (i := 11) rfl)) rfl
theorem fum_65 : fu "GingerRentsModel" 65 12 36 := ⟨_, _, _, rfl, by decide, rfl, tb_in (ch_6_2 _ (List.mem_of_getElem? (i := 1) rfl)) rfl⟩
theorem mlm_300 : Cond.methodLink "GingerRentsModel" 300 ⟨"GingerRentsModel", "readDeed", "(I)I"⟩ ∈ tb := tb_in (ch_7_6 _ (List.mem_of_getElem? (i := 3) rfl)) rfl
theorem fum_68 : fu "GingerRentsModel" 68 12 38 := ⟨_, _, _, rfl, by decide, rfl, tb_in (ch_6_2 _ (List.mem_of_getElem? (i := 3) rfl)) rfl⟩
theorem mlm_303 : Cond.methodLink "GingerRentsModel" 303 ⟨"GingerRentsModel", "readNext", "()I"⟩ ∈ tb := tb_in (ch_7_6 _ (List.mem_of_getElem? (i := 11) rfl)) rfl
theorem mlm_306 : Cond.methodLink "GingerRentsModel" 306 ⟨"GingerRentsModel", "readSky", "()I"⟩ ∈ tb := tb_in (ch_7_3 _ (List.mem_of_getElem? (i := 15) rfl)) rfl
theorem mlm_309 : Cond.methodLink "GingerRentsModel" 309 ⟨"GingerRentsModel", "readOffice", "()I"⟩ ∈ tb := tb_in (ch_7_5 _ (List.mem_of_getElem? (i := 15) rfl)) rfl
theorem mlm_312 : Cond.methodLink "GingerRentsModel" 312 ⟨"GingerRentsModel", "readNexts", "()I"⟩ ∈ tb := tb_in (ch_7_6 _ (List.mem_of_getElem? (i := 7) rfl)) rfl
theorem mlm_315 : Cond.methodLink "GingerRentsModel" 315 ⟨"GingerRentsModel", "readLaw", "()I"⟩ ∈ tb := tb_in (ch_7_6 _ (List.mem_of_getElem? (i := 15) rfl)) rfl
theorem fum_318 : fu "GingerRentsModel" 318 12 37 := ⟨_, _, _, rfl, by decide, rfl, tb_in (ch_6_2 _ (List.mem_of_getElem? (i := 2) rfl)) rfl⟩
theorem fum_321 : fu "GingerRentsModel" 321 12 33 := ⟨_, _, _, rfl, by decide, rfl, tb_in (ch_6_1 _ (List.mem_of_getElem? (i := 14) rfl)) rfl⟩
theorem fum_324 : fu "GingerRentsModel" 324 12 35 := ⟨_, _, _, rfl, by decide, rfl, tb_in (ch_6_2 _ (List.mem_of_getElem? (i := 0) rfl)) rfl⟩
theorem fum_327 : fu "GingerRentsModel" 327 12 31 := ⟨_, _, _, rfl, by decide, rfl, tb_in (ch_6_1 _ (List.mem_of_getElem? (i := 12) rfl)) rfl⟩
theorem fum_58 : fu "GingerRentsModel" 58 12 32 := ⟨_, _, _, rfl, by decide, rfl, tb_in (ch_6_1 _ (List.mem_of_getElem? (i := 13) rfl)) rfl⟩
theorem mlm_330 : Cond.methodLink "GingerRentsModel" 330 ⟨"GingerRentsModel", "readsText", "(I)I"⟩ ∈ tb := tb_in (ch_7_2 _ (List.mem_of_getElem? (i := 3) rfl)) rfl
theorem mlm_333 : Cond.methodLink "GingerRentsModel" 333 ⟨"GingerRentsModel", "takesLaw", "(I)V"⟩ ∈ tb := tb_in (ch_7_9 _ (List.mem_of_getElem? (i := 11) rfl)) rfl
theorem mlm_336 : Cond.methodLink "GingerRentsModel" 336 ⟨"GingerRentsModel", "takesOther", "(II)V"⟩ ∈ tb := tb_in (ch_7_9 _ (List.mem_of_getElem? (i := 15) rfl)) rfl
theorem fum_74 : fu "GingerRentsModel" 74 12 40 := ⟨_, _, _, rfl, by decide, rfl, tb_in (ch_6_2 _ (List.mem_of_getElem? (i := 5) rfl)) rfl⟩
theorem fum_71 : fu "GingerRentsModel" 71 12 39 := ⟨_, _, _, rfl, by decide, rfl, tb_in (ch_6_2 _ (List.mem_of_getElem? (i := 4) rfl)) rfl⟩
theorem mlm_339 : Cond.methodLink "GingerRentsModel" 339 ⟨"GingerRentsModel", "twoOf", "(III)I"⟩ ∈ tb := tb_in (ch_8_1 _ (List.mem_of_getElem? (i := 15) rfl)) rfl
theorem mlm_342 : Cond.methodLink "GingerRentsModel" 342 ⟨"GingerRentsModel", "runs", "(III)I"⟩ ∈ tb := tb_in (ch_8_1 _ (List.mem_of_getElem? (i := 11) rfl)) rfl
theorem mlm_345 : Cond.methodLink "GingerRentsModel" 345 ⟨"GingerRentsModel", "lineOf", "(I)I"⟩ ∈ tb := tb_in (ch_8_1 _ (List.mem_of_getElem? (i := 7) rfl)) rfl
theorem mlm_348 : Cond.methodLink "GingerRentsModel" 348 ⟨"GingerRentsModel", "thickest", "(I)I"⟩ ∈ tb := tb_in (ch_7_13 _ (List.mem_of_getElem? (i := 7) rfl)) rfl
theorem mlm_351 : Cond.methodLink "GingerRentsModel" 351 ⟨"GingerRentsModel", "asks", "(II)V"⟩ ∈ tb := tb_in (ch_8_0 _ (List.mem_of_getElem? (i := 15) rfl)) rfl
theorem mlm_354 : Cond.methodLink "GingerRentsModel" 354 ⟨"GingerRentsModel", "lawTells", "(III)I"⟩ ∈ tb := tb_in (ch_8_1 _ (List.mem_of_getElem? (i := 3) rfl)) rfl
theorem fum_25 : fu "GingerRentsModel" 25 12 9 := ⟨_, _, _, rfl, by decide, rfl, tb_in (ch_6_0 _ (List.mem_of_getElem? (i := 6) rfl)) rfl⟩
theorem mlm_357 : Cond.methodLink "GingerRentsModel" 357 ⟨"GingerRentsModel", "notes", "(III)V"⟩ ∈ tb := tb_in (ch_7_12 _ (List.mem_of_getElem? (i := 3) rfl)) rfl
theorem mlm_360 : Cond.methodLink "GingerRentsModel" 360 ⟨"GingerRentsModel", "has", "(II)Z"⟩ ∈ tb := tb_in (ch_7_12 _ (List.mem_of_getElem? (i := 11) rfl)) rfl
theorem mlm_364 : Cond.methodLink "GingerRentsModel" 364 ⟨"GingerRentsModel", "lodgersGo", "(II)V"⟩ ∈ tb := tb_in (ch_7_12 _ (List.mem_of_getElem? (i := 15) rfl)) rfl
theorem mlm_367 : Cond.methodLink "GingerRentsModel" 367 ⟨"GingerRentsModel", "areOut", "(I)V"⟩ ∈ tb := tb_in (ch_7_12 _ (List.mem_of_getElem? (i := 7) rfl)) rfl
theorem mlm_370 : Cond.methodLink "GingerRentsModel" 370 ⟨"GingerRentsModel", "canWed", "(I)Z"⟩ ∈ tb := tb_in (ch_7_11 _ (List.mem_of_getElem? (i := 3) rfl)) rfl
theorem mlm_373 : Cond.methodLink "GingerRentsModel" 373 ⟨"GingerRentsModel", "canAct", "(III)Z"⟩ ∈ tb := tb_in (ch_7_10 _ (List.mem_of_getElem? (i := 11) rfl)) rfl
theorem mlm_376 : Cond.methodLink "GingerRentsModel" 376 ⟨"GingerRentsModel", "keepsAhead", "()V"⟩ ∈ tb := tb_in (ch_7_11 _ (List.mem_of_getElem? (i := 15) rfl)) rfl
theorem mlm_379 : Cond.methodLink "GingerRentsModel" 379 ⟨"GingerRentsModel", "isWed", "(I)V"⟩ ∈ tb := tb_in (ch_7_13 _ (List.mem_of_getElem? (i := 3) rfl)) rfl
theorem mlm_382 : Cond.methodLink "GingerRentsModel" 382 ⟨"GingerRentsModel", "isRazed", "(I)V"⟩ ∈ tb := tb_in (ch_7_13 _ (List.mem_of_getElem? (i := 11) rfl)) rfl
theorem mlm_385 : Cond.methodLink "GingerRentsModel" 385 ⟨"GingerRentsModel", "greater", "(II)I"⟩ ∈ tb := tb_in (ch_7_14 _ (List.mem_of_getElem? (i := 15) rfl)) rfl
theorem mlm_388 : Cond.methodLink "GingerRentsModel" 388 ⟨"GingerRentsModel", "rentOf", "(I)I"⟩ ∈ tb := tb_in (ch_8_0 _ (List.mem_of_getElem? (i := 11) rfl)) rfl
theorem mlm_391 : Cond.methodLink "GingerRentsModel" 391 ⟨"GingerRentsModel", "gnawsOf", "(II)I"⟩ ∈ tb := tb_in (ch_8_2 _ (List.mem_of_getElem? (i := 7) rfl)) rfl
theorem mlm_394 : Cond.methodLink "GingerRentsModel" 394 ⟨"GingerRentsModel", "draw", "(I)I"⟩ ∈ tb := tb_in (ch_8_2 _ (List.mem_of_getElem? (i := 11) rfl)) rfl
theorem mlm_397 : Cond.methodLink "GingerRentsModel" 397 ⟨"GingerRentsModel", "meltsOf", "(II)I"⟩ ∈ tb := tb_in (ch_8_3 _ (List.mem_of_getElem? (i := 5) rfl)) rfl
theorem mlm_400 : Cond.methodLink "GingerRentsModel" 400 ⟨"GingerRentsModel", "lesser", "(II)I"⟩ ∈ tb := tb_in (ch_8_3 _ (List.mem_of_getElem? (i := 9) rfl)) rfl
theorem mlm_403 : Cond.methodLink "GingerRentsModel" 403 ⟨"GingerRentsModel", "skyOf", "()V"⟩ ∈ tb := tb_in (ch_7_14 _ (List.mem_of_getElem? (i := 7) rfl)) rfl
theorem mlm_406 : Cond.methodLink "GingerRentsModel" 406 ⟨"GingerRentsModel", "does", "(I)V"⟩ ∈ tb := tb_in (ch_7_14 _ (List.mem_of_getElem? (i := 11) rfl)) rfl
theorem mlm_409 : Cond.methodLink "GingerRentsModel" 409 ⟨"GingerRentsModel", "standingSet", "()I"⟩ ∈ tb := tb_in (ch_8_0 _ (List.mem_of_getElem? (i := 3) rfl)) rfl
theorem mlm_412 : Cond.methodLink "GingerRentsModel" 412 ⟨"GingerRentsModel", "paysRent", "(I)V"⟩ ∈ tb := tb_in (ch_8_0 _ (List.mem_of_getElem? (i := 7) rfl)) rfl
theorem mlm_415 : Cond.methodLink "GingerRentsModel" 415 ⟨"GingerRentsModel", "isGnawed", "(I)V"⟩ ∈ tb := tb_in (ch_8_2 _ (List.mem_of_getElem? (i := 3) rfl)) rfl
theorem mlm_418 : Cond.methodLink "GingerRentsModel" 418 ⟨"GingerRentsModel", "doesMelt", "(I)V"⟩ ∈ tb := tb_in (ch_8_3 _ (List.mem_of_getElem? (i := 1) rfl)) rfl
theorem mlm_421 : Cond.methodLink "GingerRentsModel" 421 ⟨"GingerRentsModel", "onesOf", "(I)I"⟩ ∈ tb := tb_in (ch_8_3 _ (List.mem_of_getElem? (i := 13) rfl)) rfl
theorem mlm_424 : Cond.methodLink "GingerRentsModel" 424 ⟨"GingerRentsModel", "goesBy", "()I"⟩ ∈ tb := tb_in (ch_7_14 _ (List.mem_of_getElem? (i := 3) rfl)) rfl
theorem mlm_427 : Cond.methodLink "GingerRentsModel" 427 ⟨"GingerRentsModel", "thinks", "()V"⟩ ∈ tb := tb_in (ch_8_4 _ (List.mem_of_getElem? (i := 13) rfl)) rfl
theorem mlm_430 : Cond.methodLink "GingerRentsModel" 430 ⟨"GingerRentsModel", "allOf", "(I)I"⟩ ∈ tb := tb_in (ch_8_5 _ (List.mem_of_getElem? (i := 1) rfl)) rfl
theorem mlm_433 : Cond.methodLink "GingerRentsModel" 433 ⟨"GingerRentsModel", "endsThought", "()V"⟩ ∈ tb := tb_in (ch_8_5 _ (List.mem_of_getElem? (i := 5) rfl)) rfl
theorem fum_77 : fu "GingerRentsModel" 77 12 41 := ⟨_, _, _, rfl, by decide, rfl, tb_in (ch_6_2 _ (List.mem_of_getElem? (i := 6) rfl)) rfl⟩
theorem lcm_436 : Cond.constant "GingerRentsModel" 436 100000000 ∈ tb := tb_in (ch_8_6 _ (List.mem_of_getElem? (i := 9) rfl)) rfl
theorem mlm_437 : Cond.methodLink "GingerRentsModel" 437 ⟨"GingerRentsModel", "stepCost", "(II)I"⟩ ∈ tb := tb_in (ch_8_6 _ (List.mem_of_getElem? (i := 10) rfl)) rfl
theorem mlm_440 : Cond.methodLink "GingerRentsModel" 440 ⟨"GingerRentsModel", "findsCosts", "(IZ)V"⟩ ∈ tb := tb_in (ch_8_6 _ (List.mem_of_getElem? (i := 5) rfl)) rfl
theorem mlm_444 : Cond.methodLink "GingerRentsModel" 444 ⟨"GingerRentsModel", "costOf", "(IIZ)I"⟩ ∈ tb := tb_in (ch_8_6 _ (List.mem_of_getElem? (i := 1) rfl)) rfl
theorem fum_448 : fu "GingerRentsModel" 448 12 42 := ⟨_, _, _, rfl, by decide, rfl, tb_in (ch_6_2 _ (List.mem_of_getElem? (i := 7) rfl)) rfl⟩
theorem fum_80 : fu "GingerRentsModel" 80 12 43 := ⟨_, _, _, rfl, by decide, rfl, tb_in (ch_6_2 _ (List.mem_of_getElem? (i := 8) rfl)) rfl⟩
theorem mlm_451 : Cond.methodLink "GingerRentsModel" 451 ⟨"GingerRentsModel", "piecesOver", "(II)I"⟩ ∈ tb := tb_in (ch_8_8 _ (List.mem_of_getElem? (i := 2) rfl)) rfl
theorem fum_83 : fu "GingerRentsModel" 83 12 44 := ⟨_, _, _, rfl, by decide, rfl, tb_in (ch_6_2 _ (List.mem_of_getElem? (i := 9) rfl)) rfl⟩
theorem mlm_454 : Cond.methodLink "GingerRentsModel" 454 ⟨"GingerRentsModel", "findsShares", "()V"⟩ ∈ tb := tb_in (ch_8_7 _ (List.mem_of_getElem? (i := 14) rfl)) rfl
theorem fum_457 : fu "GingerRentsModel" 457 12 45 := ⟨_, _, _, rfl, by decide, rfl, tb_in (ch_6_2 _ (List.mem_of_getElem? (i := 10) rfl)) rfl⟩
theorem fum_86 : fu "GingerRentsModel" 86 12 46 := ⟨_, _, _, rfl, by decide, rfl, tb_in (ch_6_2 _ (List.mem_of_getElem? (i := 11) rfl)) rfl⟩
theorem fum_89 : fu "GingerRentsModel" 89 12 47 := ⟨_, _, _, rfl, by decide, rfl, tb_in (ch_6_2 _ (List.mem_of_getElem? (i := 12) rfl)) rfl⟩
theorem mlm_460 : Cond.methodLink "GingerRentsModel" 460 ⟨"GingerRentsModel", "withDough", "(III)I"⟩ ∈ tb := tb_in (ch_8_9 _ (List.mem_of_getElem? (i := 2) rfl)) rfl
theorem fum_92 : fu "GingerRentsModel" 92 12 48 := ⟨_, _, _, rfl, by decide, rfl, tb_in (ch_6_2 _ (List.mem_of_getElem? (i := 13) rfl)) rfl⟩
theorem mlm_463 : Cond.methodLink "GingerRentsModel" 463 ⟨"GingerRentsModel", "fewestPans", "(I)I"⟩ ∈ tb := tb_in (ch_8_8 _ (List.mem_of_getElem? (i := 14) rfl)) rfl
theorem mlm_466 : Cond.methodLink "GingerRentsModel" 466 ⟨"GingerRentsModel", "firstPans", "(I)I"⟩ ∈ tb := tb_in (ch_8_9 _ (List.mem_of_getElem? (i := 6) rfl)) rfl
theorem fum_469 : fu "GingerRentsModel" 469 12 49 := ⟨_, _, _, rfl, by decide, rfl, tb_in (ch_6_2 _ (List.mem_of_getElem? (i := 14) rfl)) rfl⟩
theorem fum_95 : fu "GingerRentsModel" 95 12 50 := ⟨_, _, _, rfl, by decide, rfl, tb_in (ch_6_2 _ (List.mem_of_getElem? (i := 15) rfl)) rfl⟩
theorem mlm_472 : Cond.methodLink "GingerRentsModel" 472 ⟨"GingerRentsModel", "apart", "(II)I"⟩ ∈ tb := tb_in (ch_8_10 _ (List.mem_of_getElem? (i := 10) rfl)) rfl
theorem mlm_475 : Cond.methodLink "GingerRentsModel" 475 ⟨"GingerRentsModel", "isMeasured", "(I)Z"⟩ ∈ tb := tb_in (ch_8_10 _ (List.mem_of_getElem? (i := 6) rfl)) rfl
theorem fum_478 : fu "GingerRentsModel" 478 12 51 := ⟨_, _, _, rfl, by decide, rfl, tb_in (ch_6_3 _ (List.mem_of_getElem? (i := 0) rfl)) rfl⟩
theorem fum_98 : fu "GingerRentsModel" 98 12 52 := ⟨_, _, _, rfl, by decide, rfl, tb_in (ch_6_3 _ (List.mem_of_getElem? (i := 1) rfl)) rfl⟩
theorem fum_101 : fu "GingerRentsModel" 101 12 53 := ⟨_, _, _, rfl, by decide, rfl, tb_in (ch_6_3 _ (List.mem_of_getElem? (i := 2) rfl)) rfl⟩
theorem fum_481 : fu "GingerRentsModel" 481 12 54 := ⟨_, _, _, rfl, by decide, rfl, tb_in (ch_6_3 _ (List.mem_of_getElem? (i := 3) rfl)) rfl⟩
theorem fum_104 : fu "GingerRentsModel" 104 12 55 := ⟨_, _, _, rfl, by decide, rfl, tb_in (ch_6_3 _ (List.mem_of_getElem? (i := 4) rfl)) rfl⟩
theorem fum_107 : fu "GingerRentsModel" 107 12 56 := ⟨_, _, _, rfl, by decide, rfl, tb_in (ch_6_3 _ (List.mem_of_getElem? (i := 5) rfl)) rfl⟩
theorem fum_484 : fu "GingerRentsModel" 484 12 57 := ⟨_, _, _, rfl, by decide, rfl, tb_in (ch_6_3 _ (List.mem_of_getElem? (i := 6) rfl)) rfl⟩
theorem fum_110 : fu "GingerRentsModel" 110 12 58 := ⟨_, _, _, rfl, by decide, rfl, tb_in (ch_6_3 _ (List.mem_of_getElem? (i := 7) rfl)) rfl⟩
theorem fum_113 : fu "GingerRentsModel" 113 12 59 := ⟨_, _, _, rfl, by decide, rfl, tb_in (ch_6_3 _ (List.mem_of_getElem? (i := 8) rfl)) rfl⟩
theorem fum_116 : fu "GingerRentsModel" 116 12 60 := ⟨_, _, _, rfl, by decide, rfl, tb_in (ch_6_3 _ (List.mem_of_getElem? (i := 9) rfl)) rfl⟩
theorem mlm_487 : Cond.methodLink "GingerRentsModel" 487 ⟨"GingerRentsModel", "doneBy", "()I"⟩ ∈ tb := tb_in (ch_8_12 _ (List.mem_of_getElem? (i := 6) rfl)) rfl
theorem fum_119 : fu "GingerRentsModel" 119 12 61 := ⟨_, _, _, rfl, by decide, rfl, tb_in (ch_6_3 _ (List.mem_of_getElem? (i := 10) rfl)) rfl⟩
theorem mlm_490 : Cond.methodLink "GingerRentsModel" 490 ⟨"GingerRentsModel", "goesToNextOrder", "()Z"⟩ ∈ tb := tb_in (ch_8_12 _ (List.mem_of_getElem? (i := 10) rfl)) rfl
theorem mlm_493 : Cond.methodLink "GingerRentsModel" 493 ⟨"GingerRentsModel", "areAlone", "(I)Z"⟩ ∈ tb := tb_in (ch_8_13 _ (List.mem_of_getElem? (i := 2) rfl)) rfl
theorem fum_496 : fu "GingerRentsModel" 496 12 62 := ⟨_, _, _, rfl, by decide, rfl, tb_in (ch_6_3 _ (List.mem_of_getElem? (i := 11) rfl)) rfl⟩
theorem fum_122 : fu "GingerRentsModel" 122 12 63 := ⟨_, _, _, rfl, by decide, rfl, tb_in (ch_6_3 _ (List.mem_of_getElem? (i := 12) rfl)) rfl⟩
theorem fum_125 : fu "GingerRentsModel" 125 12 64 := ⟨_, _, _, rfl, by decide, rfl, tb_in (ch_6_3 _ (List.mem_of_getElem? (i := 13) rfl)) rfl⟩
theorem fum_128 : fu "GingerRentsModel" 128 12 65 := ⟨_, _, _, rfl, by decide, rfl, tb_in (ch_6_3 _ (List.mem_of_getElem? (i := 14) rfl)) rfl⟩
theorem fum_499 : fu "GingerRentsModel" 499 12 66 := ⟨_, _, _, rfl, by decide, rfl, tb_in (ch_6_3 _ (List.mem_of_getElem? (i := 15) rfl)) rfl⟩
theorem fum_131 : fu "GingerRentsModel" 131 12 67 := ⟨_, _, _, rfl, by decide, rfl, tb_in (ch_6_4 _ (List.mem_of_getElem? (i := 0) rfl)) rfl⟩
theorem fum_134 : fu "GingerRentsModel" 134 12 68 := ⟨_, _, _, rfl, by decide, rfl, tb_in (ch_6_4 _ (List.mem_of_getElem? (i := 1) rfl)) rfl⟩
theorem mlm_502 : Cond.methodLink "GingerRentsModel" 502 ⟨"GingerRentsModel", "moreOf", "(I)I"⟩ ∈ tb := tb_in (ch_8_14 _ (List.mem_of_getElem? (i := 10) rfl)) rfl
theorem fum_140 : fu "GingerRentsModel" 140 12 70 := ⟨_, _, _, rfl, by decide, rfl, tb_in (ch_6_4 _ (List.mem_of_getElem? (i := 3) rfl)) rfl⟩
theorem fum_137 : fu "GingerRentsModel" 137 12 69 := ⟨_, _, _, rfl, by decide, rfl, tb_in (ch_6_4 _ (List.mem_of_getElem? (i := 2) rfl)) rfl⟩
theorem mlm_505 : Cond.methodLink "GingerRentsModel" 505 ⟨"GingerRentsModel", "bitten", "(II)I"⟩ ∈ tb := tb_in (ch_9_0 _ (List.mem_of_getElem? (i := 14) rfl)) rfl
theorem mlm_508 : Cond.methodLink "GingerRentsModel" 508 ⟨"GingerRentsModel", "takesSlab", "(I)V"⟩ ∈ tb := tb_in (ch_9_0 _ (List.mem_of_getElem? (i := 2) rfl)) rfl
theorem mlm_511 : Cond.methodLink "GingerRentsModel" 511 ⟨"GingerRentsModel", "isSlab", "()Z"⟩ ∈ tb := tb_in (ch_9_0 _ (List.mem_of_getElem? (i := 6) rfl)) rfl
theorem mlm_514 : Cond.methodLink "GingerRentsModel" 514 ⟨"GingerRentsModel", "goodBite", "()I"⟩ ∈ tb := tb_in (ch_9_0 _ (List.mem_of_getElem? (i := 10) rfl)) rfl
theorem fum_517 : fu "GingerRentsModel" 517 12 73 := ⟨_, _, _, rfl, by decide, rfl, tb_in (ch_6_4 _ (List.mem_of_getElem? (i := 6) rfl)) rfl⟩
theorem fum_520 : fu "GingerRentsModel" 520 12 71 := ⟨_, _, _, rfl, by decide, rfl, tb_in (ch_6_4 _ (List.mem_of_getElem? (i := 4) rfl)) rfl⟩
theorem fum_143 : fu "GingerRentsModel" 143 12 74 := ⟨_, _, _, rfl, by decide, rfl, tb_in (ch_6_4 _ (List.mem_of_getElem? (i := 7) rfl)) rfl⟩
theorem mlm_523 : Cond.methodLink "GingerRentsModel" 523 ⟨"GingerRentsModel", "keeps", "(I)I"⟩ ∈ tb := tb_in (ch_9_1 _ (List.mem_of_getElem? (i := 6) rfl)) rfl
theorem fum_526 : fu "GingerRentsModel" 526 12 72 := ⟨_, _, _, rfl, by decide, rfl, tb_in (ch_6_4 _ (List.mem_of_getElem? (i := 5) rfl)) rfl⟩
theorem mlm_529 : Cond.methodLink "GingerRentsModel" 529 ⟨"GingerRentsModel", "keepsMany", "()V"⟩ ∈ tb := tb_in (ch_9_1 _ (List.mem_of_getElem? (i := 10) rfl)) rfl
theorem mlm_532 : Cond.methodLink "GingerRentsModel" 532 ⟨"GingerRentsModel", "keepsTold", "()V"⟩ ∈ tb := tb_in (ch_9_1 _ (List.mem_of_getElem? (i := 14) rfl)) rfl
theorem mlm_535 : Cond.methodLink "GingerRentsModel" 535 ⟨"GingerRentsModel", "keepsLaw", "()V"⟩ ∈ tb := tb_in (ch_9_2 _ (List.mem_of_getElem? (i := 2) rfl)) rfl
theorem dm_isIn_0 : dl tm_isIn 0 .iload_n .iload 1 1 := qr_27 (by decide +kernel)
theorem dm_isIn_1 : dl tm_isIn 1 .iload_n .iload 2 2 := qr_28 (by decide +kernel)
theorem dm_isIn_2 : db tm_isIn 2 (.if_icmp .lt) 14 5 := qr_161 0 12 12 (by decide +kernel) rfl
theorem dm_isIn_5 : dl tm_isIn 5 .iload_n .iload 1 6 := qr_27 (by decide +kernel)
theorem dm_isIn_6 : dl tm_isIn 6 .iload_n .iload 3 7 := qr_29 (by decide +kernel)
theorem dm_isIn_7 : db tm_isIn 7 (.if_icmp .gt) 14 10 := qr_163 0 7 7 (by decide +kernel) rfl
theorem dm_isIn_10 : dn tm_isIn 10 (.iconst 1) 1 11 := qr_4 (by decide +kernel)
theorem dm_isIn_11 : db tm_isIn 11 .goto 15 14 := qr_167 0 4 4 (by decide +kernel) rfl
theorem dm_isIn_14 : dn tm_isIn 14 (.iconst 0) 1 15 := qr_3 (by decide +kernel)
theorem dm_isIn_15 : dn tm_isIn 15 (.ireturn) 1 16 := qr_172 (by decide +kernel)
theorem dm_held_0 : dl tm_held 0 .iload_n .iload 1 1 := qr_27 (by decide +kernel)
theorem dm_held_1 : dl tm_held 1 .iload_n .iload 2 2 := qr_28 (by decide +kernel)
theorem dm_held_2 : db tm_held 2 (.if_icmp .ge) 9 5 := qr_162 0 7 7 (by decide +kernel) rfl
theorem dm_held_5 : dl tm_held 5 .iload_n .iload 2 6 := qr_28 (by decide +kernel)
theorem dm_held_6 : db tm_held 6 .goto 19 9 := qr_167 0 13 13 (by decide +kernel) rfl
theorem dm_held_9 : dl tm_held 9 .iload_n .iload 1 10 := qr_27 (by decide +kernel)
theorem dm_held_10 : dl tm_held 10 .iload_n .iload 3 11 := qr_29 (by decide +kernel)
theorem dm_held_11 : db tm_held 11 (.if_icmp .le) 18 14 := qr_164 0 7 7 (by decide +kernel) rfl
theorem dm_held_14 : dl tm_held 14 .iload_n .iload 3 15 := qr_29 (by decide +kernel)
theorem dm_held_15 : db tm_held 15 .goto 19 18 := qr_167 0 4 4 (by decide +kernel) rfl
theorem dm_held_18 : dl tm_held 18 .iload_n .iload 1 19 := qr_27 (by decide +kernel)
theorem dm_held_19 : dn tm_held 19 (.ireturn) 1 20 := qr_172 (by decide +kernel)
theorem dm_greater_0 : dl tm_greater 0 .iload_n .iload 1 1 := qr_27 (by decide +kernel)
theorem dm_greater_1 : dl tm_greater 1 .iload_n .iload 2 2 := qr_28 (by decide +kernel)
theorem dm_greater_2 : db tm_greater 2 (.if_icmp .le) 9 5 := qr_164 0 7 7 (by decide +kernel) rfl
theorem dm_greater_5 : dl tm_greater 5 .iload_n .iload 1 6 := qr_27 (by decide +kernel)
theorem dm_greater_6 : db tm_greater 6 .goto 10 9 := qr_167 0 4 4 (by decide +kernel) rfl
theorem dm_greater_9 : dl tm_greater 9 .iload_n .iload 2 10 := qr_28 (by decide +kernel)
theorem dm_greater_10 : dn tm_greater 10 (.ireturn) 1 11 := qr_172 (by decide +kernel)
theorem dm_lesser_0 : dl tm_lesser 0 .iload_n .iload 1 1 := qr_27 (by decide +kernel)
theorem dm_lesser_1 : dl tm_lesser 1 .iload_n .iload 2 2 := qr_28 (by decide +kernel)
theorem dm_lesser_2 : db tm_lesser 2 (.if_icmp .ge) 9 5 := qr_162 0 7 7 (by decide +kernel) rfl
theorem dm_lesser_5 : dl tm_lesser 5 .iload_n .iload 1 6 := qr_27 (by decide +kernel)
theorem dm_lesser_6 : db tm_lesser 6 .goto 10 9 := qr_167 0 4 4 (by decide +kernel) rfl
theorem dm_lesser_9 : dl tm_lesser 9 .iload_n .iload 2 10 := qr_28 (by decide +kernel)
theorem dm_lesser_10 : dn tm_lesser 10 (.ireturn) 1 11 := qr_172 (by decide +kernel)
theorem dm_apart_0 : dl tm_apart 0 .iload_n .iload 1 1 := qr_27 (by decide +kernel)
theorem dm_apart_1 : dl tm_apart 1 .iload_n .iload 2 2 := qr_28 (by decide +kernel)
theorem dm_apart_2 : db tm_apart 2 (.if_icmp .le) 11 5 := qr_164 0 9 9 (by decide +kernel) rfl
theorem dm_apart_5 : dl tm_apart 5 .iload_n .iload 1 6 := qr_27 (by decide +kernel)
theorem dm_apart_6 : dl tm_apart 6 .iload_n .iload 2 7 := qr_28 (by decide +kernel)
theorem dm_apart_7 : dn tm_apart 7 (.isub) 1 8 := qr_100 (by decide +kernel)
theorem dm_apart_8 : db tm_apart 8 .goto 14 11 := qr_167 0 6 6 (by decide +kernel) rfl
theorem dm_apart_11 : dl tm_apart 11 .iload_n .iload 2 12 := qr_28 (by decide +kernel)
theorem dm_apart_12 : dl tm_apart 12 .iload_n .iload 1 13 := qr_27 (by decide +kernel)
theorem dm_apart_13 : dn tm_apart 13 (.isub) 1 14 := qr_100 (by decide +kernel)
theorem dm_apart_14 : dn tm_apart 14 (.ireturn) 1 15 := qr_172 (by decide +kernel)
theorem dm_onesOf_0 : dn tm_onesOf 0 (.iconst 0) 1 1 := qr_3 (by decide +kernel)
theorem dm_onesOf_1 : dl tm_onesOf 1 .istore_n .istore 2 2 := qr_61 (by decide +kernel)
theorem dm_onesOf_2 : dl tm_onesOf 2 .iload_n .iload 1 3 := qr_27 (by decide +kernel)
theorem dm_onesOf_3 : dl tm_onesOf 3 .istore_n .istore 3 4 := qr_62 (by decide +kernel)
theorem dm_onesOf_4 : dl tm_onesOf 4 .iload_n .iload 3 5 := qr_29 (by decide +kernel)
theorem dm_onesOf_5 : db tm_onesOf 5 (.ifCond .eq) 21 8 := qr_153 0 16 16 (by decide +kernel) rfl
theorem dm_onesOf_8 : dl tm_onesOf 8 .iload_n .iload 2 9 := qr_28 (by decide +kernel)
theorem dm_onesOf_9 : dn tm_onesOf 9 (.iconst 1) 1 10 := qr_4 (by decide +kernel)
theorem dm_onesOf_10 : dn tm_onesOf 10 (.iadd) 1 11 := qr_96 (by decide +kernel)
theorem dm_onesOf_11 : dl tm_onesOf 11 .istore_n .istore 2 12 := qr_61 (by decide +kernel)
theorem dm_onesOf_12 : dl tm_onesOf 12 .iload_n .iload 3 13 := qr_29 (by decide +kernel)
theorem dm_onesOf_13 : dl tm_onesOf 13 .iload_n .iload 3 14 := qr_29 (by decide +kernel)
theorem dm_onesOf_14 : dn tm_onesOf 14 (.iconst 1) 1 15 := qr_4 (by decide +kernel)
theorem dm_onesOf_15 : dn tm_onesOf 15 (.isub) 1 16 := qr_100 (by decide +kernel)
theorem dm_onesOf_16 : dn tm_onesOf 16 (.iand) 1 17 := qr_126 (by decide +kernel)
theorem dm_onesOf_17 : dl tm_onesOf 17 .istore_n .istore 3 18 := qr_62 (by decide +kernel)
theorem dm_onesOf_18 : db tm_onesOf 18 .goto 4 21 := qr_167 255 242 (-14) (by decide +kernel) rfl
theorem dm_onesOf_21 : dl tm_onesOf 21 .iload_n .iload 2 22 := qr_28 (by decide +kernel)
theorem dm_onesOf_22 : dn tm_onesOf 22 (.ireturn) 1 23 := qr_172 (by decide +kernel)
theorem dm_has_0 : dl tm_has 0 .iload_n .iload 1 1 := qr_27 (by decide +kernel)
theorem dm_has_1 : dl tm_has 1 .iload_n .iload 2 2 := qr_28 (by decide +kernel)
theorem dm_has_2 : dn tm_has 2 (.ishr) 1 3 := qr_122 (by decide +kernel)
theorem dm_has_3 : dn tm_has 3 (.iconst 1) 1 4 := qr_4 (by decide +kernel)
theorem dm_has_4 : dn tm_has 4 (.iand) 1 5 := qr_126 (by decide +kernel)
theorem dm_has_5 : dn tm_has 5 (.iconst 1) 1 6 := qr_4 (by decide +kernel)
theorem dm_has_6 : db tm_has 6 (.if_icmp .ne) 13 9 := qr_160 0 7 7 (by decide +kernel) rfl
theorem dm_has_9 : dn tm_has 9 (.iconst 1) 1 10 := qr_4 (by decide +kernel)
theorem dm_has_10 : db tm_has 10 .goto 14 13 := qr_167 0 4 4 (by decide +kernel) rfl
theorem dm_has_13 : dn tm_has 13 (.iconst 0) 1 14 := qr_3 (by decide +kernel)
theorem dm_has_14 : dn tm_has 14 (.ireturn) 1 15 := qr_172 (by decide +kernel)
theorem dm_keepsAhead_0 : dl tm_keepsAhead 0 .aload_n .aload 0 1 := qr_42 (by decide +kernel)
theorem dm_keepsAhead_1 : dn tm_keepsAhead 1 (.getfield 149) 3 4 := qr_180 0 149 149 (by decide +kernel)
theorem dm_keepsAhead_4 : dn tm_keepsAhead 4 (.bipush 6) 2 6 := qr_16 6 6 (by decide +kernel)
theorem dm_keepsAhead_6 : db tm_keepsAhead 6 (.if_icmp .ne) 53 9 := qr_160 0 47 47 (by decide +kernel) rfl
theorem dm_keepsAhead_9 : dl tm_keepsAhead 9 .aload_n .aload 0 10 := qr_42 (by decide +kernel)
theorem dm_keepsAhead_10 : dl tm_keepsAhead 10 .aload_n .aload 0 11 := qr_42 (by decide +kernel)
theorem dm_keepsAhead_11 : dn tm_keepsAhead 11 (.getfield 149) 3 14 := qr_180 0 149 149 (by decide +kernel)
theorem dm_keepsAhead_14 : dn tm_keepsAhead 14 (.iconst 1) 1 15 := qr_4 (by decide +kernel)
theorem dm_keepsAhead_15 : dn tm_keepsAhead 15 (.isub) 1 16 := qr_100 (by decide +kernel)
theorem dm_keepsAhead_16 : dn tm_keepsAhead 16 (.putfield 149) 3 19 := qr_181 0 149 149 (by decide +kernel)
theorem dm_keepsAhead_19 : dn tm_keepsAhead 19 (.iconst 0) 1 20 := qr_3 (by decide +kernel)
theorem dm_keepsAhead_20 : dl tm_keepsAhead 20 .istore_n .istore 1 21 := qr_60 (by decide +kernel)
theorem dm_keepsAhead_21 : dl tm_keepsAhead 21 .iload_n .iload 1 22 := qr_27 (by decide +kernel)
theorem dm_keepsAhead_22 : dn tm_keepsAhead 22 (.bipush 115) 2 24 := qr_16 115 115 (by decide +kernel)
theorem dm_keepsAhead_24 : dl tm_keepsAhead 24 .aload_n .aload 0 25 := qr_42 (by decide +kernel)
theorem dm_keepsAhead_25 : dn tm_keepsAhead 25 (.getfield 149) 3 28 := qr_180 0 149 149 (by decide +kernel)
theorem dm_keepsAhead_28 : dn tm_keepsAhead 28 (.imul) 1 29 := qr_104 (by decide +kernel)
theorem dm_keepsAhead_29 : db tm_keepsAhead 29 (.if_icmp .ge) 53 32 := qr_162 0 24 24 (by decide +kernel) rfl
theorem dm_keepsAhead_32 : dl tm_keepsAhead 32 .aload_n .aload 0 33 := qr_42 (by decide +kernel)
theorem dm_keepsAhead_33 : dn tm_keepsAhead 33 (.getfield 13) 3 36 := qr_180 0 13 13 (by decide +kernel)
theorem dm_keepsAhead_36 : dl tm_keepsAhead 36 .iload_n .iload 1 37 := qr_27 (by decide +kernel)
theorem dm_keepsAhead_37 : dl tm_keepsAhead 37 .aload_n .aload 0 38 := qr_42 (by decide +kernel)
theorem dm_keepsAhead_38 : dn tm_keepsAhead 38 (.getfield 13) 3 41 := qr_180 0 13 13 (by decide +kernel)
theorem dm_keepsAhead_41 : dl tm_keepsAhead 41 .iload_n .iload 1 42 := qr_27 (by decide +kernel)
theorem dm_keepsAhead_42 : dn tm_keepsAhead 42 (.bipush 115) 2 44 := qr_16 115 115 (by decide +kernel)
theorem dm_keepsAhead_44 : dn tm_keepsAhead 44 (.iadd) 1 45 := qr_96 (by decide +kernel)
theorem dm_keepsAhead_45 : dn tm_keepsAhead 45 (.iaload) 1 46 := qr_46 (by decide +kernel)
theorem dm_keepsAhead_46 : dn tm_keepsAhead 46 (.iastore) 1 47 := qr_79 (by decide +kernel)
theorem dm_keepsAhead_47 : dn tm_keepsAhead 47 (.iinc 1 1) 3 50 := qr_132 1 1 1 (by decide +kernel)
theorem dm_keepsAhead_50 : db tm_keepsAhead 50 .goto 21 53 := qr_167 255 227 (-29) (by decide +kernel) rfl
theorem dm_keepsAhead_53 : dn tm_keepsAhead 53 (.iconst 0) 1 54 := qr_3 (by decide +kernel)
theorem dm_keepsAhead_54 : dl tm_keepsAhead 54 .istore_n .istore 1 55 := qr_60 (by decide +kernel)
theorem dm_keepsAhead_55 : dl tm_keepsAhead 55 .iload_n .iload 1 56 := qr_27 (by decide +kernel)
theorem dm_keepsAhead_56 : dn tm_keepsAhead 56 (.bipush 115) 2 58 := qr_16 115 115 (by decide +kernel)
theorem dm_keepsAhead_58 : db tm_keepsAhead 58 (.if_icmp .ge) 87 61 := qr_162 0 29 29 (by decide +kernel) rfl
theorem dm_keepsAhead_61 : dl tm_keepsAhead 61 .aload_n .aload 0 62 := qr_42 (by decide +kernel)
theorem dm_keepsAhead_62 : dn tm_keepsAhead 62 (.getfield 13) 3 65 := qr_180 0 13 13 (by decide +kernel)
theorem dm_keepsAhead_65 : dn tm_keepsAhead 65 (.bipush 115) 2 67 := qr_16 115 115 (by decide +kernel)
theorem dm_keepsAhead_67 : dl tm_keepsAhead 67 .aload_n .aload 0 68 := qr_42 (by decide +kernel)
theorem dm_keepsAhead_68 : dn tm_keepsAhead 68 (.getfield 149) 3 71 := qr_180 0 149 149 (by decide +kernel)
theorem dm_keepsAhead_71 : dn tm_keepsAhead 71 (.imul) 1 72 := qr_104 (by decide +kernel)
theorem dm_keepsAhead_72 : dl tm_keepsAhead 72 .iload_n .iload 1 73 := qr_27 (by decide +kernel)
theorem dm_keepsAhead_73 : dn tm_keepsAhead 73 (.iadd) 1 74 := qr_96 (by decide +kernel)
theorem dm_keepsAhead_74 : dl tm_keepsAhead 74 .aload_n .aload 0 75 := qr_42 (by decide +kernel)
theorem dm_keepsAhead_75 : dn tm_keepsAhead 75 (.getfield 7) 3 78 := qr_180 0 7 7 (by decide +kernel)
theorem dm_keepsAhead_78 : dl tm_keepsAhead 78 .iload_n .iload 1 79 := qr_27 (by decide +kernel)
theorem dm_keepsAhead_79 : dn tm_keepsAhead 79 (.iaload) 1 80 := qr_46 (by decide +kernel)
theorem dm_keepsAhead_80 : dn tm_keepsAhead 80 (.iastore) 1 81 := qr_79 (by decide +kernel)
theorem dm_keepsAhead_81 : dn tm_keepsAhead 81 (.iinc 1 1) 3 84 := qr_132 1 1 1 (by decide +kernel)
theorem dm_keepsAhead_84 : db tm_keepsAhead 84 .goto 55 87 := qr_167 255 227 (-29) (by decide +kernel) rfl
theorem dm_keepsAhead_87 : dl tm_keepsAhead 87 .aload_n .aload 0 88 := qr_42 (by decide +kernel)
theorem dm_keepsAhead_88 : dl tm_keepsAhead 88 .aload_n .aload 0 89 := qr_42 (by decide +kernel)
theorem dm_keepsAhead_89 : dn tm_keepsAhead 89 (.getfield 149) 3 92 := qr_180 0 149 149 (by decide +kernel)
theorem dm_keepsAhead_92 : dn tm_keepsAhead 92 (.iconst 1) 1 93 := qr_4 (by decide +kernel)
theorem dm_keepsAhead_93 : dn tm_keepsAhead 93 (.iadd) 1 94 := qr_96 (by decide +kernel)
theorem dm_keepsAhead_94 : dn tm_keepsAhead 94 (.putfield 149) 3 97 := qr_181 0 149 149 (by decide +kernel)
theorem dm_keepsAhead_97 : dn tm_keepsAhead 97 (.return_) 1 98 := qr_177 (by decide +kernel)
theorem dm_undo_0 : dl tm_undo 0 .aload_n .aload 0 1 := qr_42 (by decide +kernel)
theorem dm_undo_1 : dn tm_undo 1 (.iconst 0) 1 2 := qr_3 (by decide +kernel)
theorem dm_undo_2 : dn tm_undo 2 (.putfield 146) 3 5 := qr_181 0 146 146 (by decide +kernel)
theorem dm_undo_5 : dl tm_undo 5 .aload_n .aload 0 6 := qr_42 (by decide +kernel)
theorem dm_undo_6 : dn tm_undo 6 (.getfield 149) 3 9 := qr_180 0 149 149 (by decide +kernel)
theorem dm_undo_9 : db tm_undo 9 (.ifCond .ne) 14 12 := qr_154 0 5 5 (by decide +kernel) rfl
theorem dm_undo_12 : dn tm_undo 12 (.iconst 0) 1 13 := qr_3 (by decide +kernel)
theorem dm_undo_13 : dn tm_undo 13 (.ireturn) 1 14 := qr_172 (by decide +kernel)
theorem dm_undo_14 : dl tm_undo 14 .aload_n .aload 0 15 := qr_42 (by decide +kernel)
theorem dm_undo_15 : dl tm_undo 15 .aload_n .aload 0 16 := qr_42 (by decide +kernel)
theorem dm_undo_16 : dn tm_undo 16 (.getfield 149) 3 19 := qr_180 0 149 149 (by decide +kernel)
theorem dm_undo_19 : dn tm_undo 19 (.iconst 1) 1 20 := qr_4 (by decide +kernel)
theorem dm_undo_20 : dn tm_undo 20 (.isub) 1 21 := qr_100 (by decide +kernel)
theorem dm_undo_21 : dn tm_undo 21 (.putfield 149) 3 24 := qr_181 0 149 149 (by decide +kernel)
theorem dm_undo_24 : dn tm_undo 24 (.iconst 0) 1 25 := qr_3 (by decide +kernel)
theorem dm_undo_25 : dl tm_undo 25 .istore_n .istore 1 26 := qr_60 (by decide +kernel)
theorem dm_undo_26 : dl tm_undo 26 .iload_n .iload 1 27 := qr_27 (by decide +kernel)
theorem dm_undo_27 : dn tm_undo 27 (.bipush 115) 2 29 := qr_16 115 115 (by decide +kernel)
theorem dm_undo_29 : db tm_undo 29 (.if_icmp .ge) 58 32 := qr_162 0 29 29 (by decide +kernel) rfl
theorem dm_undo_32 : dl tm_undo 32 .aload_n .aload 0 33 := qr_42 (by decide +kernel)
theorem dm_undo_33 : dn tm_undo 33 (.getfield 7) 3 36 := qr_180 0 7 7 (by decide +kernel)
theorem dm_undo_36 : dl tm_undo 36 .iload_n .iload 1 37 := qr_27 (by decide +kernel)
theorem dm_undo_37 : dl tm_undo 37 .aload_n .aload 0 38 := qr_42 (by decide +kernel)
theorem dm_undo_38 : dn tm_undo 38 (.getfield 13) 3 41 := qr_180 0 13 13 (by decide +kernel)
theorem dm_undo_41 : dn tm_undo 41 (.bipush 115) 2 43 := qr_16 115 115 (by decide +kernel)
theorem dm_undo_43 : dl tm_undo 43 .aload_n .aload 0 44 := qr_42 (by decide +kernel)
theorem dm_undo_44 : dn tm_undo 44 (.getfield 149) 3 47 := qr_180 0 149 149 (by decide +kernel)
theorem dm_undo_47 : dn tm_undo 47 (.imul) 1 48 := qr_104 (by decide +kernel)
theorem dm_undo_48 : dl tm_undo 48 .iload_n .iload 1 49 := qr_27 (by decide +kernel)
theorem dm_undo_49 : dn tm_undo 49 (.iadd) 1 50 := qr_96 (by decide +kernel)
theorem dm_undo_50 : dn tm_undo 50 (.iaload) 1 51 := qr_46 (by decide +kernel)
theorem dm_undo_51 : dn tm_undo 51 (.iastore) 1 52 := qr_79 (by decide +kernel)
theorem dm_undo_52 : dn tm_undo 52 (.iinc 1 1) 3 55 := qr_132 1 1 1 (by decide +kernel)
theorem dm_undo_55 : db tm_undo 55 .goto 26 58 := qr_167 255 227 (-29) (by decide +kernel) rfl
theorem dm_undo_58 : dn tm_undo 58 (.iconst 1) 1 59 := qr_4 (by decide +kernel)
theorem dm_undo_59 : dn tm_undo 59 (.ireturn) 1 60 := qr_172 (by decide +kernel)
theorem dm_thinks_0 : dn tm_thinks 0 (.iconst 0) 1 1 := qr_3 (by decide +kernel)
theorem dm_thinks_1 : dl tm_thinks 1 .istore_n .istore 1 2 := qr_60 (by decide +kernel)
theorem dm_thinks_2 : dl tm_thinks 2 .iload_n .iload 1 3 := qr_27 (by decide +kernel)
theorem dm_thinks_3 : dn tm_thinks 3 (.bipush 115) 2 5 := qr_16 115 115 (by decide +kernel)
theorem dm_thinks_5 : db tm_thinks 5 (.if_icmp .ge) 26 8 := qr_162 0 21 21 (by decide +kernel) rfl
theorem dm_thinks_8 : dl tm_thinks 8 .aload_n .aload 0 9 := qr_42 (by decide +kernel)
theorem dm_thinks_9 : dn tm_thinks 9 (.getfield 16) 3 12 := qr_180 0 16 16 (by decide +kernel)
theorem dm_thinks_12 : dl tm_thinks 12 .iload_n .iload 1 13 := qr_27 (by decide +kernel)
theorem dm_thinks_13 : dl tm_thinks 13 .aload_n .aload 0 14 := qr_42 (by decide +kernel)
theorem dm_thinks_14 : dn tm_thinks 14 (.getfield 7) 3 17 := qr_180 0 7 7 (by decide +kernel)
theorem dm_thinks_17 : dl tm_thinks 17 .iload_n .iload 1 18 := qr_27 (by decide +kernel)
theorem dm_thinks_18 : dn tm_thinks 18 (.iaload) 1 19 := qr_46 (by decide +kernel)
theorem dm_thinks_19 : dn tm_thinks 19 (.iastore) 1 20 := qr_79 (by decide +kernel)
theorem dm_thinks_20 : dn tm_thinks 20 (.iinc 1 1) 3 23 := qr_132 1 1 1 (by decide +kernel)
theorem dm_thinks_23 : db tm_thinks 23 .goto 2 26 := qr_167 255 235 (-21) (by decide +kernel) rfl
theorem dm_thinks_26 : dl tm_thinks 26 .aload_n .aload 0 27 := qr_42 (by decide +kernel)
theorem dm_thinks_27 : dn tm_thinks 27 (.iconst 1) 1 28 := qr_4 (by decide +kernel)
theorem dm_thinks_28 : dn tm_thinks 28 (.putfield 152) 3 31 := qr_181 0 152 152 (by decide +kernel)
theorem dm_thinks_31 : dn tm_thinks 31 (.return_) 1 32 := qr_177 (by decide +kernel)
theorem dm_endsThought_0 : dn tm_endsThought 0 (.iconst 0) 1 1 := qr_3 (by decide +kernel)
theorem dm_endsThought_1 : dl tm_endsThought 1 .istore_n .istore 1 2 := qr_60 (by decide +kernel)
theorem dm_endsThought_2 : dl tm_endsThought 2 .iload_n .iload 1 3 := qr_27 (by decide +kernel)
theorem dm_endsThought_3 : dn tm_endsThought 3 (.bipush 115) 2 5 := qr_16 115 115 (by decide +kernel)
theorem dm_endsThought_5 : db tm_endsThought 5 (.if_icmp .ge) 26 8 := qr_162 0 21 21 (by decide +kernel) rfl
theorem dm_endsThought_8 : dl tm_endsThought 8 .aload_n .aload 0 9 := qr_42 (by decide +kernel)
theorem dm_endsThought_9 : dn tm_endsThought 9 (.getfield 7) 3 12 := qr_180 0 7 7 (by decide +kernel)
theorem dm_endsThought_12 : dl tm_endsThought 12 .iload_n .iload 1 13 := qr_27 (by decide +kernel)
theorem dm_endsThought_13 : dl tm_endsThought 13 .aload_n .aload 0 14 := qr_42 (by decide +kernel)
theorem dm_endsThought_14 : dn tm_endsThought 14 (.getfield 16) 3 17 := qr_180 0 16 16 (by decide +kernel)
theorem dm_endsThought_17 : dl tm_endsThought 17 .iload_n .iload 1 18 := qr_27 (by decide +kernel)
theorem dm_endsThought_18 : dn tm_endsThought 18 (.iaload) 1 19 := qr_46 (by decide +kernel)
theorem dm_endsThought_19 : dn tm_endsThought 19 (.iastore) 1 20 := qr_79 (by decide +kernel)
theorem dm_endsThought_20 : dn tm_endsThought 20 (.iinc 1 1) 3 23 := qr_132 1 1 1 (by decide +kernel)
theorem dm_endsThought_23 : db tm_endsThought 23 .goto 2 26 := qr_167 255 235 (-21) (by decide +kernel) rfl
theorem dm_endsThought_26 : dl tm_endsThought 26 .aload_n .aload 0 27 := qr_42 (by decide +kernel)
theorem dm_endsThought_27 : dn tm_endsThought 27 (.iconst 0) 1 28 := qr_3 (by decide +kernel)
theorem dm_endsThought_28 : dn tm_endsThought 28 (.putfield 152) 3 31 := qr_181 0 152 152 (by decide +kernel)
theorem dm_endsThought_31 : dn tm_endsThought 31 (.return_) 1 32 := qr_177 (by decide +kernel)
theorem dm_state_0 : dl tm_state 0 .aload_n .aload 0 1 := qr_42 (by decide +kernel)
theorem dm_state_1 : dn tm_state 1 (.iconst 0) 1 2 := qr_3 (by decide +kernel)
theorem dm_state_2 : dn tm_state 2 (.putfield 146) 3 5 := qr_181 0 146 146 (by decide +kernel)
theorem dm_state_5 : dl tm_state 5 .aload_n .aload 0 6 := qr_42 (by decide +kernel)
theorem dm_state_6 : dn tm_state 6 (.getfield 7) 3 9 := qr_180 0 7 7 (by decide +kernel)
theorem dm_state_9 : dn tm_state 9 (.iconst 1) 1 10 := qr_4 (by decide +kernel)
theorem dm_state_10 : dn tm_state 10 (.iaload) 1 11 := qr_46 (by decide +kernel)
theorem dm_state_11 : dl tm_state 11 .istore_n .istore 2 12 := qr_61 (by decide +kernel)
theorem dm_state_12 : dl tm_state 12 .aload_n .aload 0 13 := qr_42 (by decide +kernel)
theorem dm_state_13 : dn tm_state 13 (.getfield 7) 3 16 := qr_180 0 7 7 (by decide +kernel)
theorem dm_state_16 : dn tm_state 16 (.iconst 1) 1 17 := qr_4 (by decide +kernel)
theorem dm_state_17 : dl tm_state 17 .iload_n .iload 1 18 := qr_27 (by decide +kernel)
theorem dm_state_18 : dn tm_state 18 (.iastore) 1 19 := qr_79 (by decide +kernel)
theorem dm_state_19 : dl tm_state 19 .aload_n .aload 0 20 := qr_42 (by decide +kernel)
theorem dm_state_20 : dn tm_state 20 (.iconst 0) 1 21 := qr_3 (by decide +kernel)
theorem dm_state_21 : dn tm_state 21 (.putfield 149) 3 24 := qr_181 0 149 149 (by decide +kernel)
theorem dm_state_24 : dl tm_state 24 .iload_n .iload 2 25 := qr_28 (by decide +kernel)
theorem dm_state_25 : dn tm_state 25 (.ireturn) 1 26 := qr_172 (by decide +kernel)
theorem dm_draw_0 : dl tm_draw 0 .aload_n .aload 0 1 := qr_42 (by decide +kernel)
theorem dm_draw_1 : dn tm_draw 1 (.getfield 7) 3 4 := qr_180 0 7 7 (by decide +kernel)
theorem dm_draw_4 : dn tm_draw 4 (.iconst 1) 1 5 := qr_4 (by decide +kernel)
theorem dm_draw_5 : dn tm_draw 5 (.ldc 156) 2 7 := qr_18 156 (by decide +kernel)
theorem dm_draw_7 : dl tm_draw 7 .aload_n .aload 0 8 := qr_42 (by decide +kernel)
theorem dm_draw_8 : dn tm_draw 8 (.getfield 7) 3 11 := qr_180 0 7 7 (by decide +kernel)
theorem dm_draw_11 : dn tm_draw 11 (.iconst 1) 1 12 := qr_4 (by decide +kernel)
theorem dm_draw_12 : dn tm_draw 12 (.iaload) 1 13 := qr_46 (by decide +kernel)
theorem dm_draw_13 : dn tm_draw 13 (.imul) 1 14 := qr_104 (by decide +kernel)
theorem dm_draw_14 : dn tm_draw 14 (.ldc 157) 2 16 := qr_18 157 (by decide +kernel)
theorem dm_draw_16 : dn tm_draw 16 (.iadd) 1 17 := qr_96 (by decide +kernel)
theorem dm_draw_17 : dn tm_draw 17 (.iastore) 1 18 := qr_79 (by decide +kernel)
theorem dm_draw_18 : dl tm_draw 18 .aload_n .aload 0 19 := qr_42 (by decide +kernel)
theorem dm_draw_19 : dn tm_draw 19 (.getfield 7) 3 22 := qr_180 0 7 7 (by decide +kernel)
theorem dm_draw_22 : dn tm_draw 22 (.iconst 1) 1 23 := qr_4 (by decide +kernel)
theorem dm_draw_23 : dn tm_draw 23 (.iaload) 1 24 := qr_46 (by decide +kernel)
theorem dm_draw_24 : dn tm_draw 24 (.bipush 8) 2 26 := qr_16 8 8 (by decide +kernel)
theorem dm_draw_26 : dn tm_draw 26 (.iushr) 1 27 := qr_124 (by decide +kernel)
theorem dm_draw_27 : dl tm_draw 27 .iload_n .iload 1 28 := qr_27 (by decide +kernel)
theorem dm_draw_28 : dn tm_draw 28 (.irem) 1 29 := qr_112 (by decide +kernel)
theorem dm_draw_29 : dn tm_draw 29 (.ireturn) 1 30 := qr_172 (by decide +kernel)
theorem dm_isHouse_0 : dl tm_isHouse 0 .iload_n .iload 1 1 := qr_27 (by decide +kernel)
theorem dm_isHouse_1 : db tm_isHouse 1 (.ifCond .lt) 16 4 := qr_155 0 15 15 (by decide +kernel) rfl
theorem dm_isHouse_4 : dl tm_isHouse 4 .iload_n .iload 1 5 := qr_27 (by decide +kernel)
theorem dm_isHouse_5 : dl tm_isHouse 5 .aload_n .aload 0 6 := qr_42 (by decide +kernel)
theorem dm_isHouse_6 : dn tm_isHouse 6 (.getfield 158) 3 9 := qr_180 0 158 158 (by decide +kernel)
theorem dm_isHouse_9 : db tm_isHouse 9 (.if_icmp .ge) 16 12 := qr_162 0 7 7 (by decide +kernel) rfl
theorem dm_isHouse_12 : dn tm_isHouse 12 (.iconst 1) 1 13 := qr_4 (by decide +kernel)
theorem dm_isHouse_13 : db tm_isHouse 13 .goto 17 16 := qr_167 0 4 4 (by decide +kernel) rfl
theorem dm_isHouse_16 : dn tm_isHouse 16 (.iconst 0) 1 17 := qr_3 (by decide +kernel)
theorem dm_isHouse_17 : dn tm_isHouse 17 (.ireturn) 1 18 := qr_172 (by decide +kernel)
theorem dm_wallOf_0 : dl tm_wallOf 0 .aload_n .aload 0 1 := qr_42 (by decide +kernel)
theorem dm_wallOf_1 : dn tm_wallOf 1 (.getfield 7) 3 4 := qr_180 0 7 7 (by decide +kernel)
theorem dm_wallOf_4 : dn tm_wallOf 4 (.bipush 7) 2 6 := qr_16 7 7 (by decide +kernel)
theorem dm_wallOf_6 : dn tm_wallOf 6 (.iconst 4) 1 7 := qr_7 (by decide +kernel)
theorem dm_wallOf_7 : dl tm_wallOf 7 .iload_n .iload 1 8 := qr_27 (by decide +kernel)
theorem dm_wallOf_8 : dn tm_wallOf 8 (.imul) 1 9 := qr_104 (by decide +kernel)
theorem dm_wallOf_9 : dn tm_wallOf 9 (.iadd) 1 10 := qr_96 (by decide +kernel)
theorem dm_wallOf_10 : dl tm_wallOf 10 .iload_n .iload 2 11 := qr_28 (by decide +kernel)
theorem dm_wallOf_11 : dn tm_wallOf 11 (.iadd) 1 12 := qr_96 (by decide +kernel)
theorem dm_wallOf_12 : dn tm_wallOf 12 (.iaload) 1 13 := qr_46 (by decide +kernel)
theorem dm_wallOf_13 : dn tm_wallOf 13 (.ireturn) 1 14 := qr_172 (by decide +kernel)
theorem dm_hasWall_0 : dl tm_hasWall 0 .aload_n .aload 0 1 := qr_42 (by decide +kernel)
theorem dm_hasWall_1 : dn tm_hasWall 1 (.getfield 7) 3 4 := qr_180 0 7 7 (by decide +kernel)
theorem dm_hasWall_4 : dn tm_hasWall 4 (.bipush 7) 2 6 := qr_16 7 7 (by decide +kernel)
theorem dm_hasWall_6 : dn tm_hasWall 6 (.iconst 4) 1 7 := qr_7 (by decide +kernel)
theorem dm_hasWall_7 : dl tm_hasWall 7 .iload_n .iload 1 8 := qr_27 (by decide +kernel)
theorem dm_hasWall_8 : dn tm_hasWall 8 (.imul) 1 9 := qr_104 (by decide +kernel)
theorem dm_hasWall_9 : dn tm_hasWall 9 (.iadd) 1 10 := qr_96 (by decide +kernel)
theorem dm_hasWall_10 : dl tm_hasWall 10 .iload_n .iload 2 11 := qr_28 (by decide +kernel)
theorem dm_hasWall_11 : dn tm_hasWall 11 (.iadd) 1 12 := qr_96 (by decide +kernel)
theorem dm_hasWall_12 : dl tm_hasWall 12 .aload_n .aload 0 13 := qr_42 (by decide +kernel)
theorem dm_hasWall_13 : dl tm_hasWall 13 .iload_n .iload 3 14 := qr_29 (by decide +kernel)
theorem dm_hasWall_14 : dn tm_hasWall 14 (.iconst 0) 1 15 := qr_3 (by decide +kernel)
theorem dm_hasWall_15 : dn tm_hasWall 15 (.bipush 99) 2 17 := qr_16 99 99 (by decide +kernel)
theorem dm_hasWall_17 : dn tm_hasWall 17 (.invokevirtual 161) 3 20 := qr_182 0 161 161 (by decide +kernel)
theorem dm_hasWall_20 : dn tm_hasWall 20 (.iastore) 1 21 := qr_79 (by decide +kernel)
theorem dm_hasWall_21 : dn tm_hasWall 21 (.return_) 1 22 := qr_177 (by decide +kernel)
theorem dm_sumOf_0 : dl tm_sumOf 0 .aload_n .aload 0 1 := qr_42 (by decide +kernel)
theorem dm_sumOf_1 : dl tm_sumOf 1 .iload_n .iload 1 2 := qr_27 (by decide +kernel)
theorem dm_sumOf_2 : dn tm_sumOf 2 (.iconst 0) 1 3 := qr_3 (by decide +kernel)
theorem dm_sumOf_3 : dn tm_sumOf 3 (.invokevirtual 165) 3 6 := qr_182 0 165 165 (by decide +kernel)
theorem dm_sumOf_6 : dl tm_sumOf 6 .aload_n .aload 0 7 := qr_42 (by decide +kernel)
theorem dm_sumOf_7 : dl tm_sumOf 7 .iload_n .iload 1 8 := qr_27 (by decide +kernel)
theorem dm_sumOf_8 : dn tm_sumOf 8 (.iconst 1) 1 9 := qr_4 (by decide +kernel)
theorem dm_sumOf_9 : dn tm_sumOf 9 (.invokevirtual 165) 3 12 := qr_182 0 165 165 (by decide +kernel)
theorem dm_sumOf_12 : dn tm_sumOf 12 (.iadd) 1 13 := qr_96 (by decide +kernel)
theorem dm_sumOf_13 : dl tm_sumOf 13 .aload_n .aload 0 14 := qr_42 (by decide +kernel)
theorem dm_sumOf_14 : dl tm_sumOf 14 .iload_n .iload 1 15 := qr_27 (by decide +kernel)
theorem dm_sumOf_15 : dn tm_sumOf 15 (.iconst 2) 1 16 := qr_5 (by decide +kernel)
theorem dm_sumOf_16 : dn tm_sumOf 16 (.invokevirtual 165) 3 19 := qr_182 0 165 165 (by decide +kernel)
theorem dm_sumOf_19 : dn tm_sumOf 19 (.iadd) 1 20 := qr_96 (by decide +kernel)
theorem dm_sumOf_20 : dl tm_sumOf 20 .aload_n .aload 0 21 := qr_42 (by decide +kernel)
theorem dm_sumOf_21 : dl tm_sumOf 21 .iload_n .iload 1 22 := qr_27 (by decide +kernel)
theorem dm_sumOf_22 : dn tm_sumOf 22 (.iconst 3) 1 23 := qr_6 (by decide +kernel)
theorem dm_sumOf_23 : dn tm_sumOf 23 (.invokevirtual 165) 3 26 := qr_182 0 165 165 (by decide +kernel)
theorem dm_sumOf_26 : dn tm_sumOf 26 (.iadd) 1 27 := qr_96 (by decide +kernel)
theorem dm_sumOf_27 : dn tm_sumOf 27 (.ireturn) 1 28 := qr_172 (by decide +kernel)
theorem dm_doesStand_0 : dl tm_doesStand 0 .aload_n .aload 0 1 := qr_42 (by decide +kernel)
theorem dm_doesStand_1 : dl tm_doesStand 1 .iload_n .iload 1 2 := qr_27 (by decide +kernel)
theorem dm_doesStand_2 : dn tm_doesStand 2 (.invokevirtual 169) 3 5 := qr_182 0 169 169 (by decide +kernel)
theorem dm_doesStand_5 : db tm_doesStand 5 (.ifCond .le) 12 8 := qr_158 0 7 7 (by decide +kernel) rfl
theorem dm_doesStand_8 : dn tm_doesStand 8 (.iconst 1) 1 9 := qr_4 (by decide +kernel)
theorem dm_doesStand_9 : db tm_doesStand 9 .goto 13 12 := qr_167 0 4 4 (by decide +kernel) rfl
theorem dm_doesStand_12 : dn tm_doesStand 12 (.iconst 0) 1 13 := qr_3 (by decide +kernel)
theorem dm_doesStand_13 : dn tm_doesStand 13 (.ireturn) 1 14 := qr_172 (by decide +kernel)
theorem dm_thickest_0 : dn tm_thickest 0 (.iconst 0) 1 1 := qr_3 (by decide +kernel)
theorem dm_thickest_1 : dl tm_thickest 1 .istore_n .istore 2 2 := qr_61 (by decide +kernel)
theorem dm_thickest_2 : dn tm_thickest 2 (.iconst 1) 1 3 := qr_4 (by decide +kernel)
theorem dm_thickest_3 : dl tm_thickest 3 .istore_n .istore 3 4 := qr_62 (by decide +kernel)
theorem dm_thickest_4 : dl tm_thickest 4 .iload_n .iload 3 5 := qr_29 (by decide +kernel)
theorem dm_thickest_5 : dn tm_thickest 5 (.iconst 4) 1 6 := qr_7 (by decide +kernel)
theorem dm_thickest_6 : db tm_thickest 6 (.if_icmp .ge) 32 9 := qr_162 0 26 26 (by decide +kernel) rfl
theorem dm_thickest_9 : dl tm_thickest 9 .aload_n .aload 0 10 := qr_42 (by decide +kernel)
theorem dm_thickest_10 : dl tm_thickest 10 .iload_n .iload 1 11 := qr_27 (by decide +kernel)
theorem dm_thickest_11 : dl tm_thickest 11 .iload_n .iload 3 12 := qr_29 (by decide +kernel)
theorem dm_thickest_12 : dn tm_thickest 12 (.invokevirtual 165) 3 15 := qr_182 0 165 165 (by decide +kernel)
theorem dm_thickest_15 : dl tm_thickest 15 .aload_n .aload 0 16 := qr_42 (by decide +kernel)
theorem dm_thickest_16 : dl tm_thickest 16 .iload_n .iload 1 17 := qr_27 (by decide +kernel)
theorem dm_thickest_17 : dl tm_thickest 17 .iload_n .iload 2 18 := qr_28 (by decide +kernel)
theorem dm_thickest_18 : dn tm_thickest 18 (.invokevirtual 165) 3 21 := qr_182 0 165 165 (by decide +kernel)
theorem dm_thickest_21 : db tm_thickest 21 (.if_icmp .le) 26 24 := qr_164 0 5 5 (by decide +kernel) rfl
theorem dm_thickest_24 : dl tm_thickest 24 .iload_n .iload 3 25 := qr_29 (by decide +kernel)
theorem dm_thickest_25 : dl tm_thickest 25 .istore_n .istore 2 26 := qr_61 (by decide +kernel)
theorem dm_thickest_26 : dn tm_thickest 26 (.iinc 3 1) 3 29 := qr_132 3 1 1 (by decide +kernel)
theorem dm_thickest_29 : db tm_thickest 29 .goto 4 32 := qr_167 255 231 (-25) (by decide +kernel) rfl
theorem dm_thickest_32 : dl tm_thickest 32 .iload_n .iload 2 33 := qr_28 (by decide +kernel)
theorem dm_thickest_33 : dn tm_thickest 33 (.ireturn) 1 34 := qr_172 (by decide +kernel)
theorem dm_standingSet_0 : dn tm_standingSet 0 (.iconst 0) 1 1 := qr_3 (by decide +kernel)
theorem dm_standingSet_1 : dl tm_standingSet 1 .istore_n .istore 1 2 := qr_60 (by decide +kernel)
theorem dm_standingSet_2 : dn tm_standingSet 2 (.iconst 0) 1 3 := qr_3 (by decide +kernel)
theorem dm_standingSet_3 : dl tm_standingSet 3 .istore_n .istore 2 4 := qr_61 (by decide +kernel)
theorem dm_standingSet_4 : dl tm_standingSet 4 .iload_n .iload 2 5 := qr_28 (by decide +kernel)
theorem dm_standingSet_5 : dl tm_standingSet 5 .aload_n .aload 0 6 := qr_42 (by decide +kernel)
theorem dm_standingSet_6 : dn tm_standingSet 6 (.getfield 158) 3 9 := qr_180 0 158 158 (by decide +kernel)
theorem dm_standingSet_9 : db tm_standingSet 9 (.if_icmp .ge) 32 12 := qr_162 0 23 23 (by decide +kernel) rfl
theorem dm_standingSet_12 : dl tm_standingSet 12 .aload_n .aload 0 13 := qr_42 (by decide +kernel)
theorem dm_standingSet_13 : dl tm_standingSet 13 .iload_n .iload 2 14 := qr_28 (by decide +kernel)
theorem dm_standingSet_14 : dn tm_standingSet 14 (.invokevirtual 173) 3 17 := qr_182 0 173 173 (by decide +kernel)
theorem dm_standingSet_17 : db tm_standingSet 17 (.ifCond .eq) 26 20 := qr_153 0 9 9 (by decide +kernel) rfl
theorem dm_standingSet_20 : dl tm_standingSet 20 .iload_n .iload 1 21 := qr_27 (by decide +kernel)
theorem dm_standingSet_21 : dn tm_standingSet 21 (.iconst 1) 1 22 := qr_4 (by decide +kernel)
theorem dm_standingSet_22 : dl tm_standingSet 22 .iload_n .iload 2 23 := qr_28 (by decide +kernel)
theorem dm_standingSet_23 : dn tm_standingSet 23 (.ishl) 1 24 := qr_120 (by decide +kernel)
theorem dm_standingSet_24 : dn tm_standingSet 24 (.ior) 1 25 := qr_128 (by decide +kernel)
theorem dm_standingSet_25 : dl tm_standingSet 25 .istore_n .istore 1 26 := qr_60 (by decide +kernel)
theorem dm_standingSet_26 : dn tm_standingSet 26 (.iinc 2 1) 3 29 := qr_132 2 1 1 (by decide +kernel)
theorem dm_standingSet_29 : db tm_standingSet 29 .goto 4 32 := qr_167 255 231 (-25) (by decide +kernel) rfl
theorem dm_standingSet_32 : dl tm_standingSet 32 .iload_n .iload 1 33 := qr_27 (by decide +kernel)
theorem dm_standingSet_33 : dn tm_standingSet 33 (.ireturn) 1 34 := qr_172 (by decide +kernel)
theorem dm_house_0 : dl tm_house 0 .aload_n .aload 0 1 := qr_42 (by decide +kernel)
theorem dm_house_1 : dn tm_house 1 (.iconst 0) 1 2 := qr_3 (by decide +kernel)
theorem dm_house_2 : dn tm_house 2 (.putfield 146) 3 5 := qr_181 0 146 146 (by decide +kernel)
theorem dm_house_5 : dl tm_house 5 .aload_n .aload 0 6 := qr_42 (by decide +kernel)
theorem dm_house_6 : dl tm_house 6 .iload_n .iload 1 7 := qr_27 (by decide +kernel)
theorem dm_house_7 : dn tm_house 7 (.iconst 0) 1 8 := qr_3 (by decide +kernel)
theorem dm_house_8 : dn tm_house 8 (.bipush 99) 2 10 := qr_16 99 99 (by decide +kernel)
theorem dm_house_10 : dn tm_house 10 (.invokevirtual 177) 3 13 := qr_182 0 177 177 (by decide +kernel)
theorem dm_house_13 : db tm_house 13 (.ifCond .eq) 47 16 := qr_153 0 34 34 (by decide +kernel) rfl
theorem dm_house_16 : dl tm_house 16 .aload_n .aload 0 17 := qr_42 (by decide +kernel)
theorem dm_house_17 : dl tm_house 17 .iload_n .iload 2 18 := qr_28 (by decide +kernel)
theorem dm_house_18 : dn tm_house 18 (.iconst 0) 1 19 := qr_3 (by decide +kernel)
theorem dm_house_19 : dn tm_house 19 (.bipush 9) 2 21 := qr_16 9 9 (by decide +kernel)
theorem dm_house_21 : dn tm_house 21 (.invokevirtual 177) 3 24 := qr_182 0 177 177 (by decide +kernel)
theorem dm_house_24 : db tm_house 24 (.ifCond .eq) 47 27 := qr_153 0 23 23 (by decide +kernel) rfl
theorem dm_house_27 : dl tm_house 27 .aload_n .aload 0 28 := qr_42 (by decide +kernel)
theorem dm_house_28 : dl tm_house 28 .iload_n .iload 3 29 := qr_29 (by decide +kernel)
theorem dm_house_29 : dn tm_house 29 (.iconst 0) 1 30 := qr_3 (by decide +kernel)
theorem dm_house_30 : dn tm_house 30 (.bipush 9) 2 32 := qr_16 9 9 (by decide +kernel)
theorem dm_house_32 : dn tm_house 32 (.invokevirtual 177) 3 35 := qr_182 0 177 177 (by decide +kernel)
theorem dm_house_35 : db tm_house 35 (.ifCond .eq) 47 38 := qr_153 0 12 12 (by decide +kernel) rfl
theorem dm_house_38 : dl tm_house 38 .aload_n .aload 0 39 := qr_42 (by decide +kernel)
theorem dm_house_39 : dn tm_house 39 (.getfield 158) 3 42 := qr_180 0 158 158 (by decide +kernel)
theorem dm_house_42 : dn tm_house 42 (.bipush 12) 2 44 := qr_16 12 12 (by decide +kernel)
theorem dm_house_44 : db tm_house 44 (.if_icmp .ne) 49 47 := qr_160 0 5 5 (by decide +kernel) rfl
theorem dm_house_47 : dn tm_house 47 (.iconst (-1)) 1 48 := qr_2 (by decide +kernel)
theorem dm_house_48 : dn tm_house 48 (.ireturn) 1 49 := qr_172 (by decide +kernel)
theorem dm_house_49 : dn tm_house 49 (.iconst 0) 1 50 := qr_3 (by decide +kernel)
theorem dm_house_50 : dl tm_house 50 .istore_n .istore 4 52 := qs_54 4 (by decide +kernel)
theorem dm_house_52 : dl tm_house 52 .iload_n .iload 4 54 := qs_21 4 (by decide +kernel)
theorem dm_house_54 : dn tm_house 54 (.iconst 4) 1 55 := qr_7 (by decide +kernel)
theorem dm_house_55 : db tm_house 55 (.if_icmp .ge) 82 58 := qr_162 0 27 27 (by decide +kernel) rfl
theorem dm_house_58 : dl tm_house 58 .aload_n .aload 0 59 := qr_42 (by decide +kernel)
theorem dm_house_59 : dn tm_house 59 (.getfield 7) 3 62 := qr_180 0 7 7 (by decide +kernel)
theorem dm_house_62 : dn tm_house 62 (.bipush 7) 2 64 := qr_16 7 7 (by decide +kernel)
theorem dm_house_64 : dn tm_house 64 (.iconst 4) 1 65 := qr_7 (by decide +kernel)
theorem dm_house_65 : dl tm_house 65 .aload_n .aload 0 66 := qr_42 (by decide +kernel)
theorem dm_house_66 : dn tm_house 66 (.getfield 158) 3 69 := qr_180 0 158 158 (by decide +kernel)
theorem dm_house_69 : dn tm_house 69 (.imul) 1 70 := qr_104 (by decide +kernel)
theorem dm_house_70 : dn tm_house 70 (.iadd) 1 71 := qr_96 (by decide +kernel)
theorem dm_house_71 : dl tm_house 71 .iload_n .iload 4 73 := qs_21 4 (by decide +kernel)
theorem dm_house_73 : dn tm_house 73 (.iadd) 1 74 := qr_96 (by decide +kernel)
theorem dm_house_74 : dl tm_house 74 .iload_n .iload 1 75 := qr_27 (by decide +kernel)
theorem dm_house_75 : dn tm_house 75 (.iastore) 1 76 := qr_79 (by decide +kernel)
theorem dm_house_76 : dn tm_house 76 (.iinc 4 1) 3 79 := qr_132 4 1 1 (by decide +kernel)
theorem dm_house_79 : db tm_house 79 .goto 52 82 := qr_167 255 229 (-27) (by decide +kernel) rfl
theorem dm_house_82 : dl tm_house 82 .aload_n .aload 0 83 := qr_42 (by decide +kernel)
theorem dm_house_83 : dn tm_house 83 (.getfield 7) 3 86 := qr_180 0 7 7 (by decide +kernel)
theorem dm_house_86 : dn tm_house 86 (.bipush 55) 2 88 := qr_16 55 55 (by decide +kernel)
theorem dm_house_88 : dl tm_house 88 .aload_n .aload 0 89 := qr_42 (by decide +kernel)
theorem dm_house_89 : dn tm_house 89 (.getfield 158) 3 92 := qr_180 0 158 158 (by decide +kernel)
theorem dm_house_92 : dn tm_house 92 (.iadd) 1 93 := qr_96 (by decide +kernel)
theorem dm_house_93 : dn tm_house 93 (.iconst 0) 1 94 := qr_3 (by decide +kernel)
theorem dm_house_94 : dn tm_house 94 (.iastore) 1 95 := qr_79 (by decide +kernel)
theorem dm_house_95 : dl tm_house 95 .aload_n .aload 0 96 := qr_42 (by decide +kernel)
theorem dm_house_96 : dn tm_house 96 (.getfield 7) 3 99 := qr_180 0 7 7 (by decide +kernel)
theorem dm_house_99 : dn tm_house 99 (.bipush 67) 2 101 := qr_16 67 67 (by decide +kernel)
theorem dm_house_101 : dl tm_house 101 .aload_n .aload 0 102 := qr_42 (by decide +kernel)
theorem dm_house_102 : dn tm_house 102 (.getfield 158) 3 105 := qr_180 0 158 158 (by decide +kernel)
theorem dm_house_105 : dn tm_house 105 (.iadd) 1 106 := qr_96 (by decide +kernel)
theorem dm_house_106 : dn tm_house 106 (.iconst 0) 1 107 := qr_3 (by decide +kernel)
theorem dm_house_107 : dn tm_house 107 (.iastore) 1 108 := qr_79 (by decide +kernel)
theorem dm_house_108 : dl tm_house 108 .aload_n .aload 0 109 := qr_42 (by decide +kernel)
theorem dm_house_109 : dn tm_house 109 (.getfield 7) 3 112 := qr_180 0 7 7 (by decide +kernel)
theorem dm_house_112 : dn tm_house 112 (.bipush 79) 2 114 := qr_16 79 79 (by decide +kernel)
theorem dm_house_114 : dl tm_house 114 .aload_n .aload 0 115 := qr_42 (by decide +kernel)
theorem dm_house_115 : dn tm_house 115 (.getfield 158) 3 118 := qr_180 0 158 158 (by decide +kernel)
theorem dm_house_118 : dn tm_house 118 (.iadd) 1 119 := qr_96 (by decide +kernel)
theorem dm_house_119 : dn tm_house 119 (.iconst 1) 1 120 := qr_4 (by decide +kernel)
theorem dm_house_120 : dn tm_house 120 (.iastore) 1 121 := qr_79 (by decide +kernel)
theorem dm_house_121 : dl tm_house 121 .aload_n .aload 0 122 := qr_42 (by decide +kernel)
theorem dm_house_122 : dn tm_house 122 (.getfield 7) 3 125 := qr_180 0 7 7 (by decide +kernel)
theorem dm_house_125 : dn tm_house 125 (.bipush 91) 2 127 := qr_16 91 91 (by decide +kernel)
theorem dm_house_127 : dl tm_house 127 .aload_n .aload 0 128 := qr_42 (by decide +kernel)
theorem dm_house_128 : dn tm_house 128 (.getfield 158) 3 131 := qr_180 0 158 158 (by decide +kernel)
theorem dm_house_131 : dn tm_house 131 (.iadd) 1 132 := qr_96 (by decide +kernel)
theorem dm_house_132 : dn tm_house 132 (.iconst 0) 1 133 := qr_3 (by decide +kernel)
theorem dm_house_133 : dn tm_house 133 (.iastore) 1 134 := qr_79 (by decide +kernel)
theorem dm_house_134 : dl tm_house 134 .aload_n .aload 0 135 := qr_42 (by decide +kernel)
theorem dm_house_135 : dn tm_house 135 (.getfield 7) 3 138 := qr_180 0 7 7 (by decide +kernel)
theorem dm_house_138 : dn tm_house 138 (.bipush 103) 2 140 := qr_16 103 103 (by decide +kernel)
theorem dm_house_140 : dl tm_house 140 .aload_n .aload 0 141 := qr_42 (by decide +kernel)
theorem dm_house_141 : dn tm_house 141 (.getfield 158) 3 144 := qr_180 0 158 158 (by decide +kernel)
theorem dm_house_144 : dn tm_house 144 (.iadd) 1 145 := qr_96 (by decide +kernel)
theorem dm_house_145 : dn tm_house 145 (.iconst 0) 1 146 := qr_3 (by decide +kernel)
theorem dm_house_146 : dn tm_house 146 (.iastore) 1 147 := qr_79 (by decide +kernel)
theorem dm_house_147 : dl tm_house 147 .aload_n .aload 0 148 := qr_42 (by decide +kernel)
theorem dm_house_148 : dn tm_house 148 (.getfield 19) 3 151 := qr_180 0 19 19 (by decide +kernel)
theorem dm_house_151 : dl tm_house 151 .aload_n .aload 0 152 := qr_42 (by decide +kernel)
theorem dm_house_152 : dn tm_house 152 (.getfield 158) 3 155 := qr_180 0 158 158 (by decide +kernel)
theorem dm_house_155 : dl tm_house 155 .iload_n .iload 2 156 := qr_28 (by decide +kernel)
theorem dm_house_156 : dn tm_house 156 (.iastore) 1 157 := qr_79 (by decide +kernel)
theorem dm_house_157 : dl tm_house 157 .aload_n .aload 0 158 := qr_42 (by decide +kernel)
theorem dm_house_158 : dn tm_house 158 (.getfield 22) 3 161 := qr_180 0 22 22 (by decide +kernel)
theorem dm_house_161 : dl tm_house 161 .aload_n .aload 0 162 := qr_42 (by decide +kernel)
theorem dm_house_162 : dn tm_house 162 (.getfield 158) 3 165 := qr_180 0 158 158 (by decide +kernel)
theorem dm_house_165 : dl tm_house 165 .iload_n .iload 3 166 := qr_29 (by decide +kernel)
theorem dm_house_166 : dn tm_house 166 (.iastore) 1 167 := qr_79 (by decide +kernel)
theorem dm_house_167 : dl tm_house 167 .aload_n .aload 0 168 := qr_42 (by decide +kernel)
theorem dm_house_168 : dl tm_house 168 .aload_n .aload 0 169 := qr_42 (by decide +kernel)
theorem dm_house_169 : dn tm_house 169 (.getfield 158) 3 172 := qr_180 0 158 158 (by decide +kernel)
theorem dm_house_172 : dn tm_house 172 (.iconst 1) 1 173 := qr_4 (by decide +kernel)
theorem dm_house_173 : dn tm_house 173 (.iadd) 1 174 := qr_96 (by decide +kernel)
theorem dm_house_174 : dn tm_house 174 (.putfield 158) 3 177 := qr_181 0 158 158 (by decide +kernel)
theorem dm_house_177 : dl tm_house 177 .aload_n .aload 0 178 := qr_42 (by decide +kernel)
theorem dm_house_178 : dn tm_house 178 (.iconst 0) 1 179 := qr_3 (by decide +kernel)
theorem dm_house_179 : dn tm_house 179 (.putfield 149) 3 182 := qr_181 0 149 149 (by decide +kernel)
theorem dm_house_182 : dl tm_house 182 .aload_n .aload 0 183 := qr_42 (by decide +kernel)
theorem dm_house_183 : dn tm_house 183 (.getfield 158) 3 186 := qr_180 0 158 158 (by decide +kernel)
theorem dm_house_186 : dn tm_house 186 (.iconst 1) 1 187 := qr_4 (by decide +kernel)
theorem dm_house_187 : dn tm_house 187 (.isub) 1 188 := qr_100 (by decide +kernel)
theorem dm_house_188 : dn tm_house 188 (.ireturn) 1 189 := qr_172 (by decide +kernel)
theorem dm_canSet_0 : dl tm_canSet 0 .iload_n .iload 1 1 := qr_27 (by decide +kernel)
theorem dm_canSet_1 : dn tm_canSet 1 (.bipush 8) 2 3 := qr_16 8 8 (by decide +kernel)
theorem dm_canSet_3 : db tm_canSet 3 (.if_icmp .ne) 15 6 := qr_160 0 12 12 (by decide +kernel) rfl
theorem dm_canSet_6 : dl tm_canSet 6 .aload_n .aload 0 7 := qr_42 (by decide +kernel)
theorem dm_canSet_7 : dl tm_canSet 7 .iload_n .iload 3 8 := qr_29 (by decide +kernel)
theorem dm_canSet_8 : dn tm_canSet 8 (.iconst 0) 1 9 := qr_3 (by decide +kernel)
theorem dm_canSet_9 : dn tm_canSet 9 (.bipush 9) 2 11 := qr_16 9 9 (by decide +kernel)
theorem dm_canSet_11 : dn tm_canSet 11 (.invokevirtual 177) 3 14 := qr_182 0 177 177 (by decide +kernel)
theorem dm_canSet_14 : dn tm_canSet 14 (.ireturn) 1 15 := qr_172 (by decide +kernel)
theorem dm_canSet_15 : dl tm_canSet 15 .aload_n .aload 0 16 := qr_42 (by decide +kernel)
theorem dm_canSet_16 : dl tm_canSet 16 .iload_n .iload 1 17 := qr_27 (by decide +kernel)
theorem dm_canSet_17 : dn tm_canSet 17 (.iconst 0) 1 18 := qr_3 (by decide +kernel)
theorem dm_canSet_18 : dn tm_canSet 18 (.bipush 7) 2 20 := qr_16 7 7 (by decide +kernel)
theorem dm_canSet_20 : dn tm_canSet 20 (.invokevirtual 177) 3 23 := qr_182 0 177 177 (by decide +kernel)
theorem dm_canSet_23 : db tm_canSet 23 (.ifCond .eq) 65 26 := qr_153 0 42 42 (by decide +kernel) rfl
theorem dm_canSet_26 : dl tm_canSet 26 .aload_n .aload 0 27 := qr_42 (by decide +kernel)
theorem dm_canSet_27 : dl tm_canSet 27 .iload_n .iload 2 28 := qr_28 (by decide +kernel)
theorem dm_canSet_28 : dn tm_canSet 28 (.invokevirtual 181) 3 31 := qr_182 0 181 181 (by decide +kernel)
theorem dm_canSet_31 : db tm_canSet 31 (.ifCond .eq) 65 34 := qr_153 0 34 34 (by decide +kernel) rfl
theorem dm_canSet_34 : dl tm_canSet 34 .aload_n .aload 0 35 := qr_42 (by decide +kernel)
theorem dm_canSet_35 : dl tm_canSet 35 .iload_n .iload 3 36 := qr_29 (by decide +kernel)
theorem dm_canSet_36 : dn tm_canSet 36 (.iconst 0) 1 37 := qr_3 (by decide +kernel)
theorem dm_canSet_37 : dl tm_canSet 37 .aload_n .aload 0 38 := qr_42 (by decide +kernel)
theorem dm_canSet_38 : dl tm_canSet 38 .iload_n .iload 1 39 := qr_27 (by decide +kernel)
theorem dm_canSet_39 : dn tm_canSet 39 (.iconst 4) 1 40 := qr_7 (by decide +kernel)
theorem dm_canSet_40 : dn tm_canSet 40 (.bipush 6) 2 42 := qr_16 6 6 (by decide +kernel)
theorem dm_canSet_42 : dn tm_canSet 42 (.invokevirtual 177) 3 45 := qr_182 0 177 177 (by decide +kernel)
theorem dm_canSet_45 : db tm_canSet 45 (.ifCond .eq) 53 48 := qr_153 0 8 8 (by decide +kernel) rfl
theorem dm_canSet_48 : dn tm_canSet 48 (.bipush 9) 2 50 := qr_16 9 9 (by decide +kernel)
theorem dm_canSet_50 : db tm_canSet 50 .goto 55 53 := qr_167 0 5 5 (by decide +kernel) rfl
theorem dm_canSet_53 : dn tm_canSet 53 (.bipush 99) 2 55 := qr_16 99 99 (by decide +kernel)
theorem dm_canSet_55 : dn tm_canSet 55 (.invokevirtual 177) 3 58 := qr_182 0 177 177 (by decide +kernel)
theorem dm_canSet_58 : db tm_canSet 58 (.ifCond .eq) 65 61 := qr_153 0 7 7 (by decide +kernel) rfl
theorem dm_canSet_61 : dn tm_canSet 61 (.iconst 1) 1 62 := qr_4 (by decide +kernel)
theorem dm_canSet_62 : db tm_canSet 62 .goto 66 65 := qr_167 0 4 4 (by decide +kernel) rfl
theorem dm_canSet_65 : dn tm_canSet 65 (.iconst 0) 1 66 := qr_3 (by decide +kernel)
theorem dm_canSet_66 : dn tm_canSet 66 (.ireturn) 1 67 := qr_172 (by decide +kernel)
theorem dm_set_0 : dl tm_set 0 .aload_n .aload 0 1 := qr_42 (by decide +kernel)
theorem dm_set_1 : dn tm_set 1 (.iconst 0) 1 2 := qr_3 (by decide +kernel)
theorem dm_set_2 : dn tm_set 2 (.putfield 146) 3 5 := qr_181 0 146 146 (by decide +kernel)
theorem dm_set_5 : dl tm_set 5 .aload_n .aload 0 6 := qr_42 (by decide +kernel)
theorem dm_set_6 : dl tm_set 6 .iload_n .iload 1 7 := qr_27 (by decide +kernel)
theorem dm_set_7 : dl tm_set 7 .iload_n .iload 2 8 := qr_28 (by decide +kernel)
theorem dm_set_8 : dl tm_set 8 .iload_n .iload 3 9 := qr_29 (by decide +kernel)
theorem dm_set_9 : dn tm_set 9 (.invokevirtual 184) 3 12 := qr_182 0 184 184 (by decide +kernel)
theorem dm_set_12 : db tm_set 12 (.ifCond .ne) 17 15 := qr_154 0 5 5 (by decide +kernel) rfl
theorem dm_set_15 : dn tm_set 15 (.iconst 0) 1 16 := qr_3 (by decide +kernel)
theorem dm_set_16 : dn tm_set 16 (.ireturn) 1 17 := qr_172 (by decide +kernel)
theorem dm_set_17 : dl tm_set 17 .iload_n .iload 1 18 := qr_27 (by decide +kernel)
theorem dm_set_18 : dn tm_set 18 (.iconst 4) 1 19 := qr_7 (by decide +kernel)
theorem dm_set_19 : db tm_set 19 (.if_icmp .ge) 29 22 := qr_162 0 10 10 (by decide +kernel) rfl
theorem dm_set_22 : dl tm_set 22 .aload_n .aload 0 23 := qr_42 (by decide +kernel)
theorem dm_set_23 : dl tm_set 23 .iload_n .iload 2 24 := qr_28 (by decide +kernel)
theorem dm_set_24 : dl tm_set 24 .iload_n .iload 1 25 := qr_27 (by decide +kernel)
theorem dm_set_25 : dl tm_set 25 .iload_n .iload 3 26 := qr_29 (by decide +kernel)
theorem dm_set_26 : dn tm_set 26 (.invokevirtual 187) 3 29 := qr_182 0 187 187 (by decide +kernel)
theorem dm_set_29 : dl tm_set 29 .iload_n .iload 1 30 := qr_27 (by decide +kernel)
theorem dm_set_30 : dn tm_set 30 (.iconst 4) 1 31 := qr_7 (by decide +kernel)
theorem dm_set_31 : db tm_set 31 (.if_icmp .ne) 41 34 := qr_160 0 10 10 (by decide +kernel) rfl
theorem dm_set_34 : dl tm_set 34 .aload_n .aload 0 35 := qr_42 (by decide +kernel)
theorem dm_set_35 : dn tm_set 35 (.getfield 19) 3 38 := qr_180 0 19 19 (by decide +kernel)
theorem dm_set_38 : dl tm_set 38 .iload_n .iload 2 39 := qr_28 (by decide +kernel)
theorem dm_set_39 : dl tm_set 39 .iload_n .iload 3 40 := qr_29 (by decide +kernel)
theorem dm_set_40 : dn tm_set 40 (.iastore) 1 41 := qr_79 (by decide +kernel)
theorem dm_set_41 : dl tm_set 41 .iload_n .iload 1 42 := qr_27 (by decide +kernel)
theorem dm_set_42 : dn tm_set 42 (.iconst 5) 1 43 := qr_8 (by decide +kernel)
theorem dm_set_43 : db tm_set 43 (.if_icmp .ne) 53 46 := qr_160 0 10 10 (by decide +kernel) rfl
theorem dm_set_46 : dl tm_set 46 .aload_n .aload 0 47 := qr_42 (by decide +kernel)
theorem dm_set_47 : dn tm_set 47 (.getfield 22) 3 50 := qr_180 0 22 22 (by decide +kernel)
theorem dm_set_50 : dl tm_set 50 .iload_n .iload 2 51 := qr_28 (by decide +kernel)
theorem dm_set_51 : dl tm_set 51 .iload_n .iload 3 52 := qr_29 (by decide +kernel)
theorem dm_set_52 : dn tm_set 52 (.iastore) 1 53 := qr_79 (by decide +kernel)
theorem dm_set_53 : dl tm_set 53 .iload_n .iload 1 54 := qr_27 (by decide +kernel)
theorem dm_set_54 : dn tm_set 54 (.bipush 6) 2 56 := qr_16 6 6 (by decide +kernel)
theorem dm_set_56 : db tm_set 56 (.if_icmp .ne) 69 59 := qr_160 0 13 13 (by decide +kernel) rfl
theorem dm_set_59 : dl tm_set 59 .aload_n .aload 0 60 := qr_42 (by decide +kernel)
theorem dm_set_60 : dn tm_set 60 (.getfield 7) 3 63 := qr_180 0 7 7 (by decide +kernel)
theorem dm_set_63 : dn tm_set 63 (.bipush 55) 2 65 := qr_16 55 55 (by decide +kernel)
theorem dm_set_65 : dl tm_set 65 .iload_n .iload 2 66 := qr_28 (by decide +kernel)
theorem dm_set_66 : dn tm_set 66 (.iadd) 1 67 := qr_96 (by decide +kernel)
theorem dm_set_67 : dl tm_set 67 .iload_n .iload 3 68 := qr_29 (by decide +kernel)
theorem dm_set_68 : dn tm_set 68 (.iastore) 1 69 := qr_79 (by decide +kernel)
theorem dm_set_69 : dl tm_set 69 .iload_n .iload 1 70 := qr_27 (by decide +kernel)
theorem dm_set_70 : dn tm_set 70 (.bipush 7) 2 72 := qr_16 7 7 (by decide +kernel)
theorem dm_set_72 : db tm_set 72 (.if_icmp .ne) 85 75 := qr_160 0 13 13 (by decide +kernel) rfl
theorem dm_set_75 : dl tm_set 75 .aload_n .aload 0 76 := qr_42 (by decide +kernel)
theorem dm_set_76 : dn tm_set 76 (.getfield 7) 3 79 := qr_180 0 7 7 (by decide +kernel)
theorem dm_set_79 : dn tm_set 79 (.bipush 79) 2 81 := qr_16 79 79 (by decide +kernel)
theorem dm_set_81 : dl tm_set 81 .iload_n .iload 2 82 := qr_28 (by decide +kernel)
theorem dm_set_82 : dn tm_set 82 (.iadd) 1 83 := qr_96 (by decide +kernel)
theorem dm_set_83 : dl tm_set 83 .iload_n .iload 3 84 := qr_29 (by decide +kernel)
theorem dm_set_84 : dn tm_set 84 (.iastore) 1 85 := qr_79 (by decide +kernel)
theorem dm_set_85 : dl tm_set 85 .iload_n .iload 1 86 := qr_27 (by decide +kernel)
theorem dm_set_86 : dn tm_set 86 (.bipush 8) 2 88 := qr_16 8 8 (by decide +kernel)
theorem dm_set_88 : db tm_set 88 (.if_icmp .ne) 98 91 := qr_160 0 10 10 (by decide +kernel) rfl
theorem dm_set_91 : dl tm_set 91 .aload_n .aload 0 92 := qr_42 (by decide +kernel)
theorem dm_set_92 : dn tm_set 92 (.getfield 7) 3 95 := qr_180 0 7 7 (by decide +kernel)
theorem dm_set_95 : dn tm_set 95 (.iconst 3) 1 96 := qr_6 (by decide +kernel)
theorem dm_set_96 : dl tm_set 96 .iload_n .iload 3 97 := qr_29 (by decide +kernel)
theorem dm_set_97 : dn tm_set 97 (.iastore) 1 98 := qr_79 (by decide +kernel)
theorem dm_set_98 : dl tm_set 98 .aload_n .aload 0 99 := qr_42 (by decide +kernel)
theorem dm_set_99 : dn tm_set 99 (.iconst 0) 1 100 := qr_3 (by decide +kernel)
theorem dm_set_100 : dn tm_set 100 (.putfield 149) 3 103 := qr_181 0 149 149 (by decide +kernel)
theorem dm_set_103 : dn tm_set 103 (.iconst 1) 1 104 := qr_4 (by decide +kernel)
theorem dm_set_104 : dn tm_set 104 (.ireturn) 1 105 := qr_172 (by decide +kernel)
theorem dm_types_0 : dn tm_types 0 (.bipush 24) 2 2 := qr_16 24 24 (by decide +kernel)
theorem dm_types_2 : dl tm_types 2 .istore_n .istore 2 3 := qr_61 (by decide +kernel)
theorem dm_types_3 : dl tm_types 3 .iload_n .iload 2 4 := qr_28 (by decide +kernel)
theorem dm_types_4 : db tm_types 4 (.ifCond .lt) 39 7 := qr_155 0 35 35 (by decide +kernel) rfl
theorem dm_types_7 : dl tm_types 7 .aload_n .aload 0 8 := qr_42 (by decide +kernel)
theorem dm_types_8 : dn tm_types 8 (.getfield 28) 3 11 := qr_180 0 28 28 (by decide +kernel)
theorem dm_types_11 : dl tm_types 11 .aload_n .aload 0 12 := qr_42 (by decide +kernel)
theorem dm_types_12 : dn tm_types 12 (.getfield 191) 3 15 := qr_180 0 191 191 (by decide +kernel)
theorem dm_types_15 : dl tm_types 15 .iload_n .iload 1 16 := qr_27 (by decide +kernel)
theorem dm_types_16 : dl tm_types 16 .iload_n .iload 2 17 := qr_28 (by decide +kernel)
theorem dm_types_17 : dn tm_types 17 (.ishr) 1 18 := qr_122 (by decide +kernel)
theorem dm_types_18 : dn tm_types 18 (.sipush 255) 3 21 := qr_17 0 255 255 (by decide +kernel)
theorem dm_types_21 : dn tm_types 21 (.iand) 1 22 := qr_126 (by decide +kernel)
theorem dm_types_22 : dn tm_types 22 (.iastore) 1 23 := qr_79 (by decide +kernel)
theorem dm_types_23 : dl tm_types 23 .aload_n .aload 0 24 := qr_42 (by decide +kernel)
theorem dm_types_24 : dl tm_types 24 .aload_n .aload 0 25 := qr_42 (by decide +kernel)
theorem dm_types_25 : dn tm_types 25 (.getfield 191) 3 28 := qr_180 0 191 191 (by decide +kernel)
theorem dm_types_28 : dn tm_types 28 (.iconst 1) 1 29 := qr_4 (by decide +kernel)
theorem dm_types_29 : dn tm_types 29 (.iadd) 1 30 := qr_96 (by decide +kernel)
theorem dm_types_30 : dn tm_types 30 (.putfield 191) 3 33 := qr_181 0 191 191 (by decide +kernel)
theorem dm_types_33 : dn tm_types 33 (.iinc 2 (-8)) 3 36 := qr_132 2 248 (-8) (by decide +kernel)
theorem dm_types_36 : db tm_types 36 .goto 3 39 := qr_167 255 223 (-33) (by decide +kernel) rfl
theorem dm_types_39 : dn tm_types 39 (.return_) 1 40 := qr_177 (by decide +kernel)
theorem dm_feed_0 : dl tm_feed 0 .aload_n .aload 0 1 := qr_42 (by decide +kernel)
theorem dm_feed_1 : dn tm_feed 1 (.iconst 0) 1 2 := qr_3 (by decide +kernel)
theorem dm_feed_2 : dn tm_feed 2 (.putfield 146) 3 5 := qr_181 0 146 146 (by decide +kernel)
theorem dm_feed_5 : dl tm_feed 5 .aload_n .aload 0 6 := qr_42 (by decide +kernel)
theorem dm_feed_6 : dn tm_feed 6 (.getfield 191) 3 9 := qr_180 0 191 191 (by decide +kernel)
theorem dm_feed_9 : dn tm_feed 9 (.sipush 380) 3 12 := qr_17 1 124 380 (by decide +kernel)
theorem dm_feed_12 : db tm_feed 12 (.if_icmp .le) 17 15 := qr_164 0 5 5 (by decide +kernel) rfl
theorem dm_feed_15 : dn tm_feed 15 (.iconst (-1)) 1 16 := qr_2 (by decide +kernel)
theorem dm_feed_16 : dn tm_feed 16 (.ireturn) 1 17 := qr_172 (by decide +kernel)
theorem dm_feed_17 : dl tm_feed 17 .aload_n .aload 0 18 := qr_42 (by decide +kernel)
theorem dm_feed_18 : dl tm_feed 18 .iload_n .iload 1 19 := qr_27 (by decide +kernel)
theorem dm_feed_19 : dn tm_feed 19 (.invokevirtual 194) 3 22 := qr_182 0 194 194 (by decide +kernel)
theorem dm_feed_22 : dl tm_feed 22 .aload_n .aload 0 23 := qr_42 (by decide +kernel)
theorem dm_feed_23 : dl tm_feed 23 .iload_n .iload 2 24 := qr_28 (by decide +kernel)
theorem dm_feed_24 : dn tm_feed 24 (.invokevirtual 194) 3 27 := qr_182 0 194 194 (by decide +kernel)
theorem dm_feed_27 : dl tm_feed 27 .aload_n .aload 0 28 := qr_42 (by decide +kernel)
theorem dm_feed_28 : dl tm_feed 28 .iload_n .iload 3 29 := qr_29 (by decide +kernel)
theorem dm_feed_29 : dn tm_feed 29 (.invokevirtual 194) 3 32 := qr_182 0 194 194 (by decide +kernel)
theorem dm_feed_32 : dl tm_feed 32 .aload_n .aload 0 33 := qr_42 (by decide +kernel)
theorem dm_feed_33 : dl tm_feed 33 .iload_n .iload 4 35 := qs_21 4 (by decide +kernel)
theorem dm_feed_35 : dn tm_feed 35 (.invokevirtual 194) 3 38 := qr_182 0 194 194 (by decide +kernel)
theorem dm_feed_38 : dl tm_feed 38 .aload_n .aload 0 39 := qr_42 (by decide +kernel)
theorem dm_feed_39 : dl tm_feed 39 .iload_n .iload 5 41 := qs_21 5 (by decide +kernel)
theorem dm_feed_41 : dn tm_feed 41 (.invokevirtual 194) 3 44 := qr_182 0 194 194 (by decide +kernel)
theorem dm_feed_44 : dl tm_feed 44 .aload_n .aload 0 45 := qr_42 (by decide +kernel)
theorem dm_feed_45 : dn tm_feed 45 (.getfield 191) 3 48 := qr_180 0 191 191 (by decide +kernel)
theorem dm_feed_48 : dn tm_feed 48 (.ireturn) 1 49 := qr_172 (by decide +kernel)
theorem dm_end_0 : dl tm_end 0 .aload_n .aload 0 1 := qr_42 (by decide +kernel)
theorem dm_end_1 : dn tm_end 1 (.iconst 0) 1 2 := qr_3 (by decide +kernel)
theorem dm_end_2 : dn tm_end 2 (.putfield 146) 3 5 := qr_181 0 146 146 (by decide +kernel)
theorem dm_end_5 : dl tm_end 5 .aload_n .aload 0 6 := qr_42 (by decide +kernel)
theorem dm_end_6 : dl tm_end 6 .iload_n .iload 1 7 := qr_27 (by decide +kernel)
theorem dm_end_7 : dn tm_end 7 (.iconst 0) 1 8 := qr_3 (by decide +kernel)
theorem dm_end_8 : dl tm_end 8 .aload_n .aload 0 9 := qr_42 (by decide +kernel)
theorem dm_end_9 : dn tm_end 9 (.getfield 191) 3 12 := qr_180 0 191 191 (by decide +kernel)
theorem dm_end_12 : dn tm_end 12 (.invokevirtual 177) 3 15 := qr_182 0 177 177 (by decide +kernel)
theorem dm_end_15 : db tm_end 15 (.ifCond .ne) 20 18 := qr_154 0 5 5 (by decide +kernel) rfl
theorem dm_end_18 : dn tm_end 18 (.iconst 0) 1 19 := qr_3 (by decide +kernel)
theorem dm_end_19 : dn tm_end 19 (.ireturn) 1 20 := qr_172 (by decide +kernel)
theorem dm_end_20 : dl tm_end 20 .aload_n .aload 0 21 := qr_42 (by decide +kernel)
theorem dm_end_21 : dl tm_end 21 .iload_n .iload 1 22 := qr_27 (by decide +kernel)
theorem dm_end_22 : dn tm_end 22 (.putfield 191) 3 25 := qr_181 0 191 191 (by decide +kernel)
theorem dm_end_25 : dn tm_end 25 (.iconst 1) 1 26 := qr_4 (by decide +kernel)
theorem dm_end_26 : dn tm_end 26 (.ireturn) 1 27 := qr_172 (by decide +kernel)
theorem dm_raw_0 : dl tm_raw 0 .iload_n .iload 1 1 := qr_27 (by decide +kernel)
theorem dm_raw_1 : dl tm_raw 1 .aload_n .aload 0 2 := qr_42 (by decide +kernel)
theorem dm_raw_2 : dn tm_raw 2 (.getfield 191) 3 5 := qr_180 0 191 191 (by decide +kernel)
theorem dm_raw_5 : db tm_raw 5 (.if_icmp .ge) 17 8 := qr_162 0 12 12 (by decide +kernel) rfl
theorem dm_raw_8 : dl tm_raw 8 .aload_n .aload 0 9 := qr_42 (by decide +kernel)
theorem dm_raw_9 : dn tm_raw 9 (.getfield 28) 3 12 := qr_180 0 28 28 (by decide +kernel)
theorem dm_raw_12 : dl tm_raw 12 .iload_n .iload 1 13 := qr_27 (by decide +kernel)
theorem dm_raw_13 : dn tm_raw 13 (.iaload) 1 14 := qr_46 (by decide +kernel)
theorem dm_raw_14 : db tm_raw 14 .goto 18 17 := qr_167 0 4 4 (by decide +kernel) rfl
theorem dm_raw_17 : dn tm_raw 17 (.iconst (-1)) 1 18 := qr_2 (by decide +kernel)
theorem dm_raw_18 : dn tm_raw 18 (.ireturn) 1 19 := qr_172 (by decide +kernel)
theorem dm_isLetter_0 : dl tm_isLetter 0 .aload_n .aload 0 1 := qr_42 (by decide +kernel)
theorem dm_isLetter_1 : dl tm_isLetter 1 .iload_n .iload 1 2 := qr_27 (by decide +kernel)
theorem dm_isLetter_2 : dn tm_isLetter 2 (.bipush 97) 2 4 := qr_16 97 97 (by decide +kernel)
theorem dm_isLetter_4 : dn tm_isLetter 4 (.bipush 122) 2 6 := qr_16 122 122 (by decide +kernel)
theorem dm_isLetter_6 : dn tm_isLetter 6 (.invokevirtual 177) 3 9 := qr_182 0 177 177 (by decide +kernel)
theorem dm_isLetter_9 : db tm_isLetter 9 (.ifCond .ne) 24 12 := qr_154 0 15 15 (by decide +kernel) rfl
theorem dm_isLetter_12 : dl tm_isLetter 12 .aload_n .aload 0 13 := qr_42 (by decide +kernel)
theorem dm_isLetter_13 : dl tm_isLetter 13 .iload_n .iload 1 14 := qr_27 (by decide +kernel)
theorem dm_isLetter_14 : dn tm_isLetter 14 (.bipush 65) 2 16 := qr_16 65 65 (by decide +kernel)
theorem dm_isLetter_16 : dn tm_isLetter 16 (.bipush 90) 2 18 := qr_16 90 90 (by decide +kernel)
theorem dm_isLetter_18 : dn tm_isLetter 18 (.invokevirtual 177) 3 21 := qr_182 0 177 177 (by decide +kernel)
theorem dm_isLetter_21 : db tm_isLetter 21 (.ifCond .eq) 28 24 := qr_153 0 7 7 (by decide +kernel) rfl
theorem dm_isLetter_24 : dn tm_isLetter 24 (.iconst 1) 1 25 := qr_4 (by decide +kernel)
theorem dm_isLetter_25 : db tm_isLetter 25 .goto 29 28 := qr_167 0 4 4 (by decide +kernel) rfl
theorem dm_isLetter_28 : dn tm_isLetter 28 (.iconst 0) 1 29 := qr_3 (by decide +kernel)
theorem dm_isLetter_29 : dn tm_isLetter 29 (.ireturn) 1 30 := qr_172 (by decide +kernel)
theorem dm_isDigit_0 : dl tm_isDigit 0 .aload_n .aload 0 1 := qr_42 (by decide +kernel)
theorem dm_isDigit_1 : dl tm_isDigit 1 .iload_n .iload 1 2 := qr_27 (by decide +kernel)
theorem dm_isDigit_2 : dn tm_isDigit 2 (.bipush 48) 2 4 := qr_16 48 48 (by decide +kernel)
theorem dm_isDigit_4 : dn tm_isDigit 4 (.bipush 57) 2 6 := qr_16 57 57 (by decide +kernel)
theorem dm_isDigit_6 : dn tm_isDigit 6 (.invokevirtual 177) 3 9 := qr_182 0 177 177 (by decide +kernel)
theorem dm_isDigit_9 : dn tm_isDigit 9 (.ireturn) 1 10 := qr_172 (by decide +kernel)
theorem dm_isMarkSign_0 : dl tm_isMarkSign 0 .iload_n .iload 1 1 := qr_27 (by decide +kernel)
theorem dm_isMarkSign_1 : dn tm_isMarkSign 1 (.bipush 59) 2 3 := qr_16 59 59 (by decide +kernel)
theorem dm_isMarkSign_3 : db tm_isMarkSign 3 (.if_icmp .eq) 60 6 := qr_159 0 57 57 (by decide +kernel) rfl
theorem dm_isMarkSign_6 : dl tm_isMarkSign 6 .iload_n .iload 1 7 := qr_27 (by decide +kernel)
theorem dm_isMarkSign_7 : dn tm_isMarkSign 7 (.bipush 43) 2 9 := qr_16 43 43 (by decide +kernel)
theorem dm_isMarkSign_9 : db tm_isMarkSign 9 (.if_icmp .eq) 60 12 := qr_159 0 51 51 (by decide +kernel) rfl
theorem dm_isMarkSign_12 : dl tm_isMarkSign 12 .iload_n .iload 1 13 := qr_27 (by decide +kernel)
theorem dm_isMarkSign_13 : dn tm_isMarkSign 13 (.bipush 45) 2 15 := qr_16 45 45 (by decide +kernel)
theorem dm_isMarkSign_15 : db tm_isMarkSign 15 (.if_icmp .eq) 60 18 := qr_159 0 45 45 (by decide +kernel) rfl
theorem dm_isMarkSign_18 : dl tm_isMarkSign 18 .iload_n .iload 1 19 := qr_27 (by decide +kernel)
theorem dm_isMarkSign_19 : dn tm_isMarkSign 19 (.bipush 42) 2 21 := qr_16 42 42 (by decide +kernel)
theorem dm_isMarkSign_21 : db tm_isMarkSign 21 (.if_icmp .eq) 60 24 := qr_159 0 39 39 (by decide +kernel) rfl
theorem dm_isMarkSign_24 : dl tm_isMarkSign 24 .iload_n .iload 1 25 := qr_27 (by decide +kernel)
theorem dm_isMarkSign_25 : dn tm_isMarkSign 25 (.bipush 47) 2 27 := qr_16 47 47 (by decide +kernel)
theorem dm_isMarkSign_27 : db tm_isMarkSign 27 (.if_icmp .eq) 60 30 := qr_159 0 33 33 (by decide +kernel) rfl
theorem dm_isMarkSign_30 : dl tm_isMarkSign 30 .iload_n .iload 1 31 := qr_27 (by decide +kernel)
theorem dm_isMarkSign_31 : dn tm_isMarkSign 31 (.bipush 40) 2 33 := qr_16 40 40 (by decide +kernel)
theorem dm_isMarkSign_33 : db tm_isMarkSign 33 (.if_icmp .eq) 60 36 := qr_159 0 27 27 (by decide +kernel) rfl
theorem dm_isMarkSign_36 : dl tm_isMarkSign 36 .iload_n .iload 1 37 := qr_27 (by decide +kernel)
theorem dm_isMarkSign_37 : dn tm_isMarkSign 37 (.bipush 41) 2 39 := qr_16 41 41 (by decide +kernel)
theorem dm_isMarkSign_39 : db tm_isMarkSign 39 (.if_icmp .eq) 60 42 := qr_159 0 21 21 (by decide +kernel) rfl
theorem dm_isMarkSign_42 : dl tm_isMarkSign 42 .iload_n .iload 1 43 := qr_27 (by decide +kernel)
theorem dm_isMarkSign_43 : dn tm_isMarkSign 43 (.bipush 60) 2 45 := qr_16 60 60 (by decide +kernel)
theorem dm_isMarkSign_45 : db tm_isMarkSign 45 (.if_icmp .eq) 60 48 := qr_159 0 15 15 (by decide +kernel) rfl
theorem dm_isMarkSign_48 : dl tm_isMarkSign 48 .iload_n .iload 1 49 := qr_27 (by decide +kernel)
theorem dm_isMarkSign_49 : dn tm_isMarkSign 49 (.bipush 61) 2 51 := qr_16 61 61 (by decide +kernel)
theorem dm_isMarkSign_51 : db tm_isMarkSign 51 (.if_icmp .eq) 60 54 := qr_159 0 9 9 (by decide +kernel) rfl
theorem dm_isMarkSign_54 : dl tm_isMarkSign 54 .iload_n .iload 1 55 := qr_27 (by decide +kernel)
theorem dm_isMarkSign_55 : dn tm_isMarkSign 55 (.bipush 62) 2 57 := qr_16 62 62 (by decide +kernel)
theorem dm_isMarkSign_57 : db tm_isMarkSign 57 (.if_icmp .ne) 64 60 := qr_160 0 7 7 (by decide +kernel) rfl
theorem dm_isMarkSign_60 : dn tm_isMarkSign 60 (.iconst 1) 1 61 := qr_4 (by decide +kernel)
theorem dm_isMarkSign_61 : db tm_isMarkSign 61 .goto 65 64 := qr_167 0 4 4 (by decide +kernel) rfl
theorem dm_isMarkSign_64 : dn tm_isMarkSign 64 (.iconst 0) 1 65 := qr_3 (by decide +kernel)
theorem dm_isMarkSign_65 : dn tm_isMarkSign 65 (.ireturn) 1 66 := qr_172 (by decide +kernel)
theorem dm_wordAt_0 : dn tm_wordAt 0 (.iconst (-1)) 1 1 := qr_2 (by decide +kernel)
theorem dm_wordAt_1 : dl tm_wordAt 1 .istore_n .istore 3 2 := qr_62 (by decide +kernel)
theorem dm_wordAt_2 : dn tm_wordAt 2 (.iconst 0) 1 3 := qr_3 (by decide +kernel)
theorem dm_wordAt_3 : dl tm_wordAt 3 .istore_n .istore 4 5 := qs_54 4 (by decide +kernel)
theorem dm_wordAt_5 : dl tm_wordAt 5 .iload_n .iload 4 7 := qs_21 4 (by decide +kernel)
theorem dm_wordAt_7 : dn tm_wordAt 7 (.sipush 140) 3 10 := qr_17 0 140 140 (by decide +kernel)
theorem dm_wordAt_10 : db tm_wordAt 10 (.if_icmp .ge) 118 13 := qr_162 0 108 108 (by decide +kernel) rfl
theorem dm_wordAt_13 : dn tm_wordAt 13 (.iconst 0) 1 14 := qr_3 (by decide +kernel)
theorem dm_wordAt_14 : dl tm_wordAt 14 .istore_n .istore 5 16 := qs_54 5 (by decide +kernel)
theorem dm_wordAt_16 : dl tm_wordAt 16 .iload_n .iload 3 17 := qr_29 (by decide +kernel)
theorem dm_wordAt_17 : dn tm_wordAt 17 (.iconst 1) 1 18 := qr_4 (by decide +kernel)
theorem dm_wordAt_18 : dn tm_wordAt 18 (.iadd) 1 19 := qr_96 (by decide +kernel)
theorem dm_wordAt_19 : dl tm_wordAt 19 .istore_n .istore 3 20 := qr_62 (by decide +kernel)
theorem dm_wordAt_20 : dl tm_wordAt 20 .iload_n .iload 1 21 := qr_27 (by decide +kernel)
theorem dm_wordAt_21 : dl tm_wordAt 21 .iload_n .iload 5 23 := qs_21 5 (by decide +kernel)
theorem dm_wordAt_23 : dn tm_wordAt 23 (.iadd) 1 24 := qr_96 (by decide +kernel)
theorem dm_wordAt_24 : dl tm_wordAt 24 .iload_n .iload 2 25 := qr_28 (by decide +kernel)
theorem dm_wordAt_25 : db tm_wordAt 25 (.if_icmp .ge) 61 28 := qr_162 0 36 36 (by decide +kernel) rfl
theorem dm_wordAt_28 : dl tm_wordAt 28 .aload_n .aload 0 29 := qr_42 (by decide +kernel)
theorem dm_wordAt_29 : dn tm_wordAt 29 (.getfield 31) 3 32 := qr_180 0 31 31 (by decide +kernel)
theorem dm_wordAt_32 : dl tm_wordAt 32 .iload_n .iload 4 34 := qs_21 4 (by decide +kernel)
theorem dm_wordAt_34 : dn tm_wordAt 34 (.iconst 1) 1 35 := qr_4 (by decide +kernel)
theorem dm_wordAt_35 : dn tm_wordAt 35 (.iadd) 1 36 := qr_96 (by decide +kernel)
theorem dm_wordAt_36 : dl tm_wordAt 36 .iload_n .iload 5 38 := qs_21 5 (by decide +kernel)
theorem dm_wordAt_38 : dn tm_wordAt 38 (.iadd) 1 39 := qr_96 (by decide +kernel)
theorem dm_wordAt_39 : dn tm_wordAt 39 (.iaload) 1 40 := qr_46 (by decide +kernel)
theorem dm_wordAt_40 : dl tm_wordAt 40 .aload_n .aload 0 41 := qr_42 (by decide +kernel)
theorem dm_wordAt_41 : dn tm_wordAt 41 (.getfield 28) 3 44 := qr_180 0 28 28 (by decide +kernel)
theorem dm_wordAt_44 : dl tm_wordAt 44 .iload_n .iload 1 45 := qr_27 (by decide +kernel)
theorem dm_wordAt_45 : dl tm_wordAt 45 .iload_n .iload 5 47 := qs_21 5 (by decide +kernel)
theorem dm_wordAt_47 : dn tm_wordAt 47 (.iadd) 1 48 := qr_96 (by decide +kernel)
theorem dm_wordAt_48 : dn tm_wordAt 48 (.iaload) 1 49 := qr_46 (by decide +kernel)
theorem dm_wordAt_49 : db tm_wordAt 49 (.if_icmp .ne) 61 52 := qr_160 0 12 12 (by decide +kernel) rfl
theorem dm_wordAt_52 : dl tm_wordAt 52 .iload_n .iload 5 54 := qs_21 5 (by decide +kernel)
theorem dm_wordAt_54 : dn tm_wordAt 54 (.iconst 1) 1 55 := qr_4 (by decide +kernel)
theorem dm_wordAt_55 : dn tm_wordAt 55 (.iadd) 1 56 := qr_96 (by decide +kernel)
theorem dm_wordAt_56 : dl tm_wordAt 56 .istore_n .istore 5 58 := qs_54 5 (by decide +kernel)
theorem dm_wordAt_58 : db tm_wordAt 58 .goto 20 61 := qr_167 255 218 (-38) (by decide +kernel) rfl
theorem dm_wordAt_61 : dl tm_wordAt 61 .iload_n .iload 1 62 := qr_27 (by decide +kernel)
theorem dm_wordAt_62 : dl tm_wordAt 62 .iload_n .iload 5 64 := qs_21 5 (by decide +kernel)
theorem dm_wordAt_64 : dn tm_wordAt 64 (.iadd) 1 65 := qr_96 (by decide +kernel)
theorem dm_wordAt_65 : dl tm_wordAt 65 .iload_n .iload 2 66 := qr_28 (by decide +kernel)
theorem dm_wordAt_66 : db tm_wordAt 66 (.if_icmp .ne) 88 69 := qr_160 0 22 22 (by decide +kernel) rfl
theorem dm_wordAt_69 : dl tm_wordAt 69 .aload_n .aload 0 70 := qr_42 (by decide +kernel)
theorem dm_wordAt_70 : dn tm_wordAt 70 (.getfield 31) 3 73 := qr_180 0 31 31 (by decide +kernel)
theorem dm_wordAt_73 : dl tm_wordAt 73 .iload_n .iload 4 75 := qs_21 4 (by decide +kernel)
theorem dm_wordAt_75 : dn tm_wordAt 75 (.iconst 1) 1 76 := qr_4 (by decide +kernel)
theorem dm_wordAt_76 : dn tm_wordAt 76 (.iadd) 1 77 := qr_96 (by decide +kernel)
theorem dm_wordAt_77 : dl tm_wordAt 77 .iload_n .iload 5 79 := qs_21 5 (by decide +kernel)
theorem dm_wordAt_79 : dn tm_wordAt 79 (.iadd) 1 80 := qr_96 (by decide +kernel)
theorem dm_wordAt_80 : dn tm_wordAt 80 (.iaload) 1 81 := qr_46 (by decide +kernel)
theorem dm_wordAt_81 : dn tm_wordAt 81 (.bipush 32) 2 83 := qr_16 32 32 (by decide +kernel)
theorem dm_wordAt_83 : db tm_wordAt 83 (.if_icmp .ne) 88 86 := qr_160 0 5 5 (by decide +kernel) rfl
theorem dm_wordAt_86 : dl tm_wordAt 86 .iload_n .iload 3 87 := qr_29 (by decide +kernel)
theorem dm_wordAt_87 : dn tm_wordAt 87 (.ireturn) 1 88 := qr_172 (by decide +kernel)
theorem dm_wordAt_88 : dl tm_wordAt 88 .iload_n .iload 4 90 := qs_21 4 (by decide +kernel)
theorem dm_wordAt_90 : dn tm_wordAt 90 (.iconst 1) 1 91 := qr_4 (by decide +kernel)
theorem dm_wordAt_91 : dn tm_wordAt 91 (.iadd) 1 92 := qr_96 (by decide +kernel)
theorem dm_wordAt_92 : dl tm_wordAt 92 .istore_n .istore 4 94 := qs_54 4 (by decide +kernel)
theorem dm_wordAt_94 : dl tm_wordAt 94 .aload_n .aload 0 95 := qr_42 (by decide +kernel)
theorem dm_wordAt_95 : dn tm_wordAt 95 (.getfield 31) 3 98 := qr_180 0 31 31 (by decide +kernel)
theorem dm_wordAt_98 : dl tm_wordAt 98 .iload_n .iload 4 100 := qs_21 4 (by decide +kernel)
theorem dm_wordAt_100 : dn tm_wordAt 100 (.iaload) 1 101 := qr_46 (by decide +kernel)
theorem dm_wordAt_101 : dn tm_wordAt 101 (.bipush 32) 2 103 := qr_16 32 32 (by decide +kernel)
theorem dm_wordAt_103 : db tm_wordAt 103 (.if_icmp .eq) 115 106 := qr_159 0 12 12 (by decide +kernel) rfl
theorem dm_wordAt_106 : dl tm_wordAt 106 .iload_n .iload 4 108 := qs_21 4 (by decide +kernel)
theorem dm_wordAt_108 : dn tm_wordAt 108 (.iconst 1) 1 109 := qr_4 (by decide +kernel)
theorem dm_wordAt_109 : dn tm_wordAt 109 (.iadd) 1 110 := qr_96 (by decide +kernel)
theorem dm_wordAt_110 : dl tm_wordAt 110 .istore_n .istore 4 112 := qs_54 4 (by decide +kernel)
theorem dm_wordAt_112 : db tm_wordAt 112 .goto 94 115 := qr_167 255 238 (-18) (by decide +kernel) rfl
theorem dm_wordAt_115 : db tm_wordAt 115 .goto 5 118 := qr_167 255 146 (-110) (by decide +kernel) rfl
theorem dm_wordAt_118 : dn tm_wordAt 118 (.iconst (-1)) 1 119 := qr_2 (by decide +kernel)
theorem dm_wordAt_119 : dn tm_wordAt 119 (.ireturn) 1 120 := qr_172 (by decide +kernel)
theorem dm_reads_0 : dl tm_reads 0 .aload_n .aload 0 1 := qr_42 (by decide +kernel)
theorem dm_reads_1 : dl tm_reads 1 .aload_n .aload 0 2 := qr_42 (by decide +kernel)
theorem dm_reads_2 : dn tm_reads 2 (.getfield 198) 3 5 := qr_180 0 198 198 (by decide +kernel)
theorem dm_reads_5 : dn tm_reads 5 (.invokevirtual 201) 3 8 := qr_182 0 201 201 (by decide +kernel)
theorem dm_reads_8 : dn tm_reads 8 (.bipush 32) 2 10 := qr_16 32 32 (by decide +kernel)
theorem dm_reads_10 : db tm_reads 10 (.if_icmp .eq) 26 13 := qr_159 0 16 16 (by decide +kernel) rfl
theorem dm_reads_13 : dl tm_reads 13 .aload_n .aload 0 14 := qr_42 (by decide +kernel)
theorem dm_reads_14 : dl tm_reads 14 .aload_n .aload 0 15 := qr_42 (by decide +kernel)
theorem dm_reads_15 : dn tm_reads 15 (.getfield 198) 3 18 := qr_180 0 198 198 (by decide +kernel)
theorem dm_reads_18 : dn tm_reads 18 (.invokevirtual 201) 3 21 := qr_182 0 201 201 (by decide +kernel)
theorem dm_reads_21 : dn tm_reads 21 (.bipush 10) 2 23 := qr_16 10 10 (by decide +kernel)
theorem dm_reads_23 : db tm_reads 23 (.if_icmp .ne) 39 26 := qr_160 0 16 16 (by decide +kernel) rfl
theorem dm_reads_26 : dl tm_reads 26 .aload_n .aload 0 27 := qr_42 (by decide +kernel)
theorem dm_reads_27 : dl tm_reads 27 .aload_n .aload 0 28 := qr_42 (by decide +kernel)
theorem dm_reads_28 : dn tm_reads 28 (.getfield 198) 3 31 := qr_180 0 198 198 (by decide +kernel)
theorem dm_reads_31 : dn tm_reads 31 (.iconst 1) 1 32 := qr_4 (by decide +kernel)
theorem dm_reads_32 : dn tm_reads 32 (.iadd) 1 33 := qr_96 (by decide +kernel)
theorem dm_reads_33 : dn tm_reads 33 (.putfield 198) 3 36 := qr_181 0 198 198 (by decide +kernel)
theorem dm_reads_36 : db tm_reads 36 .goto 0 39 := qr_167 255 220 (-36) (by decide +kernel) rfl
theorem dm_reads_39 : dl tm_reads 39 .aload_n .aload 0 40 := qr_42 (by decide +kernel)
theorem dm_reads_40 : dl tm_reads 40 .aload_n .aload 0 41 := qr_42 (by decide +kernel)
theorem dm_reads_41 : dn tm_reads 41 (.getfield 198) 3 44 := qr_180 0 198 198 (by decide +kernel)
theorem dm_reads_44 : dn tm_reads 44 (.putfield 204) 3 47 := qr_181 0 204 204 (by decide +kernel)
theorem dm_reads_47 : dl tm_reads 47 .aload_n .aload 0 48 := qr_42 (by decide +kernel)
theorem dm_reads_48 : dn tm_reads 48 (.iconst 1) 1 49 := qr_4 (by decide +kernel)
theorem dm_reads_49 : dn tm_reads 49 (.putfield 207) 3 52 := qr_181 0 207 207 (by decide +kernel)
theorem dm_reads_52 : dl tm_reads 52 .aload_n .aload 0 53 := qr_42 (by decide +kernel)
theorem dm_reads_53 : dl tm_reads 53 .aload_n .aload 0 54 := qr_42 (by decide +kernel)
theorem dm_reads_54 : dn tm_reads 54 (.getfield 198) 3 57 := qr_180 0 198 198 (by decide +kernel)
theorem dm_reads_57 : dn tm_reads 57 (.invokevirtual 201) 3 60 := qr_182 0 201 201 (by decide +kernel)
theorem dm_reads_60 : dl tm_reads 60 .istore_n .istore 1 61 := qr_60 (by decide +kernel)
theorem dm_reads_61 : dl tm_reads 61 .iload_n .iload 1 62 := qr_27 (by decide +kernel)
theorem dm_reads_62 : dn tm_reads 62 (.iconst (-1)) 1 63 := qr_2 (by decide +kernel)
theorem dm_reads_63 : db tm_reads 63 (.if_icmp .ne) 72 66 := qr_160 0 9 9 (by decide +kernel) rfl
theorem dm_reads_66 : dl tm_reads 66 .aload_n .aload 0 67 := qr_42 (by decide +kernel)
theorem dm_reads_67 : dn tm_reads 67 (.iconst 0) 1 68 := qr_3 (by decide +kernel)
theorem dm_reads_68 : dn tm_reads 68 (.putfield 207) 3 71 := qr_181 0 207 207 (by decide +kernel)
theorem dm_reads_71 : dn tm_reads 71 (.return_) 1 72 := qr_177 (by decide +kernel)
theorem dm_reads_72 : dl tm_reads 72 .aload_n .aload 0 73 := qr_42 (by decide +kernel)
theorem dm_reads_73 : dl tm_reads 73 .aload_n .aload 0 74 := qr_42 (by decide +kernel)
theorem dm_reads_74 : dn tm_reads 74 (.getfield 198) 3 77 := qr_180 0 198 198 (by decide +kernel)
theorem dm_reads_77 : dn tm_reads 77 (.iconst 1) 1 78 := qr_4 (by decide +kernel)
theorem dm_reads_78 : dn tm_reads 78 (.iadd) 1 79 := qr_96 (by decide +kernel)
theorem dm_reads_79 : dn tm_reads 79 (.putfield 198) 3 82 := qr_181 0 198 198 (by decide +kernel)
theorem dm_reads_82 : dl tm_reads 82 .aload_n .aload 0 83 := qr_42 (by decide +kernel)
theorem dm_reads_83 : dl tm_reads 83 .iload_n .iload 1 84 := qr_27 (by decide +kernel)
theorem dm_reads_84 : dn tm_reads 84 (.putfield 210) 3 87 := qr_181 0 210 210 (by decide +kernel)
theorem dm_reads_87 : dl tm_reads 87 .aload_n .aload 0 88 := qr_42 (by decide +kernel)
theorem dm_reads_88 : dl tm_reads 88 .iload_n .iload 1 89 := qr_27 (by decide +kernel)
theorem dm_reads_89 : dn tm_reads 89 (.invokevirtual 213) 3 92 := qr_182 0 213 213 (by decide +kernel)
theorem dm_reads_92 : db tm_reads 92 (.ifCond .eq) 155 95 := qr_153 0 63 63 (by decide +kernel) rfl
theorem dm_reads_95 : dl tm_reads 95 .aload_n .aload 0 96 := qr_42 (by decide +kernel)
theorem dm_reads_96 : dl tm_reads 96 .aload_n .aload 0 97 := qr_42 (by decide +kernel)
theorem dm_reads_97 : dl tm_reads 97 .aload_n .aload 0 98 := qr_42 (by decide +kernel)
theorem dm_reads_98 : dn tm_reads 98 (.getfield 198) 3 101 := qr_180 0 198 198 (by decide +kernel)
theorem dm_reads_101 : dn tm_reads 101 (.invokevirtual 201) 3 104 := qr_182 0 201 201 (by decide +kernel)
theorem dm_reads_104 : dn tm_reads 104 (.invokevirtual 213) 3 107 := qr_182 0 213 213 (by decide +kernel)
theorem dm_reads_107 : db tm_reads 107 (.ifCond .eq) 123 110 := qr_153 0 16 16 (by decide +kernel) rfl
theorem dm_reads_110 : dl tm_reads 110 .aload_n .aload 0 111 := qr_42 (by decide +kernel)
theorem dm_reads_111 : dl tm_reads 111 .aload_n .aload 0 112 := qr_42 (by decide +kernel)
theorem dm_reads_112 : dn tm_reads 112 (.getfield 198) 3 115 := qr_180 0 198 198 (by decide +kernel)
theorem dm_reads_115 : dn tm_reads 115 (.iconst 1) 1 116 := qr_4 (by decide +kernel)
theorem dm_reads_116 : dn tm_reads 116 (.iadd) 1 117 := qr_96 (by decide +kernel)
theorem dm_reads_117 : dn tm_reads 117 (.putfield 198) 3 120 := qr_181 0 198 198 (by decide +kernel)
theorem dm_reads_120 : db tm_reads 120 .goto 95 123 := qr_167 255 231 (-25) (by decide +kernel) rfl
theorem dm_reads_123 : dl tm_reads 123 .aload_n .aload 0 124 := qr_42 (by decide +kernel)
theorem dm_reads_124 : dl tm_reads 124 .aload_n .aload 0 125 := qr_42 (by decide +kernel)
theorem dm_reads_125 : dl tm_reads 125 .aload_n .aload 0 126 := qr_42 (by decide +kernel)
theorem dm_reads_126 : dn tm_reads 126 (.getfield 204) 3 129 := qr_180 0 204 204 (by decide +kernel)
theorem dm_reads_129 : dl tm_reads 129 .aload_n .aload 0 130 := qr_42 (by decide +kernel)
theorem dm_reads_130 : dn tm_reads 130 (.getfield 198) 3 133 := qr_180 0 198 198 (by decide +kernel)
theorem dm_reads_133 : dn tm_reads 133 (.invokevirtual 216) 3 136 := qr_182 0 216 216 (by decide +kernel)
theorem dm_reads_136 : dn tm_reads 136 (.putfield 210) 3 139 := qr_181 0 210 210 (by decide +kernel)
theorem dm_reads_139 : dl tm_reads 139 .aload_n .aload 0 140 := qr_42 (by decide +kernel)
theorem dm_reads_140 : dn tm_reads 140 (.getfield 210) 3 143 := qr_180 0 210 210 (by decide +kernel)
theorem dm_reads_143 : dn tm_reads 143 (.iconst (-1)) 1 144 := qr_2 (by decide +kernel)
theorem dm_reads_144 : db tm_reads 144 (.if_icmp .eq) 273 147 := qr_159 0 129 129 (by decide +kernel) rfl
theorem dm_reads_147 : dl tm_reads 147 .aload_n .aload 0 148 := qr_42 (by decide +kernel)
theorem dm_reads_148 : dn tm_reads 148 (.iconst 2) 1 149 := qr_5 (by decide +kernel)
theorem dm_reads_149 : dn tm_reads 149 (.putfield 207) 3 152 := qr_181 0 207 207 (by decide +kernel)
theorem dm_reads_152 : db tm_reads 152 .goto 273 155 := qr_167 0 121 121 (by decide +kernel) rfl
theorem dm_reads_155 : dl tm_reads 155 .aload_n .aload 0 156 := qr_42 (by decide +kernel)
theorem dm_reads_156 : dl tm_reads 156 .iload_n .iload 1 157 := qr_27 (by decide +kernel)
theorem dm_reads_157 : dn tm_reads 157 (.invokevirtual 219) 3 160 := qr_182 0 219 219 (by decide +kernel)
theorem dm_reads_160 : db tm_reads 160 (.ifCond .eq) 260 163 := qr_153 0 100 100 (by decide +kernel) rfl
theorem dm_reads_163 : dl tm_reads 163 .aload_n .aload 0 164 := qr_42 (by decide +kernel)
theorem dm_reads_164 : dl tm_reads 164 .iload_n .iload 1 165 := qr_27 (by decide +kernel)
theorem dm_reads_165 : dn tm_reads 165 (.bipush 48) 2 167 := qr_16 48 48 (by decide +kernel)
theorem dm_reads_167 : dn tm_reads 167 (.isub) 1 168 := qr_100 (by decide +kernel)
theorem dm_reads_168 : dn tm_reads 168 (.putfield 210) 3 171 := qr_181 0 210 210 (by decide +kernel)
theorem dm_reads_171 : dl tm_reads 171 .aload_n .aload 0 172 := qr_42 (by decide +kernel)
theorem dm_reads_172 : dl tm_reads 172 .aload_n .aload 0 173 := qr_42 (by decide +kernel)
theorem dm_reads_173 : dl tm_reads 173 .aload_n .aload 0 174 := qr_42 (by decide +kernel)
theorem dm_reads_174 : dn tm_reads 174 (.getfield 198) 3 177 := qr_180 0 198 198 (by decide +kernel)
theorem dm_reads_177 : dn tm_reads 177 (.invokevirtual 201) 3 180 := qr_182 0 201 201 (by decide +kernel)
theorem dm_reads_180 : dn tm_reads 180 (.invokevirtual 219) 3 183 := qr_182 0 219 219 (by decide +kernel)
theorem dm_reads_183 : db tm_reads 183 (.ifCond .eq) 239 186 := qr_153 0 56 56 (by decide +kernel) rfl
theorem dm_reads_186 : dl tm_reads 186 .aload_n .aload 0 187 := qr_42 (by decide +kernel)
theorem dm_reads_187 : dl tm_reads 187 .aload_n .aload 0 188 := qr_42 (by decide +kernel)
theorem dm_reads_188 : dn tm_reads 188 (.getfield 210) 3 191 := qr_180 0 210 210 (by decide +kernel)
theorem dm_reads_191 : dn tm_reads 191 (.sipush 10000) 3 194 := qr_17 39 16 10000 (by decide +kernel)
theorem dm_reads_194 : db tm_reads 194 (.if_icmp .ge) 219 197 := qr_162 0 25 25 (by decide +kernel) rfl
theorem dm_reads_197 : dn tm_reads 197 (.bipush 10) 2 199 := qr_16 10 10 (by decide +kernel)
theorem dm_reads_199 : dl tm_reads 199 .aload_n .aload 0 200 := qr_42 (by decide +kernel)
theorem dm_reads_200 : dn tm_reads 200 (.getfield 210) 3 203 := qr_180 0 210 210 (by decide +kernel)
theorem dm_reads_203 : dn tm_reads 203 (.imul) 1 204 := qr_104 (by decide +kernel)
theorem dm_reads_204 : dl tm_reads 204 .aload_n .aload 0 205 := qr_42 (by decide +kernel)
theorem dm_reads_205 : dl tm_reads 205 .aload_n .aload 0 206 := qr_42 (by decide +kernel)
theorem dm_reads_206 : dn tm_reads 206 (.getfield 198) 3 209 := qr_180 0 198 198 (by decide +kernel)
theorem dm_reads_209 : dn tm_reads 209 (.invokevirtual 201) 3 212 := qr_182 0 201 201 (by decide +kernel)
theorem dm_reads_212 : dn tm_reads 212 (.iadd) 1 213 := qr_96 (by decide +kernel)
theorem dm_reads_213 : dn tm_reads 213 (.bipush 48) 2 215 := qr_16 48 48 (by decide +kernel)
theorem dm_reads_215 : dn tm_reads 215 (.isub) 1 216 := qr_100 (by decide +kernel)
theorem dm_reads_216 : db tm_reads 216 .goto 223 219 := qr_167 0 7 7 (by decide +kernel) rfl
theorem dm_reads_219 : dl tm_reads 219 .aload_n .aload 0 220 := qr_42 (by decide +kernel)
theorem dm_reads_220 : dn tm_reads 220 (.getfield 210) 3 223 := qr_180 0 210 210 (by decide +kernel)
theorem dm_reads_223 : dn tm_reads 223 (.putfield 210) 3 226 := qr_181 0 210 210 (by decide +kernel)
theorem dm_reads_226 : dl tm_reads 226 .aload_n .aload 0 227 := qr_42 (by decide +kernel)
theorem dm_reads_227 : dl tm_reads 227 .aload_n .aload 0 228 := qr_42 (by decide +kernel)
theorem dm_reads_228 : dn tm_reads 228 (.getfield 198) 3 231 := qr_180 0 198 198 (by decide +kernel)
theorem dm_reads_231 : dn tm_reads 231 (.iconst 1) 1 232 := qr_4 (by decide +kernel)
theorem dm_reads_232 : dn tm_reads 232 (.iadd) 1 233 := qr_96 (by decide +kernel)
theorem dm_reads_233 : dn tm_reads 233 (.putfield 198) 3 236 := qr_181 0 198 198 (by decide +kernel)
theorem dm_reads_236 : db tm_reads 236 .goto 171 239 := qr_167 255 191 (-65) (by decide +kernel) rfl
theorem dm_reads_239 : dl tm_reads 239 .aload_n .aload 0 240 := qr_42 (by decide +kernel)
theorem dm_reads_240 : dn tm_reads 240 (.getfield 198) 3 243 := qr_180 0 198 198 (by decide +kernel)
theorem dm_reads_243 : dl tm_reads 243 .aload_n .aload 0 244 := qr_42 (by decide +kernel)
theorem dm_reads_244 : dn tm_reads 244 (.getfield 204) 3 247 := qr_180 0 204 204 (by decide +kernel)
theorem dm_reads_247 : dn tm_reads 247 (.isub) 1 248 := qr_100 (by decide +kernel)
theorem dm_reads_248 : dn tm_reads 248 (.iconst 5) 1 249 := qr_8 (by decide +kernel)
theorem dm_reads_249 : db tm_reads 249 (.if_icmp .ge) 273 252 := qr_162 0 24 24 (by decide +kernel) rfl
theorem dm_reads_252 : dl tm_reads 252 .aload_n .aload 0 253 := qr_42 (by decide +kernel)
theorem dm_reads_253 : dn tm_reads 253 (.iconst 3) 1 254 := qr_6 (by decide +kernel)
theorem dm_reads_254 : dn tm_reads 254 (.putfield 207) 3 257 := qr_181 0 207 207 (by decide +kernel)
theorem dm_reads_257 : db tm_reads 257 .goto 273 260 := qr_167 0 16 16 (by decide +kernel) rfl
theorem dm_reads_260 : dl tm_reads 260 .aload_n .aload 0 261 := qr_42 (by decide +kernel)
theorem dm_reads_261 : dl tm_reads 261 .iload_n .iload 1 262 := qr_27 (by decide +kernel)
theorem dm_reads_262 : dn tm_reads 262 (.invokevirtual 222) 3 265 := qr_182 0 222 222 (by decide +kernel)
theorem dm_reads_265 : db tm_reads 265 (.ifCond .eq) 273 268 := qr_153 0 8 8 (by decide +kernel) rfl
theorem dm_reads_268 : dl tm_reads 268 .aload_n .aload 0 269 := qr_42 (by decide +kernel)
theorem dm_reads_269 : dn tm_reads 269 (.iconst 4) 1 270 := qr_7 (by decide +kernel)
theorem dm_reads_270 : dn tm_reads 270 (.putfield 207) 3 273 := qr_181 0 207 207 (by decide +kernel)
theorem dm_reads_273 : dn tm_reads 273 (.return_) 1 274 := qr_177 (by decide +kernel)
theorem dm_errs_0 : dl tm_errs 0 .aload_n .aload 0 1 := qr_42 (by decide +kernel)
theorem dm_errs_1 : dl tm_errs 1 .iload_n .iload 1 2 := qr_27 (by decide +kernel)
theorem dm_errs_2 : dn tm_errs 2 (.putfield 225) 3 5 := qr_181 0 225 225 (by decide +kernel)
theorem dm_errs_5 : dl tm_errs 5 .aload_n .aload 0 6 := qr_42 (by decide +kernel)
theorem dm_errs_6 : dl tm_errs 6 .aload_n .aload 0 7 := qr_42 (by decide +kernel)
theorem dm_errs_7 : dn tm_errs 7 (.getfield 204) 3 10 := qr_180 0 204 204 (by decide +kernel)
theorem dm_errs_10 : dn tm_errs 10 (.putfield 228) 3 13 := qr_181 0 228 228 (by decide +kernel)
theorem dm_errs_13 : dn tm_errs 13 (.iconst (-1)) 1 14 := qr_2 (by decide +kernel)
theorem dm_errs_14 : dn tm_errs 14 (.ireturn) 1 15 := qr_172 (by decide +kernel)
theorem dm_isWord_0 : dl tm_isWord 0 .aload_n .aload 0 1 := qr_42 (by decide +kernel)
theorem dm_isWord_1 : dn tm_isWord 1 (.getfield 207) 3 4 := qr_180 0 207 207 (by decide +kernel)
theorem dm_isWord_4 : dn tm_isWord 4 (.iconst 2) 1 5 := qr_5 (by decide +kernel)
theorem dm_isWord_5 : db tm_isWord 5 (.if_icmp .ne) 20 8 := qr_160 0 15 15 (by decide +kernel) rfl
theorem dm_isWord_8 : dl tm_isWord 8 .aload_n .aload 0 9 := qr_42 (by decide +kernel)
theorem dm_isWord_9 : dn tm_isWord 9 (.getfield 210) 3 12 := qr_180 0 210 210 (by decide +kernel)
theorem dm_isWord_12 : dl tm_isWord 12 .iload_n .iload 1 13 := qr_27 (by decide +kernel)
theorem dm_isWord_13 : db tm_isWord 13 (.if_icmp .ne) 20 16 := qr_160 0 7 7 (by decide +kernel) rfl
theorem dm_isWord_16 : dn tm_isWord 16 (.iconst 1) 1 17 := qr_4 (by decide +kernel)
theorem dm_isWord_17 : db tm_isWord 17 .goto 21 20 := qr_167 0 4 4 (by decide +kernel) rfl
theorem dm_isWord_20 : dn tm_isWord 20 (.iconst 0) 1 21 := qr_3 (by decide +kernel)
theorem dm_isWord_21 : dn tm_isWord 21 (.ireturn) 1 22 := qr_172 (by decide +kernel)
theorem dm_isSign_0 : dl tm_isSign 0 .aload_n .aload 0 1 := qr_42 (by decide +kernel)
theorem dm_isSign_1 : dn tm_isSign 1 (.getfield 207) 3 4 := qr_180 0 207 207 (by decide +kernel)
theorem dm_isSign_4 : dn tm_isSign 4 (.iconst 4) 1 5 := qr_7 (by decide +kernel)
theorem dm_isSign_5 : db tm_isSign 5 (.if_icmp .ne) 20 8 := qr_160 0 15 15 (by decide +kernel) rfl
theorem dm_isSign_8 : dl tm_isSign 8 .aload_n .aload 0 9 := qr_42 (by decide +kernel)
theorem dm_isSign_9 : dn tm_isSign 9 (.getfield 210) 3 12 := qr_180 0 210 210 (by decide +kernel)
theorem dm_isSign_12 : dl tm_isSign 12 .iload_n .iload 1 13 := qr_27 (by decide +kernel)
theorem dm_isSign_13 : db tm_isSign 13 (.if_icmp .ne) 20 16 := qr_160 0 7 7 (by decide +kernel) rfl
theorem dm_isSign_16 : dn tm_isSign 16 (.iconst 1) 1 17 := qr_4 (by decide +kernel)
theorem dm_isSign_17 : db tm_isSign 17 .goto 21 20 := qr_167 0 4 4 (by decide +kernel) rfl
theorem dm_isSign_20 : dn tm_isSign 20 (.iconst 0) 1 21 := qr_3 (by decide +kernel)
theorem dm_isSign_21 : dn tm_isSign 21 (.ireturn) 1 22 := qr_172 (by decide +kernel)
theorem dm_emits_0 : dl tm_emits 0 .aload_n .aload 0 1 := qr_42 (by decide +kernel)
theorem dm_emits_1 : dn tm_emits 1 (.getfield 49) 3 4 := qr_180 0 49 49 (by decide +kernel)
theorem dm_emits_4 : dn tm_emits 4 (.sipush 800) 3 7 := qr_17 3 32 800 (by decide +kernel)
