def tX_init : MM := (⟨"GingerRents", "<init>", "()V"⟩, prog_1_method_1_code, 6, none)
theorem okiX_init : mI tX_init 0 := ⟨⟨tb_in (ch_1_1 _ (List.mem_of_getElem? (i := 11) rfl)) rfl, tb_in (ch_1_0 _ (List.mem_of_getElem? (i := 1) rfl)) rfl, ⟨cq_16.1, cq_16.2, by decide +kernel⟩, by decide⟩, rfl, tb_in (ch_1_1 _ (List.mem_of_getElem? (i := 10) rfl)) rfl, rfl⟩
def tB_init : MM := (⟨"GingerRents$Borough", "<init>", "()V"⟩, prog_2_method_1_code, 1, none)
theorem okiB_init : mI tB_init 0 := ⟨⟨tb_in (ch_1_2 _ (List.mem_of_getElem? (i := 3) rfl)) rfl, tb_in (ch_1_0 _ (List.mem_of_getElem? (i := 2) rfl)) rfl, ⟨cq_5.1, cq_5.2, by decide +kernel⟩, by decide⟩, rfl, tb_in (ch_1_2 _ (List.mem_of_getElem? (i := 2) rfl)) rfl, rfl⟩
def tK_init : MM := (⟨"GingerRents$Kitchen", "<init>", "()V"⟩, prog_3_method_1_code, 1, none)
theorem okiK_init : mI tK_init 0 := ⟨⟨tb_in (ch_2_5 _ (List.mem_of_getElem? (i := 11) rfl)) rfl, tb_in (ch_1_0 _ (List.mem_of_getElem? (i := 12) rfl)) rfl, ⟨cq_8.1, cq_8.2, by decide +kernel⟩, by decide⟩, rfl, tb_in (ch_2_5 _ (List.mem_of_getElem? (i := 10) rfl)) rfl, rfl⟩
def tW_init : MM := (⟨"GingerRents$Law", "<init>", "(LGingerRents$Rows;LGingerRents$Rows;)V"⟩, prog_4_method_1_code, 3, none)
theorem okiW_init : mI tW_init 2 := ⟨⟨tb_in (ch_1_11 _ (List.mem_of_getElem? (i := 2) rfl)) rfl, tb_in (ch_1_0 _ (List.mem_of_getElem? (i := 6) rfl)) rfl, ⟨cq_9.1, cq_9.2, by decide +kernel⟩, by decide⟩, rfl, tb_in (ch_1_11 _ (List.mem_of_getElem? (i := 1) rfl)) rfl, rfl⟩
def tP_init : MM := (⟨"GingerRents$Past", "<init>", "()V"⟩, prog_5_method_1_code, 2, none)
theorem okiP_init : mI tP_init 0 := ⟨⟨tb_in (ch_1_13 _ (List.mem_of_getElem? (i := 12) rfl)) rfl, tb_in (ch_1_0 _ (List.mem_of_getElem? (i := 8) rfl)) rfl, ⟨cq_10.1, cq_10.2, by decide +kernel⟩, by decide⟩, rfl, tb_in (ch_1_13 _ (List.mem_of_getElem? (i := 11) rfl)) rfl, rfl⟩
def tD_init : MM := (⟨"GingerRents$Reader", "<init>", "(LGingerRents$Tape;)V"⟩, prog_6_method_1_code, 2, none)
theorem okiD_init : mI tD_init 1 := ⟨⟨tb_in (ch_2_2 _ (List.mem_of_getElem? (i := 3) rfl)) rfl, tb_in (ch_1_0 _ (List.mem_of_getElem? (i := 10) rfl)) rfl, ⟨cq_15.1, cq_15.2, by decide +kernel⟩, by decide⟩, rfl, tb_in (ch_2_2 _ (List.mem_of_getElem? (i := 2) rfl)) rfl, rfl⟩
def tR_init : MM := (⟨"GingerRents$Rows", "<init>", "(II)V"⟩, prog_7_method_1_code, 3, none)
theorem okiR_init : mI tR_init 2 := ⟨⟨tb_in (ch_1_5 _ (List.mem_of_getElem? (i := 9) rfl)) rfl, tb_in (ch_1_0 _ (List.mem_of_getElem? (i := 4) rfl)) rfl, ⟨cq_6.1, cq_6.2, by decide +kernel⟩, by decide⟩, rfl, tb_in (ch_1_5 _ (List.mem_of_getElem? (i := 8) rfl)) rfl, rfl⟩
def tS_init : MM := (⟨"GingerRents$Season", "<init>", "(LGingerRents$Borough;LGingerRents$Told;LGingerRents$Law;Z)V"⟩, prog_8_method_1_code, 5, none)
theorem okiS_init : mI tS_init 4 := ⟨⟨tb_in (ch_1_12 _ (List.mem_of_getElem? (i := 8) rfl)) rfl, tb_in (ch_1_0 _ (List.mem_of_getElem? (i := 7) rfl)) rfl, ⟨cq_14.1, cq_14.2, by decide +kernel⟩, by decide⟩, rfl, tb_in (ch_1_12 _ (List.mem_of_getElem? (i := 7) rfl)) rfl, rfl⟩
def tL_init : MM := (⟨"GingerRents$Slab", "<init>", "()V"⟩, prog_9_method_1_code, 1, none)
theorem okiL_init : mI tL_init 0 := ⟨⟨tb_in (ch_2_6 _ (List.mem_of_getElem? (i := 11) rfl)) rfl, tb_in (ch_1_0 _ (List.mem_of_getElem? (i := 13) rfl)) rfl, ⟨cq_7.1, cq_7.2, by decide +kernel⟩, by decide⟩, rfl, tb_in (ch_2_6 _ (List.mem_of_getElem? (i := 10) rfl)) rfl, rfl⟩
def tT_init : MM := (⟨"GingerRents$Street", "<init>", "()V"⟩, prog_10_method_1_code, 1, none)
theorem okiT_init : mI tT_init 0 := ⟨⟨tb_in (ch_2_4 _ (List.mem_of_getElem? (i := 14) rfl)) rfl, tb_in (ch_1_0 _ (List.mem_of_getElem? (i := 11) rfl)) rfl, ⟨cq_12.1, cq_12.2, by decide +kernel⟩, by decide⟩, rfl, tb_in (ch_2_4 _ (List.mem_of_getElem? (i := 13) rfl)) rfl, rfl⟩
def tA_init : MM := (⟨"GingerRents$Tape", "<init>", "()V"⟩, prog_11_method_1_code, 1, none)
theorem okiA_init : mI tA_init 0 := ⟨⟨tb_in (ch_2_0 _ (List.mem_of_getElem? (i := 3) rfl)) rfl, tb_in (ch_1_0 _ (List.mem_of_getElem? (i := 9) rfl)) rfl, ⟨cq_13.1, cq_13.2, by decide +kernel⟩, by decide⟩, rfl, tb_in (ch_2_0 _ (List.mem_of_getElem? (i := 2) rfl)) rfl, rfl⟩
def tO_init : MM := (⟨"GingerRents$Told", "<init>", "()V"⟩, prog_12_method_1_code, 1, none)
theorem okiO_init : mI tO_init 0 := ⟨⟨tb_in (ch_1_5 _ (List.mem_of_getElem? (i := 3) rfl)) rfl, tb_in (ch_1_0 _ (List.mem_of_getElem? (i := 3) rfl)) rfl, ⟨cq_11.1, cq_11.2, by decide +kernel⟩, by decide⟩, rfl, tb_in (ch_1_5 _ (List.mem_of_getElem? (i := 2) rfl)) rfl, rfl⟩
def tm_init : MM := (⟨"GingerRentsModel", "<init>", "()V"⟩, prog_14_method_1_code, 1, none)
theorem okim_init : mI tm_init 0 := ⟨⟨tb_in (ch_5_14 _ (List.mem_of_getElem? (i := 11) rfl)) rfl, tb_in (ch_1_0 _ (List.mem_of_getElem? (i := 14) rfl)) rfl, ⟨cq_17.1, cq_17.2, by decide +kernel⟩, by decide⟩, rfl, tb_in (ch_5_14 _ (List.mem_of_getElem? (i := 10) rfl)) rfl, rfl⟩
theorem mlX_1 : Cond.methodLink "GingerRents" 1 ⟨"java/lang/Object", "<init>", "()V"⟩ ∈ tb := tb_in (ch_1_1 _ (List.mem_of_getElem? (i := 12) rfl)) rfl
theorem clX_7 : Cond.classLink "GingerRents" 7 "GingerRents$Borough" ∈ tb := tb_in (ch_1_1 _ (List.mem_of_getElem? (i := 15) rfl)) rfl
theorem mlX_9 : ("GingerRents", 9, (⟨"GingerRents$Borough", "<init>", "()V"⟩ : MethodName)) ∈ nsL2 := by decide
theorem clX_10 : Cond.classLink "GingerRents" 10 "GingerRents$Told" ∈ tb := tb_in (ch_1_4 _ (List.mem_of_getElem? (i := 15) rfl)) rfl
theorem mlX_12 : ("GingerRents", 12, (⟨"GingerRents$Told", "<init>", "()V"⟩ : MethodName)) ∈ nsL2 := by decide
theorem clX_13 : Cond.classLink "GingerRents" 13 "GingerRents$Law" ∈ tb := tb_in (ch_1_10 _ (List.mem_of_getElem? (i := 14) rfl)) rfl
theorem mlX_22 : Cond.methodLink "GingerRents" 22 ⟨"GingerRents$Law", "<init>", "(LGingerRents$Rows;LGingerRents$Rows;)V"⟩ ∈ tb := tb_in (ch_1_11 _ (List.mem_of_getElem? (i := 0) rfl)) rfl
theorem clX_44 : Cond.classLink "GingerRents" 44 "GingerRents$Season" ∈ tb := tb_in (ch_1_12 _ (List.mem_of_getElem? (i := 4) rfl)) rfl
theorem mlX_46 : Cond.methodLink "GingerRents" 46 ⟨"GingerRents$Season", "<init>", "(LGingerRents$Borough;LGingerRents$Told;LGingerRents$Law;Z)V"⟩ ∈ tb := tb_in (ch_1_12 _ (List.mem_of_getElem? (i := 6) rfl)) rfl
theorem clX_56 : Cond.classLink "GingerRents" 56 "GingerRents$Past" ∈ tb := tb_in (ch_1_13 _ (List.mem_of_getElem? (i := 8) rfl)) rfl
theorem mlX_58 : Cond.methodLink "GingerRents" 58 ⟨"GingerRents$Past", "<init>", "()V"⟩ ∈ tb := tb_in (ch_1_13 _ (List.mem_of_getElem? (i := 10) rfl)) rfl
theorem clX_63 : Cond.classLink "GingerRents" 63 "GingerRents$Tape" ∈ tb := tb_in (ch_1_14 _ (List.mem_of_getElem? (i := 15) rfl)) rfl
theorem mlX_65 : ("GingerRents", 65, (⟨"GingerRents$Tape", "<init>", "()V"⟩ : MethodName)) ∈ nsL2 := by decide
theorem clX_70 : Cond.classLink "GingerRents" 70 "GingerRents$Reader" ∈ tb := tb_in (ch_2_1 _ (List.mem_of_getElem? (i := 15) rfl)) rfl
theorem mlX_72 : Cond.methodLink "GingerRents" 72 ⟨"GingerRents$Reader", "<init>", "(LGingerRents$Tape;)V"⟩ ∈ tb := tb_in (ch_2_2 _ (List.mem_of_getElem? (i := 1) rfl)) rfl
theorem clX_79 : Cond.classLink "GingerRents" 79 "GingerRents$Street" ∈ tb := tb_in (ch_2_4 _ (List.mem_of_getElem? (i := 10) rfl)) rfl
theorem mlX_81 : ("GingerRents", 81, (⟨"GingerRents$Street", "<init>", "()V"⟩ : MethodName)) ∈ nsL2 := by decide
theorem clX_86 : Cond.classLink "GingerRents" 86 "GingerRents$Kitchen" ∈ tb := tb_in (ch_2_5 _ (List.mem_of_getElem? (i := 7) rfl)) rfl
theorem mlX_88 : ("GingerRents", 88, (⟨"GingerRents$Kitchen", "<init>", "()V"⟩ : MethodName)) ∈ nsL2 := by decide
theorem clX_93 : Cond.classLink "GingerRents" 93 "GingerRents$Slab" ∈ tb := tb_in (ch_2_6 _ (List.mem_of_getElem? (i := 7) rfl)) rfl
theorem mlX_95 : ("GingerRents", 95, (⟨"GingerRents$Slab", "<init>", "()V"⟩ : MethodName)) ∈ nsL2 := by decide
theorem mlB_3 : Cond.methodLink "GingerRents$Borough" 3 ⟨"java/lang/Object", "<init>", "()V"⟩ ∈ tb := tb_in (ch_1_2 _ (List.mem_of_getElem? (i := 4) rfl)) rfl
theorem mlK_3 : Cond.methodLink "GingerRents$Kitchen" 3 ⟨"java/lang/Object", "<init>", "()V"⟩ ∈ tb := tb_in (ch_2_5 _ (List.mem_of_getElem? (i := 12) rfl)) rfl
theorem mlW_3 : Cond.methodLink "GingerRents$Law" 3 ⟨"java/lang/Object", "<init>", "()V"⟩ ∈ tb := tb_in (ch_1_11 _ (List.mem_of_getElem? (i := 3) rfl)) rfl
theorem mlP_1 : Cond.methodLink "GingerRents$Past" 1 ⟨"java/lang/Object", "<init>", "()V"⟩ ∈ tb := tb_in (ch_1_13 _ (List.mem_of_getElem? (i := 13) rfl)) rfl
theorem clP_9 : Cond.classLink "GingerRents$Past" 9 "GingerRents$Borough" ∈ tb := tb_in (ch_1_13 _ (List.mem_of_getElem? (i := 14) rfl)) rfl
theorem mlP_19 : ("GingerRents$Past", 19, (⟨"GingerRents$Borough", "<init>", "()V"⟩ : MethodName)) ∈ nsL2 := by decide
theorem mlD_3 : Cond.methodLink "GingerRents$Reader" 3 ⟨"java/lang/Object", "<init>", "()V"⟩ ∈ tb := tb_in (ch_2_2 _ (List.mem_of_getElem? (i := 4) rfl)) rfl
theorem clD_9 : Cond.classLink "GingerRents$Reader" 9 "GingerRents$Rows" ∈ tb := tb_in (ch_2_2 _ (List.mem_of_getElem? (i := 5) rfl)) rfl
theorem mlD_11 : Cond.methodLink "GingerRents$Reader" 11 ⟨"GingerRents$Rows", "<init>", "(II)V"⟩ ∈ tb := tb_in (ch_2_2 _ (List.mem_of_getElem? (i := 6) rfl)) rfl
theorem mlR_3 : Cond.methodLink "GingerRents$Rows" 3 ⟨"java/lang/Object", "<init>", "()V"⟩ ∈ tb := tb_in (ch_1_5 _ (List.mem_of_getElem? (i := 10) rfl)) rfl
theorem mlR_9 : Cond.methodLink "GingerRents$Rows" 9 ⟨"java/lang/Math", "max", "(II)I"⟩ ∈ tb := tb_in (ch_1_5 _ (List.mem_of_getElem? (i := 11) rfl)) rfl
theorem mlS_3 : Cond.methodLink "GingerRents$Season" 3 ⟨"java/lang/Object", "<init>", "()V"⟩ ∈ tb := tb_in (ch_1_12 _ (List.mem_of_getElem? (i := 9) rfl)) rfl
theorem mlL_5 : Cond.methodLink "GingerRents$Slab" 5 ⟨"java/lang/Object", "<init>", "()V"⟩ ∈ tb := tb_in (ch_2_6 _ (List.mem_of_getElem? (i := 12) rfl)) rfl
theorem mlT_3 : Cond.methodLink "GingerRents$Street" 3 ⟨"java/lang/Object", "<init>", "()V"⟩ ∈ tb := tb_in (ch_2_4 _ (List.mem_of_getElem? (i := 15) rfl)) rfl
theorem mlA_3 : Cond.methodLink "GingerRents$Tape" 3 ⟨"java/lang/Object", "<init>", "()V"⟩ ∈ tb := tb_in (ch_2_0 _ (List.mem_of_getElem? (i := 4) rfl)) rfl
theorem mlO_3 : Cond.methodLink "GingerRents$Told" 3 ⟨"java/lang/Object", "<init>", "()V"⟩ ∈ tb := tb_in (ch_1_5 _ (List.mem_of_getElem? (i := 4) rfl)) rfl
theorem clO_9 : Cond.classLink "GingerRents$Told" 9 "GingerRents$Rows" ∈ tb := tb_in (ch_1_5 _ (List.mem_of_getElem? (i := 5) rfl)) rfl
theorem mlO_11 : Cond.methodLink "GingerRents$Told" 11 ⟨"GingerRents$Rows", "<init>", "(II)V"⟩ ∈ tb := tb_in (ch_1_5 _ (List.mem_of_getElem? (i := 7) rfl)) rfl
theorem mlm_1 : Cond.methodLink "GingerRentsModel" 1 ⟨"java/lang/Object", "<init>", "()V"⟩ ∈ tb := tb_in (ch_5_14 _ (List.mem_of_getElem? (i := 12) rfl)) rfl
def df_0 : List Value := [.null, .null, .null, .null, .null, .null, .null, .null, .null, .null, .null, .null, .null, .int 0]
theorem df_ok_0 : ∀ j, j < 14 → defaultValue (ty_0 j) = vp_V df_0 j := by decide +kernel
theorem in_0 : Cond.instantiable "GingerRents" 14 ∈ tb := tb_in (ch_1_1 _ (List.mem_of_getElem? (i := 8) rfl)) rfl
theorem iz_0 : Cond.initialized "GingerRents" ∈ tb := tb_in (ch_1_0 _ (List.mem_of_getElem? (i := 1) rfl)) rfl
def df_1 : List Value := [.null, .int 0, .int 0, .int 0, .int 0, .int 0, .int 0, .int 0]
theorem df_ok_1 : ∀ j, j < 8 → defaultValue (ty_1 j) = vp_V df_1 j := by decide +kernel
theorem in_1 : Cond.instantiable "GingerRents$Borough" 8 ∈ tb := tb_in (ch_1_2 _ (List.mem_of_getElem? (i := 0) rfl)) rfl
theorem iz_1 : Cond.initialized "GingerRents$Borough" ∈ tb := tb_in (ch_1_0 _ (List.mem_of_getElem? (i := 2) rfl)) rfl
def df_2 : List Value := [.null, .null, .null]
theorem df_ok_2 : ∀ j, j < 3 → defaultValue (ty_2 j) = vp_V df_2 j := by decide +kernel
theorem in_2 : Cond.instantiable "GingerRents$Kitchen" 3 ∈ tb := tb_in (ch_2_5 _ (List.mem_of_getElem? (i := 8) rfl)) rfl
theorem iz_2 : Cond.initialized "GingerRents$Kitchen" ∈ tb := tb_in (ch_1_0 _ (List.mem_of_getElem? (i := 12) rfl)) rfl
def df_3 : List Value := [.null, .null, .null, .null, .int 0]
theorem df_ok_3 : ∀ j, j < 5 → defaultValue (ty_3 j) = vp_V df_3 j := by decide +kernel
theorem in_3 : Cond.instantiable "GingerRents$Law" 5 ∈ tb := tb_in (ch_1_10 _ (List.mem_of_getElem? (i := 15) rfl)) rfl
theorem iz_3 : Cond.initialized "GingerRents$Law" ∈ tb := tb_in (ch_1_0 _ (List.mem_of_getElem? (i := 6) rfl)) rfl
def df_4 : List Value := [.null, .null, .int 0, .int 0]
theorem df_ok_4 : ∀ j, j < 4 → defaultValue (ty_4 j) = vp_V df_4 j := by decide +kernel
theorem in_4 : Cond.instantiable "GingerRents$Past" 4 ∈ tb := tb_in (ch_1_13 _ (List.mem_of_getElem? (i := 9) rfl)) rfl
theorem iz_4 : Cond.initialized "GingerRents$Past" ∈ tb := tb_in (ch_1_0 _ (List.mem_of_getElem? (i := 8) rfl)) rfl
def df_5 : List Value := [.null, .null, .int 0, .int 0, .null, .int 0, .int 0, .int 0, .int 0, .int 0]
theorem df_ok_5 : ∀ j, j < 10 → defaultValue (ty_5 j) = vp_V df_5 j := by decide +kernel
theorem in_5 : Cond.instantiable "GingerRents$Reader" 10 ∈ tb := tb_in (ch_2_2 _ (List.mem_of_getElem? (i := 0) rfl)) rfl
theorem iz_5 : Cond.initialized "GingerRents$Reader" ∈ tb := tb_in (ch_1_0 _ (List.mem_of_getElem? (i := 10) rfl)) rfl
def df_6 : List Value := [.int 0, .int 0, .null, .int 0]
theorem df_ok_6 : ∀ j, j < 4 → defaultValue (ty_6 j) = vp_V df_6 j := by decide +kernel
theorem in_6 : Cond.instantiable "GingerRents$Rows" 4 ∈ tb := tb_in (ch_1_5 _ (List.mem_of_getElem? (i := 6) rfl)) rfl
theorem iz_6 : Cond.initialized "GingerRents$Rows" ∈ tb := tb_in (ch_1_0 _ (List.mem_of_getElem? (i := 4) rfl)) rfl
def df_7 : List Value := [.null, .null, .null, .int 0]
theorem df_ok_7 : ∀ j, j < 4 → defaultValue (ty_7 j) = vp_V df_7 j := by decide +kernel
theorem in_7 : Cond.instantiable "GingerRents$Season" 4 ∈ tb := tb_in (ch_1_12 _ (List.mem_of_getElem? (i := 5) rfl)) rfl
theorem iz_7 : Cond.initialized "GingerRents$Season" ∈ tb := tb_in (ch_1_0 _ (List.mem_of_getElem? (i := 7) rfl)) rfl
def df_8 : List Value := [.null, .int 0]
theorem df_ok_8 : ∀ j, j < 2 → defaultValue (ty_8 j) = vp_V df_8 j := by decide +kernel
theorem in_8 : Cond.instantiable "GingerRents$Slab" 2 ∈ tb := tb_in (ch_2_6 _ (List.mem_of_getElem? (i := 8) rfl)) rfl
theorem iz_8 : Cond.initialized "GingerRents$Slab" ∈ tb := tb_in (ch_1_0 _ (List.mem_of_getElem? (i := 13) rfl)) rfl
def df_9 : List Value := [.null, .null]
theorem df_ok_9 : ∀ j, j < 2 → defaultValue (ty_9 j) = vp_V df_9 j := by decide +kernel
theorem in_9 : Cond.instantiable "GingerRents$Street" 2 ∈ tb := tb_in (ch_2_4 _ (List.mem_of_getElem? (i := 11) rfl)) rfl
theorem iz_9 : Cond.initialized "GingerRents$Street" ∈ tb := tb_in (ch_1_0 _ (List.mem_of_getElem? (i := 11) rfl)) rfl
def df_10 : List Value := [.null, .null, .null, .null, .int 0, .int 0]
theorem df_ok_10 : ∀ j, j < 6 → defaultValue (ty_10 j) = vp_V df_10 j := by decide +kernel
theorem in_10 : Cond.instantiable "GingerRents$Tape" 6 ∈ tb := tb_in (ch_2_0 _ (List.mem_of_getElem? (i := 0) rfl)) rfl
theorem iz_10 : Cond.initialized "GingerRents$Tape" ∈ tb := tb_in (ch_1_0 _ (List.mem_of_getElem? (i := 9) rfl)) rfl
def df_11 : List Value := [.null, .null, .null, .null, .null, .null, .null, .null, .null, .null, .null, .null, .null, .null]
theorem df_ok_11 : ∀ j, j < 14 → defaultValue (ty_11 j) = vp_V df_11 j := by decide +kernel
theorem in_11 : Cond.instantiable "GingerRents$Told" 14 ∈ tb := tb_in (ch_1_5 _ (List.mem_of_getElem? (i := 0) rfl)) rfl
theorem iz_11 : Cond.initialized "GingerRents$Told" ∈ tb := tb_in (ch_1_0 _ (List.mem_of_getElem? (i := 3) rfl)) rfl
def df_12 : List Value := [.int 0, .null, .null, .int 0, .null, .int 0, .int 0, .null, .null, .null, .null, .int 0, .int 0, .int 0, .int 0, .int 0, .null, .null, .null, .null, .null, .null, .null, .null, .int 0, .int 0, .int 0, .null, .int 0, .int 0, .int 0, .int 0, .int 0, .int 0, .null, .int 0, .null, .int 0, .null, .null, .null, .null, .int 0, .null, .null, .int 0, .null, .null, .null, .int 0, .null, .int 0, .null, .null, .int 0, .null, .null, .int 0, .null, .null, .null, .null, .int 0, .null, .null, .null, .int 0, .null, .null, .null, .null, .int 0, .int 0, .int 0, .null]
theorem df_ok_12 : ∀ j, j < 75 → defaultValue (ty_12 j) = vp_V df_12 j := by decide +kernel
theorem in_12 : Cond.instantiable "GingerRentsModel" 75 ∈ tb := tb_in (ch_5_14 _ (List.mem_of_getElem? (i := 8) rfl)) rfl
theorem iz_12 : Cond.initialized "GingerRentsModel" ∈ tb := tb_in (ch_1_0 _ (List.mem_of_getElem? (i := 14) rfl)) rfl
theorem ar_i : Cond.arrayClass .int ∈ tb := tb_in (ch_1_4 _ (List.mem_of_getElem? (i := 14) rfl)) rfl
theorem ar_b : Cond.arrayClass .byte ∈ tb := tb_in (ch_2_1 _ (List.mem_of_getElem? (i := 14) rfl)) rfl
noncomputable def wl_X_init_0 : List Nat := [42, 183, 0, 1, 187, 0, 7, 89, 183, 0, 9, 76, 187, 0, 7, 89, 183, 0, 9, 77, 187, 0, 10, 89, 183, 0, 12, 78, 187, 0, 13, 89, 45, 180, 0, 15, 45, 180]
theorem wi_X_init_0 : oC tX_init.2.1 0 wl_X_init_0 = true := by decide +kernel
theorem dX_init_0 : dl tX_init 0 .aload_n .aload 0 1 := qr_42 (oW (K := 0) (r := 0) wi_X_init_0 (by decide +kernel))
theorem dX_init_1 : dn tX_init 1 (.invokespecial 1) 3 4 := qr_183 0 1 1 (oWd (K := 0) (r := 1) wi_X_init_0 (by decide +kernel))
theorem dX_init_4 : dn tX_init 4 (.new 7) 3 7 := qr_187 0 7 7 (oWd (K := 0) (r := 4) wi_X_init_0 (by decide +kernel))
theorem dX_init_7 : dn tX_init 7 (.dup) 1 8 := qr_89 (oW (K := 0) (r := 7) wi_X_init_0 (by decide +kernel))
theorem dX_init_8 : dn tX_init 8 (.invokespecial 9) 3 11 := qr_183 0 9 9 (oWd (K := 0) (r := 8) wi_X_init_0 (by decide +kernel))
theorem dX_init_11 : dl tX_init 11 .astore_n .astore 1 12 := qr_76 (oW (K := 0) (r := 11) wi_X_init_0 (by decide +kernel))
theorem dX_init_12 : dn tX_init 12 (.new 7) 3 15 := qr_187 0 7 7 (oWd (K := 0) (r := 12) wi_X_init_0 (by decide +kernel))
theorem dX_init_15 : dn tX_init 15 (.dup) 1 16 := qr_89 (oW (K := 0) (r := 15) wi_X_init_0 (by decide +kernel))
theorem dX_init_16 : dn tX_init 16 (.invokespecial 9) 3 19 := qr_183 0 9 9 (oWd (K := 0) (r := 16) wi_X_init_0 (by decide +kernel))
theorem dX_init_19 : dl tX_init 19 .astore_n .astore 2 20 := qr_77 (oW (K := 0) (r := 19) wi_X_init_0 (by decide +kernel))
theorem dX_init_20 : dn tX_init 20 (.new 10) 3 23 := qr_187 0 10 10 (oWd (K := 0) (r := 20) wi_X_init_0 (by decide +kernel))
theorem dX_init_23 : dn tX_init 23 (.dup) 1 24 := qr_89 (oW (K := 0) (r := 23) wi_X_init_0 (by decide +kernel))
theorem dX_init_24 : dn tX_init 24 (.invokespecial 12) 3 27 := qr_183 0 12 12 (oWd (K := 0) (r := 24) wi_X_init_0 (by decide +kernel))
theorem dX_init_27 : dl tX_init 27 .astore_n .astore 3 28 := qr_78 (oW (K := 0) (r := 27) wi_X_init_0 (by decide +kernel))
theorem dX_init_28 : dn tX_init 28 (.new 13) 3 31 := qr_187 0 13 13 (oWd (K := 0) (r := 28) wi_X_init_0 (by decide +kernel))
theorem dX_init_31 : dn tX_init 31 (.dup) 1 32 := qr_89 (oW (K := 0) (r := 31) wi_X_init_0 (by decide +kernel))
noncomputable def wl_X_init_32 : List Nat := [45, 180, 0, 15, 45, 180, 0, 19, 183, 0, 22, 58, 4, 42, 43, 181, 0, 25, 42, 44, 181, 0, 31, 42, 45, 181, 0, 34, 42, 187, 0, 7, 89, 183, 0, 9, 181, 0]
theorem wi_X_init_32 : oC tX_init.2.1 32 wl_X_init_32 = true := by decide +kernel
theorem dX_init_32 : dl tX_init 32 .aload_n .aload 3 33 := qr_45 (oW (K := 32) (r := 0) wi_X_init_32 (by decide +kernel))
theorem dX_init_33 : dn tX_init 33 (.getfield 15) 3 36 := qr_180 0 15 15 (oWd (K := 32) (r := 1) wi_X_init_32 (by decide +kernel))
theorem dX_init_36 : dl tX_init 36 .aload_n .aload 3 37 := qr_45 (oW (K := 32) (r := 4) wi_X_init_32 (by decide +kernel))
theorem dX_init_37 : dn tX_init 37 (.getfield 19) 3 40 := qr_180 0 19 19 (oWd (K := 32) (r := 5) wi_X_init_32 (by decide +kernel))
theorem dX_init_40 : dn tX_init 40 (.invokespecial 22) 3 43 := qr_183 0 22 22 (oWd (K := 32) (r := 8) wi_X_init_32 (by decide +kernel))
theorem dX_init_43 : dl tX_init 43 .astore_n .astore 4 45 := qs_58 4 (oW (K := 32) (r := 11) wi_X_init_32 (by decide +kernel))
theorem dX_init_45 : dl tX_init 45 .aload_n .aload 0 46 := qr_42 (oW (K := 32) (r := 13) wi_X_init_32 (by decide +kernel))
theorem dX_init_46 : dl tX_init 46 .aload_n .aload 1 47 := qr_43 (oW (K := 32) (r := 14) wi_X_init_32 (by decide +kernel))
theorem dX_init_47 : dn tX_init 47 (.putfield 25) 3 50 := qr_181 0 25 25 (oWd (K := 32) (r := 15) wi_X_init_32 (by decide +kernel))
theorem dX_init_50 : dl tX_init 50 .aload_n .aload 0 51 := qr_42 (oW (K := 32) (r := 18) wi_X_init_32 (by decide +kernel))
theorem dX_init_51 : dl tX_init 51 .aload_n .aload 2 52 := qr_44 (oW (K := 32) (r := 19) wi_X_init_32 (by decide +kernel))
theorem dX_init_52 : dn tX_init 52 (.putfield 31) 3 55 := qr_181 0 31 31 (oWd (K := 32) (r := 20) wi_X_init_32 (by decide +kernel))
theorem dX_init_55 : dl tX_init 55 .aload_n .aload 0 56 := qr_42 (oW (K := 32) (r := 23) wi_X_init_32 (by decide +kernel))
theorem dX_init_56 : dl tX_init 56 .aload_n .aload 3 57 := qr_45 (oW (K := 32) (r := 24) wi_X_init_32 (by decide +kernel))
theorem dX_init_57 : dn tX_init 57 (.putfield 34) 3 60 := qr_181 0 34 34 (oWd (K := 32) (r := 25) wi_X_init_32 (by decide +kernel))
theorem dX_init_60 : dl tX_init 60 .aload_n .aload 0 61 := qr_42 (oW (K := 32) (r := 28) wi_X_init_32 (by decide +kernel))
theorem dX_init_61 : dn tX_init 61 (.new 7) 3 64 := qr_187 0 7 7 (oWd (K := 32) (r := 29) wi_X_init_32 (by decide +kernel))
noncomputable def wl_X_init_64 : List Nat := [89, 183, 0, 9, 181, 0, 38, 42, 187, 0, 10, 89, 183, 0, 12, 181, 0, 41, 42, 187, 0, 44, 89, 43, 45, 25, 4, 4, 183, 0, 46, 181, 0, 49, 42, 187, 0, 44]
theorem wi_X_init_64 : oC tX_init.2.1 64 wl_X_init_64 = true := by decide +kernel
theorem dX_init_64 : dn tX_init 64 (.dup) 1 65 := qr_89 (oW (K := 64) (r := 0) wi_X_init_64 (by decide +kernel))
theorem dX_init_65 : dn tX_init 65 (.invokespecial 9) 3 68 := qr_183 0 9 9 (oWd (K := 64) (r := 1) wi_X_init_64 (by decide +kernel))
theorem dX_init_68 : dn tX_init 68 (.putfield 38) 3 71 := qr_181 0 38 38 (oWd (K := 64) (r := 4) wi_X_init_64 (by decide +kernel))
theorem dX_init_71 : dl tX_init 71 .aload_n .aload 0 72 := qr_42 (oW (K := 64) (r := 7) wi_X_init_64 (by decide +kernel))
theorem dX_init_72 : dn tX_init 72 (.new 10) 3 75 := qr_187 0 10 10 (oWd (K := 64) (r := 8) wi_X_init_64 (by decide +kernel))
theorem dX_init_75 : dn tX_init 75 (.dup) 1 76 := qr_89 (oW (K := 64) (r := 11) wi_X_init_64 (by decide +kernel))
theorem dX_init_76 : dn tX_init 76 (.invokespecial 12) 3 79 := qr_183 0 12 12 (oWd (K := 64) (r := 12) wi_X_init_64 (by decide +kernel))
theorem dX_init_79 : dn tX_init 79 (.putfield 41) 3 82 := qr_181 0 41 41 (oWd (K := 64) (r := 15) wi_X_init_64 (by decide +kernel))
theorem dX_init_82 : dl tX_init 82 .aload_n .aload 0 83 := qr_42 (oW (K := 64) (r := 18) wi_X_init_64 (by decide +kernel))
theorem dX_init_83 : dn tX_init 83 (.new 44) 3 86 := qr_187 0 44 44 (oWd (K := 64) (r := 19) wi_X_init_64 (by decide +kernel))
theorem dX_init_86 : dn tX_init 86 (.dup) 1 87 := qr_89 (oW (K := 64) (r := 22) wi_X_init_64 (by decide +kernel))
theorem dX_init_87 : dl tX_init 87 .aload_n .aload 1 88 := qr_43 (oW (K := 64) (r := 23) wi_X_init_64 (by decide +kernel))
theorem dX_init_88 : dl tX_init 88 .aload_n .aload 3 89 := qr_45 (oW (K := 64) (r := 24) wi_X_init_64 (by decide +kernel))
theorem dX_init_89 : dl tX_init 89 .aload_n .aload 4 91 := qs_25 4 (oW (K := 64) (r := 25) wi_X_init_64 (by decide +kernel))
theorem dX_init_91 : dn tX_init 91 (.iconst 1) 1 92 := qr_4 (oW (K := 64) (r := 27) wi_X_init_64 (by decide +kernel))
theorem dX_init_92 : dn tX_init 92 (.invokespecial 46) 3 95 := qr_183 0 46 46 (oWd (K := 64) (r := 28) wi_X_init_64 (by decide +kernel))
theorem dX_init_95 : dn tX_init 95 (.putfield 49) 3 98 := qr_181 0 49 49 (oWd (K := 64) (r := 31) wi_X_init_64 (by decide +kernel))
noncomputable def wl_X_init_96 : List Nat := [0, 49, 42, 187, 0, 44, 89, 44, 45, 25, 4, 3, 183, 0, 46, 181, 0, 53, 42, 187, 0, 56, 89, 183, 0, 58, 181, 0, 59, 187, 0, 63, 89, 183, 0, 65, 58, 5]
theorem wi_X_init_96 : oC tX_init.2.1 96 wl_X_init_96 = true := by decide +kernel
theorem dX_init_98 : dl tX_init 98 .aload_n .aload 0 99 := qr_42 (oW (K := 96) (r := 2) wi_X_init_96 (by decide +kernel))
theorem dX_init_99 : dn tX_init 99 (.new 44) 3 102 := qr_187 0 44 44 (oWd (K := 96) (r := 3) wi_X_init_96 (by decide +kernel))
theorem dX_init_102 : dn tX_init 102 (.dup) 1 103 := qr_89 (oW (K := 96) (r := 6) wi_X_init_96 (by decide +kernel))
theorem dX_init_103 : dl tX_init 103 .aload_n .aload 2 104 := qr_44 (oW (K := 96) (r := 7) wi_X_init_96 (by decide +kernel))
theorem dX_init_104 : dl tX_init 104 .aload_n .aload 3 105 := qr_45 (oW (K := 96) (r := 8) wi_X_init_96 (by decide +kernel))
theorem dX_init_105 : dl tX_init 105 .aload_n .aload 4 107 := qs_25 4 (oW (K := 96) (r := 9) wi_X_init_96 (by decide +kernel))
theorem dX_init_107 : dn tX_init 107 (.iconst 0) 1 108 := qr_3 (oW (K := 96) (r := 11) wi_X_init_96 (by decide +kernel))
theorem dX_init_108 : dn tX_init 108 (.invokespecial 46) 3 111 := qr_183 0 46 46 (oWd (K := 96) (r := 12) wi_X_init_96 (by decide +kernel))
theorem dX_init_111 : dn tX_init 111 (.putfield 53) 3 114 := qr_181 0 53 53 (oWd (K := 96) (r := 15) wi_X_init_96 (by decide +kernel))
theorem dX_init_114 : dl tX_init 114 .aload_n .aload 0 115 := qr_42 (oW (K := 96) (r := 18) wi_X_init_96 (by decide +kernel))
theorem dX_init_115 : dn tX_init 115 (.new 56) 3 118 := qr_187 0 56 56 (oWd (K := 96) (r := 19) wi_X_init_96 (by decide +kernel))
theorem dX_init_118 : dn tX_init 118 (.dup) 1 119 := qr_89 (oW (K := 96) (r := 22) wi_X_init_96 (by decide +kernel))
theorem dX_init_119 : dn tX_init 119 (.invokespecial 58) 3 122 := qr_183 0 58 58 (oWd (K := 96) (r := 23) wi_X_init_96 (by decide +kernel))
theorem dX_init_122 : dn tX_init 122 (.putfield 59) 3 125 := qr_181 0 59 59 (oWd (K := 96) (r := 26) wi_X_init_96 (by decide +kernel))
theorem dX_init_125 : dn tX_init 125 (.new 63) 3 128 := qr_187 0 63 63 (oWd (K := 96) (r := 29) wi_X_init_96 (by decide +kernel))
noncomputable def wl_X_init_128 : List Nat := [89, 183, 0, 65, 58, 5, 42, 25, 5, 181, 0, 66, 42, 187, 0, 70, 89, 25, 5, 183, 0, 72, 181, 0, 75, 42, 187, 0, 79, 89, 183, 0, 81, 181, 0, 82, 42, 187]
theorem wi_X_init_128 : oC tX_init.2.1 128 wl_X_init_128 = true := by decide +kernel
theorem dX_init_128 : dn tX_init 128 (.dup) 1 129 := qr_89 (oW (K := 128) (r := 0) wi_X_init_128 (by decide +kernel))
theorem dX_init_129 : dn tX_init 129 (.invokespecial 65) 3 132 := qr_183 0 65 65 (oWd (K := 128) (r := 1) wi_X_init_128 (by decide +kernel))
theorem dX_init_132 : dl tX_init 132 .astore_n .astore 5 134 := qs_58 5 (oW (K := 128) (r := 4) wi_X_init_128 (by decide +kernel))
theorem dX_init_134 : dl tX_init 134 .aload_n .aload 0 135 := qr_42 (oW (K := 128) (r := 6) wi_X_init_128 (by decide +kernel))
theorem dX_init_135 : dl tX_init 135 .aload_n .aload 5 137 := qs_25 5 (oW (K := 128) (r := 7) wi_X_init_128 (by decide +kernel))
theorem dX_init_137 : dn tX_init 137 (.putfield 66) 3 140 := qr_181 0 66 66 (oWd (K := 128) (r := 9) wi_X_init_128 (by decide +kernel))
theorem dX_init_140 : dl tX_init 140 .aload_n .aload 0 141 := qr_42 (oW (K := 128) (r := 12) wi_X_init_128 (by decide +kernel))
theorem dX_init_141 : dn tX_init 141 (.new 70) 3 144 := qr_187 0 70 70 (oWd (K := 128) (r := 13) wi_X_init_128 (by decide +kernel))
theorem dX_init_144 : dn tX_init 144 (.dup) 1 145 := qr_89 (oW (K := 128) (r := 16) wi_X_init_128 (by decide +kernel))
theorem dX_init_145 : dl tX_init 145 .aload_n .aload 5 147 := qs_25 5 (oW (K := 128) (r := 17) wi_X_init_128 (by decide +kernel))
theorem dX_init_147 : dn tX_init 147 (.invokespecial 72) 3 150 := qr_183 0 72 72 (oWd (K := 128) (r := 19) wi_X_init_128 (by decide +kernel))
theorem dX_init_150 : dn tX_init 150 (.putfield 75) 3 153 := qr_181 0 75 75 (oWd (K := 128) (r := 22) wi_X_init_128 (by decide +kernel))
theorem dX_init_153 : dl tX_init 153 .aload_n .aload 0 154 := qr_42 (oW (K := 128) (r := 25) wi_X_init_128 (by decide +kernel))
theorem dX_init_154 : dn tX_init 154 (.new 79) 3 157 := qr_187 0 79 79 (oWd (K := 128) (r := 26) wi_X_init_128 (by decide +kernel))
theorem dX_init_157 : dn tX_init 157 (.dup) 1 158 := qr_89 (oW (K := 128) (r := 29) wi_X_init_128 (by decide +kernel))
theorem dX_init_158 : dn tX_init 158 (.invokespecial 81) 3 161 := qr_183 0 81 81 (oWd (K := 128) (r := 30) wi_X_init_128 (by decide +kernel))
noncomputable def wl_X_init_160 : List Nat := [81, 181, 0, 82, 42, 187, 0, 86, 89, 183, 0, 88, 181, 0, 89, 42, 187, 0, 93, 89, 183, 0, 95, 181, 0, 96, 42, 3, 181, 0, 100, 177]
theorem wi_X_init_160 : oC tX_init.2.1 160 wl_X_init_160 = true := by decide +kernel
theorem dX_init_161 : dn tX_init 161 (.putfield 82) 3 164 := qr_181 0 82 82 (oWd (K := 160) (r := 1) wi_X_init_160 (by decide +kernel))
theorem dX_init_164 : dl tX_init 164 .aload_n .aload 0 165 := qr_42 (oW (K := 160) (r := 4) wi_X_init_160 (by decide +kernel))
theorem dX_init_165 : dn tX_init 165 (.new 86) 3 168 := qr_187 0 86 86 (oWd (K := 160) (r := 5) wi_X_init_160 (by decide +kernel))
theorem dX_init_168 : dn tX_init 168 (.dup) 1 169 := qr_89 (oW (K := 160) (r := 8) wi_X_init_160 (by decide +kernel))
theorem dX_init_169 : dn tX_init 169 (.invokespecial 88) 3 172 := qr_183 0 88 88 (oWd (K := 160) (r := 9) wi_X_init_160 (by decide +kernel))
theorem dX_init_172 : dn tX_init 172 (.putfield 89) 3 175 := qr_181 0 89 89 (oWd (K := 160) (r := 12) wi_X_init_160 (by decide +kernel))
theorem dX_init_175 : dl tX_init 175 .aload_n .aload 0 176 := qr_42 (oW (K := 160) (r := 15) wi_X_init_160 (by decide +kernel))
theorem dX_init_176 : dn tX_init 176 (.new 93) 3 179 := qr_187 0 93 93 (oWd (K := 160) (r := 16) wi_X_init_160 (by decide +kernel))
theorem dX_init_179 : dn tX_init 179 (.dup) 1 180 := qr_89 (oW (K := 160) (r := 19) wi_X_init_160 (by decide +kernel))
theorem dX_init_180 : dn tX_init 180 (.invokespecial 95) 3 183 := qr_183 0 95 95 (oWd (K := 160) (r := 20) wi_X_init_160 (by decide +kernel))
theorem dX_init_183 : dn tX_init 183 (.putfield 96) 3 186 := qr_181 0 96 96 (oWd (K := 160) (r := 23) wi_X_init_160 (by decide +kernel))
theorem dX_init_186 : dl tX_init 186 .aload_n .aload 0 187 := qr_42 (oW (K := 160) (r := 26) wi_X_init_160 (by decide +kernel))
theorem dX_init_187 : dn tX_init 187 (.iconst 0) 1 188 := qr_3 (oW (K := 160) (r := 27) wi_X_init_160 (by decide +kernel))
theorem dX_init_188 : dn tX_init 188 (.putfield 100) 3 191 := qr_181 0 100 100 (oWd (K := 160) (r := 28) wi_X_init_160 (by decide +kernel))
theorem dX_init_191 : dn tX_init 191 (.return_) 1 192 := qr_177 (oW (K := 160) (r := 31) wi_X_init_160 (by decide +kernel))
noncomputable def wl_B_init_0 : List Nat := [42, 183, 0, 3, 42, 17, 0, 132, 188, 10, 181, 0, 11, 177]
theorem wi_B_init_0 : oC tB_init.2.1 0 wl_B_init_0 = true := by decide +kernel
theorem dB_init_0 : dl tB_init 0 .aload_n .aload 0 1 := qr_42 (oW (K := 0) (r := 0) wi_B_init_0 (by decide +kernel))
theorem dB_init_1 : dn tB_init 1 (.invokespecial 3) 3 4 := qr_183 0 3 3 (oWd (K := 0) (r := 1) wi_B_init_0 (by decide +kernel))
theorem dB_init_4 : dl tB_init 4 .aload_n .aload 0 5 := qr_42 (oW (K := 0) (r := 4) wi_B_init_0 (by decide +kernel))
theorem dB_init_5 : dn tB_init 5 (.sipush 132) 3 8 := qr_17 0 132 132 (oWd (K := 0) (r := 5) wi_B_init_0 (by decide +kernel))
theorem dB_init_8 : dn tB_init 8 (.newarray .int) 2 10 := qr_188_10 (oW (K := 0) (r := 8) wi_B_init_0 (by decide +kernel))
theorem dB_init_10 : dn tB_init 10 (.putfield 11) 3 13 := qr_181 0 11 11 (oWd (K := 0) (r := 10) wi_B_init_0 (by decide +kernel))
theorem dB_init_13 : dn tB_init 13 (.return_) 1 14 := qr_177 (oW (K := 0) (r := 13) wi_B_init_0 (by decide +kernel))
noncomputable def wl_K_init_0 : List Nat := [42, 183, 0, 3, 42, 16, 8, 188, 10, 181, 0, 11, 42, 16, 17, 188, 10, 181, 0, 15, 42, 16, 17, 188, 10, 181, 0, 18, 177]
theorem wi_K_init_0 : oC tK_init.2.1 0 wl_K_init_0 = true := by decide +kernel
theorem dK_init_0 : dl tK_init 0 .aload_n .aload 0 1 := qr_42 (oW (K := 0) (r := 0) wi_K_init_0 (by decide +kernel))
theorem dK_init_1 : dn tK_init 1 (.invokespecial 3) 3 4 := qr_183 0 3 3 (oWd (K := 0) (r := 1) wi_K_init_0 (by decide +kernel))
theorem dK_init_4 : dl tK_init 4 .aload_n .aload 0 5 := qr_42 (oW (K := 0) (r := 4) wi_K_init_0 (by decide +kernel))
theorem dK_init_5 : dn tK_init 5 (.bipush 8) 2 7 := qr_16 8 8 (oWd (K := 0) (r := 5) wi_K_init_0 (by decide +kernel))
theorem dK_init_7 : dn tK_init 7 (.newarray .int) 2 9 := qr_188_10 (oW (K := 0) (r := 7) wi_K_init_0 (by decide +kernel))
theorem dK_init_9 : dn tK_init 9 (.putfield 11) 3 12 := qr_181 0 11 11 (oWd (K := 0) (r := 9) wi_K_init_0 (by decide +kernel))
theorem dK_init_12 : dl tK_init 12 .aload_n .aload 0 13 := qr_42 (oW (K := 0) (r := 12) wi_K_init_0 (by decide +kernel))
theorem dK_init_13 : dn tK_init 13 (.bipush 17) 2 15 := qr_16 17 17 (oWd (K := 0) (r := 13) wi_K_init_0 (by decide +kernel))
theorem dK_init_15 : dn tK_init 15 (.newarray .int) 2 17 := qr_188_10 (oW (K := 0) (r := 15) wi_K_init_0 (by decide +kernel))
theorem dK_init_17 : dn tK_init 17 (.putfield 15) 3 20 := qr_181 0 15 15 (oWd (K := 0) (r := 17) wi_K_init_0 (by decide +kernel))
theorem dK_init_20 : dl tK_init 20 .aload_n .aload 0 21 := qr_42 (oW (K := 0) (r := 20) wi_K_init_0 (by decide +kernel))
theorem dK_init_21 : dn tK_init 21 (.bipush 17) 2 23 := qr_16 17 17 (oWd (K := 0) (r := 21) wi_K_init_0 (by decide +kernel))
theorem dK_init_23 : dn tK_init 23 (.newarray .int) 2 25 := qr_188_10 (oW (K := 0) (r := 23) wi_K_init_0 (by decide +kernel))
theorem dK_init_25 : dn tK_init 25 (.putfield 18) 3 28 := qr_181 0 18 18 (oWd (K := 0) (r := 25) wi_K_init_0 (by decide +kernel))
theorem dK_init_28 : dn tK_init 28 (.return_) 1 29 := qr_177 (oW (K := 0) (r := 28) wi_K_init_0 (by decide +kernel))
noncomputable def wl_W_init_0 : List Nat := [42, 183, 0, 3, 42, 16, 12, 188, 10, 181, 0, 11, 42, 16, 64, 188, 10, 181, 0, 15, 42, 43, 181, 0, 18, 42, 44, 181, 0, 22, 177]
theorem wi_W_init_0 : oC tW_init.2.1 0 wl_W_init_0 = true := by decide +kernel
theorem dW_init_0 : dl tW_init 0 .aload_n .aload 0 1 := qr_42 (oW (K := 0) (r := 0) wi_W_init_0 (by decide +kernel))
theorem dW_init_1 : dn tW_init 1 (.invokespecial 3) 3 4 := qr_183 0 3 3 (oWd (K := 0) (r := 1) wi_W_init_0 (by decide +kernel))
theorem dW_init_4 : dl tW_init 4 .aload_n .aload 0 5 := qr_42 (oW (K := 0) (r := 4) wi_W_init_0 (by decide +kernel))
theorem dW_init_5 : dn tW_init 5 (.bipush 12) 2 7 := qr_16 12 12 (oWd (K := 0) (r := 5) wi_W_init_0 (by decide +kernel))
theorem dW_init_7 : dn tW_init 7 (.newarray .int) 2 9 := qr_188_10 (oW (K := 0) (r := 7) wi_W_init_0 (by decide +kernel))
theorem dW_init_9 : dn tW_init 9 (.putfield 11) 3 12 := qr_181 0 11 11 (oWd (K := 0) (r := 9) wi_W_init_0 (by decide +kernel))
theorem dW_init_12 : dl tW_init 12 .aload_n .aload 0 13 := qr_42 (oW (K := 0) (r := 12) wi_W_init_0 (by decide +kernel))
theorem dW_init_13 : dn tW_init 13 (.bipush 64) 2 15 := qr_16 64 64 (oWd (K := 0) (r := 13) wi_W_init_0 (by decide +kernel))
theorem dW_init_15 : dn tW_init 15 (.newarray .int) 2 17 := qr_188_10 (oW (K := 0) (r := 15) wi_W_init_0 (by decide +kernel))
theorem dW_init_17 : dn tW_init 17 (.putfield 15) 3 20 := qr_181 0 15 15 (oWd (K := 0) (r := 17) wi_W_init_0 (by decide +kernel))
theorem dW_init_20 : dl tW_init 20 .aload_n .aload 0 21 := qr_42 (oW (K := 0) (r := 20) wi_W_init_0 (by decide +kernel))
theorem dW_init_21 : dl tW_init 21 .aload_n .aload 1 22 := qr_43 (oW (K := 0) (r := 21) wi_W_init_0 (by decide +kernel))
theorem dW_init_22 : dn tW_init 22 (.putfield 18) 3 25 := qr_181 0 18 18 (oWd (K := 0) (r := 22) wi_W_init_0 (by decide +kernel))
theorem dW_init_25 : dl tW_init 25 .aload_n .aload 0 26 := qr_42 (oW (K := 0) (r := 25) wi_W_init_0 (by decide +kernel))
theorem dW_init_26 : dl tW_init 26 .aload_n .aload 2 27 := qr_44 (oW (K := 0) (r := 26) wi_W_init_0 (by decide +kernel))
theorem dW_init_27 : dn tW_init 27 (.putfield 22) 3 30 := qr_181 0 22 22 (oWd (K := 0) (r := 27) wi_W_init_0 (by decide +kernel))
theorem dW_init_30 : dn tW_init 30 (.return_) 1 31 := qr_177 (oW (K := 0) (r := 30) wi_W_init_0 (by decide +kernel))
noncomputable def wl_P_init_0 : List Nat := [42, 183, 0, 1, 42, 16, 6, 189, 0, 9, 181, 0, 11, 42, 16, 6, 188, 10, 181, 0, 15, 3, 60, 27, 16, 6, 162, 0, 22, 42, 180, 0, 11, 27, 187, 0, 9, 89]
theorem wi_P_init_0 : oC tP_init.2.1 0 wl_P_init_0 = true := by decide +kernel
theorem dP_init_0 : dl tP_init 0 .aload_n .aload 0 1 := qr_42 (oW (K := 0) (r := 0) wi_P_init_0 (by decide +kernel))
theorem dP_init_1 : dn tP_init 1 (.invokespecial 1) 3 4 := qr_183 0 1 1 (oWd (K := 0) (r := 1) wi_P_init_0 (by decide +kernel))
theorem dP_init_4 : dl tP_init 4 .aload_n .aload 0 5 := qr_42 (oW (K := 0) (r := 4) wi_P_init_0 (by decide +kernel))
theorem dP_init_5 : dn tP_init 5 (.bipush 6) 2 7 := qr_16 6 6 (oWd (K := 0) (r := 5) wi_P_init_0 (by decide +kernel))
theorem dP_init_7 : dn tP_init 7 (.anewarray 9) 3 10 := qr_189 0 9 9 (oWd (K := 0) (r := 7) wi_P_init_0 (by decide +kernel))
theorem dP_init_10 : dn tP_init 10 (.putfield 11) 3 13 := qr_181 0 11 11 (oWd (K := 0) (r := 10) wi_P_init_0 (by decide +kernel))
theorem dP_init_13 : dl tP_init 13 .aload_n .aload 0 14 := qr_42 (oW (K := 0) (r := 13) wi_P_init_0 (by decide +kernel))
theorem dP_init_14 : dn tP_init 14 (.bipush 6) 2 16 := qr_16 6 6 (oWd (K := 0) (r := 14) wi_P_init_0 (by decide +kernel))
theorem dP_init_16 : dn tP_init 16 (.newarray .int) 2 18 := qr_188_10 (oW (K := 0) (r := 16) wi_P_init_0 (by decide +kernel))
theorem dP_init_18 : dn tP_init 18 (.putfield 15) 3 21 := qr_181 0 15 15 (oWd (K := 0) (r := 18) wi_P_init_0 (by decide +kernel))
theorem dP_init_21 : dn tP_init 21 (.iconst 0) 1 22 := qr_3 (oW (K := 0) (r := 21) wi_P_init_0 (by decide +kernel))
theorem dP_init_22 : dl tP_init 22 .istore_n .istore 1 23 := qr_60 (oW (K := 0) (r := 22) wi_P_init_0 (by decide +kernel))
theorem dP_init_23 : dl tP_init 23 .iload_n .iload 1 24 := qr_27 (oW (K := 0) (r := 23) wi_P_init_0 (by decide +kernel))
theorem dP_init_24 : dn tP_init 24 (.bipush 6) 2 26 := qr_16 6 6 (oWd (K := 0) (r := 24) wi_P_init_0 (by decide +kernel))
theorem dP_init_26 : db tP_init 26 (.if_icmp .ge) 48 29 := qr_162 0 22 22 (oWd (K := 0) (r := 26) wi_P_init_0 (by decide +kernel)) rfl
theorem dP_init_29 : dl tP_init 29 .aload_n .aload 0 30 := qr_42 (oW (K := 0) (r := 29) wi_P_init_0 (by decide +kernel))
theorem dP_init_30 : dn tP_init 30 (.getfield 11) 3 33 := qr_180 0 11 11 (oWd (K := 0) (r := 30) wi_P_init_0 (by decide +kernel))
noncomputable def wl_P_init_32 : List Nat := [11, 27, 187, 0, 9, 89, 183, 0, 19, 83, 132, 1, 1, 167, 255, 234, 177]
theorem wi_P_init_32 : oC tP_init.2.1 32 wl_P_init_32 = true := by decide +kernel
theorem dP_init_33 : dl tP_init 33 .iload_n .iload 1 34 := qr_27 (oW (K := 32) (r := 1) wi_P_init_32 (by decide +kernel))
theorem dP_init_34 : dn tP_init 34 (.new 9) 3 37 := qr_187 0 9 9 (oWd (K := 32) (r := 2) wi_P_init_32 (by decide +kernel))
theorem dP_init_37 : dn tP_init 37 (.dup) 1 38 := qr_89 (oW (K := 32) (r := 5) wi_P_init_32 (by decide +kernel))
theorem dP_init_38 : dn tP_init 38 (.invokespecial 19) 3 41 := qr_183 0 19 19 (oWd (K := 32) (r := 6) wi_P_init_32 (by decide +kernel))
theorem dP_init_41 : dn tP_init 41 (.aastore) 1 42 := qr_83 (oW (K := 32) (r := 9) wi_P_init_32 (by decide +kernel))
theorem dP_init_42 : dn tP_init 42 (.iinc 1 1) 3 45 := qr_132 1 1 1 (oWd (K := 32) (r := 10) wi_P_init_32 (by decide +kernel))
theorem dP_init_45 : db tP_init 45 .goto 23 48 := qr_167 255 234 (-22) (oWd (K := 32) (r := 13) wi_P_init_32 (by decide +kernel)) rfl
theorem dP_init_48 : dn tP_init 48 (.return_) 1 49 := qr_177 (oW (K := 32) (r := 16) wi_P_init_32 (by decide +kernel))
noncomputable def wl_D_init_0 : List Nat := [42, 183, 0, 3, 42, 187, 0, 9, 89, 16, 16, 8, 183, 0, 11, 181, 0, 14, 42, 187, 0, 9, 89, 17, 1, 144, 5, 183, 0, 11, 181, 0, 22, 42, 3, 181, 0, 25]
theorem wi_D_init_0 : oC tD_init.2.1 0 wl_D_init_0 = true := by decide +kernel
theorem dD_init_0 : dl tD_init 0 .aload_n .aload 0 1 := qr_42 (oW (K := 0) (r := 0) wi_D_init_0 (by decide +kernel))
theorem dD_init_1 : dn tD_init 1 (.invokespecial 3) 3 4 := qr_183 0 3 3 (oWd (K := 0) (r := 1) wi_D_init_0 (by decide +kernel))
theorem dD_init_4 : dl tD_init 4 .aload_n .aload 0 5 := qr_42 (oW (K := 0) (r := 4) wi_D_init_0 (by decide +kernel))
theorem dD_init_5 : dn tD_init 5 (.new 9) 3 8 := qr_187 0 9 9 (oWd (K := 0) (r := 5) wi_D_init_0 (by decide +kernel))
theorem dD_init_8 : dn tD_init 8 (.dup) 1 9 := qr_89 (oW (K := 0) (r := 8) wi_D_init_0 (by decide +kernel))
theorem dD_init_9 : dn tD_init 9 (.bipush 16) 2 11 := qr_16 16 16 (oWd (K := 0) (r := 9) wi_D_init_0 (by decide +kernel))
theorem dD_init_11 : dn tD_init 11 (.iconst 5) 1 12 := qr_8 (oW (K := 0) (r := 11) wi_D_init_0 (by decide +kernel))
theorem dD_init_12 : dn tD_init 12 (.invokespecial 11) 3 15 := qr_183 0 11 11 (oWd (K := 0) (r := 12) wi_D_init_0 (by decide +kernel))
theorem dD_init_15 : dn tD_init 15 (.putfield 14) 3 18 := qr_181 0 14 14 (oWd (K := 0) (r := 15) wi_D_init_0 (by decide +kernel))
theorem dD_init_18 : dl tD_init 18 .aload_n .aload 0 19 := qr_42 (oW (K := 0) (r := 18) wi_D_init_0 (by decide +kernel))
theorem dD_init_19 : dn tD_init 19 (.new 9) 3 22 := qr_187 0 9 9 (oWd (K := 0) (r := 19) wi_D_init_0 (by decide +kernel))
theorem dD_init_22 : dn tD_init 22 (.dup) 1 23 := qr_89 (oW (K := 0) (r := 22) wi_D_init_0 (by decide +kernel))
theorem dD_init_23 : dn tD_init 23 (.sipush 400) 3 26 := qr_17 1 144 400 (oWd (K := 0) (r := 23) wi_D_init_0 (by decide +kernel))
theorem dD_init_26 : dn tD_init 26 (.iconst 2) 1 27 := qr_5 (oW (K := 0) (r := 26) wi_D_init_0 (by decide +kernel))
theorem dD_init_27 : dn tD_init 27 (.invokespecial 11) 3 30 := qr_183 0 11 11 (oWd (K := 0) (r := 27) wi_D_init_0 (by decide +kernel))
theorem dD_init_30 : dn tD_init 30 (.putfield 22) 3 33 := qr_181 0 22 22 (oWd (K := 0) (r := 30) wi_D_init_0 (by decide +kernel))
noncomputable def wl_D_init_32 : List Nat := [22, 42, 3, 181, 0, 25, 42, 2, 181, 0, 29, 42, 43, 181, 0, 32, 177]
theorem wi_D_init_32 : oC tD_init.2.1 32 wl_D_init_32 = true := by decide +kernel
theorem dD_init_33 : dl tD_init 33 .aload_n .aload 0 34 := qr_42 (oW (K := 32) (r := 1) wi_D_init_32 (by decide +kernel))
theorem dD_init_34 : dn tD_init 34 (.iconst 0) 1 35 := qr_3 (oW (K := 32) (r := 2) wi_D_init_32 (by decide +kernel))
theorem dD_init_35 : dn tD_init 35 (.putfield 25) 3 38 := qr_181 0 25 25 (oWd (K := 32) (r := 3) wi_D_init_32 (by decide +kernel))
theorem dD_init_38 : dl tD_init 38 .aload_n .aload 0 39 := qr_42 (oW (K := 32) (r := 6) wi_D_init_32 (by decide +kernel))
theorem dD_init_39 : dn tD_init 39 (.iconst (-1)) 1 40 := qr_2 (oW (K := 32) (r := 7) wi_D_init_32 (by decide +kernel))
theorem dD_init_40 : dn tD_init 40 (.putfield 29) 3 43 := qr_181 0 29 29 (oWd (K := 32) (r := 8) wi_D_init_32 (by decide +kernel))
theorem dD_init_43 : dl tD_init 43 .aload_n .aload 0 44 := qr_42 (oW (K := 32) (r := 11) wi_D_init_32 (by decide +kernel))
theorem dD_init_44 : dl tD_init 44 .aload_n .aload 1 45 := qr_43 (oW (K := 32) (r := 12) wi_D_init_32 (by decide +kernel))
theorem dD_init_45 : dn tD_init 45 (.putfield 32) 3 48 := qr_181 0 32 32 (oWd (K := 32) (r := 13) wi_D_init_32 (by decide +kernel))
theorem dD_init_48 : dn tD_init 48 (.return_) 1 49 := qr_177 (oW (K := 32) (r := 16) wi_D_init_32 (by decide +kernel))
noncomputable def wl_R_init_0 : List Nat := [42, 183, 0, 3, 42, 27, 3, 184, 0, 9, 181, 0, 15, 42, 28, 4, 184, 0, 9, 181, 0, 21, 42, 42, 180, 0, 15, 42, 180, 0, 21, 104, 188, 10, 181, 0, 24, 42]
theorem wi_R_init_0 : oC tR_init.2.1 0 wl_R_init_0 = true := by decide +kernel
theorem dR_init_0 : dl tR_init 0 .aload_n .aload 0 1 := qr_42 (oW (K := 0) (r := 0) wi_R_init_0 (by decide +kernel))
theorem dR_init_1 : dn tR_init 1 (.invokespecial 3) 3 4 := qr_183 0 3 3 (oWd (K := 0) (r := 1) wi_R_init_0 (by decide +kernel))
theorem dR_init_4 : dl tR_init 4 .aload_n .aload 0 5 := qr_42 (oW (K := 0) (r := 4) wi_R_init_0 (by decide +kernel))
theorem dR_init_5 : dl tR_init 5 .iload_n .iload 1 6 := qr_27 (oW (K := 0) (r := 5) wi_R_init_0 (by decide +kernel))
theorem dR_init_6 : dn tR_init 6 (.iconst 0) 1 7 := qr_3 (oW (K := 0) (r := 6) wi_R_init_0 (by decide +kernel))
theorem dR_init_7 : dn tR_init 7 (.invokestatic 9) 3 10 := qr_184 0 9 9 (oWd (K := 0) (r := 7) wi_R_init_0 (by decide +kernel))
theorem dR_init_10 : dn tR_init 10 (.putfield 15) 3 13 := qr_181 0 15 15 (oWd (K := 0) (r := 10) wi_R_init_0 (by decide +kernel))
theorem dR_init_13 : dl tR_init 13 .aload_n .aload 0 14 := qr_42 (oW (K := 0) (r := 13) wi_R_init_0 (by decide +kernel))
theorem dR_init_14 : dl tR_init 14 .iload_n .iload 2 15 := qr_28 (oW (K := 0) (r := 14) wi_R_init_0 (by decide +kernel))
theorem dR_init_15 : dn tR_init 15 (.iconst 1) 1 16 := qr_4 (oW (K := 0) (r := 15) wi_R_init_0 (by decide +kernel))
theorem dR_init_16 : dn tR_init 16 (.invokestatic 9) 3 19 := qr_184 0 9 9 (oWd (K := 0) (r := 16) wi_R_init_0 (by decide +kernel))
theorem dR_init_19 : dn tR_init 19 (.putfield 21) 3 22 := qr_181 0 21 21 (oWd (K := 0) (r := 19) wi_R_init_0 (by decide +kernel))
theorem dR_init_22 : dl tR_init 22 .aload_n .aload 0 23 := qr_42 (oW (K := 0) (r := 22) wi_R_init_0 (by decide +kernel))
theorem dR_init_23 : dl tR_init 23 .aload_n .aload 0 24 := qr_42 (oW (K := 0) (r := 23) wi_R_init_0 (by decide +kernel))
theorem dR_init_24 : dn tR_init 24 (.getfield 15) 3 27 := qr_180 0 15 15 (oWd (K := 0) (r := 24) wi_R_init_0 (by decide +kernel))
theorem dR_init_27 : dl tR_init 27 .aload_n .aload 0 28 := qr_42 (oW (K := 0) (r := 27) wi_R_init_0 (by decide +kernel))
theorem dR_init_28 : dn tR_init 28 (.getfield 21) 3 31 := qr_180 0 21 21 (oWd (K := 0) (r := 28) wi_R_init_0 (by decide +kernel))
theorem dR_init_31 : dn tR_init 31 (.imul) 1 32 := qr_104 (oW (K := 0) (r := 31) wi_R_init_0 (by decide +kernel))
noncomputable def wl_R_init_32 : List Nat := [188, 10, 181, 0, 24, 42, 3, 181, 0, 28, 177]
theorem wi_R_init_32 : oC tR_init.2.1 32 wl_R_init_32 = true := by decide +kernel
theorem dR_init_32 : dn tR_init 32 (.newarray .int) 2 34 := qr_188_10 (oW (K := 32) (r := 0) wi_R_init_32 (by decide +kernel))
theorem dR_init_34 : dn tR_init 34 (.putfield 24) 3 37 := qr_181 0 24 24 (oWd (K := 32) (r := 2) wi_R_init_32 (by decide +kernel))
theorem dR_init_37 : dl tR_init 37 .aload_n .aload 0 38 := qr_42 (oW (K := 32) (r := 5) wi_R_init_32 (by decide +kernel))
theorem dR_init_38 : dn tR_init 38 (.iconst 0) 1 39 := qr_3 (oW (K := 32) (r := 6) wi_R_init_32 (by decide +kernel))
theorem dR_init_39 : dn tR_init 39 (.putfield 28) 3 42 := qr_181 0 28 28 (oWd (K := 32) (r := 7) wi_R_init_32 (by decide +kernel))
theorem dR_init_42 : dn tR_init 42 (.return_) 1 43 := qr_177 (oW (K := 32) (r := 10) wi_R_init_32 (by decide +kernel))
noncomputable def wl_S_init_0 : List Nat := [42, 183, 0, 3, 42, 43, 181, 0, 9, 42, 44, 181, 0, 15, 42, 45, 181, 0, 19, 42, 21, 4, 181, 0, 23, 177]
theorem wi_S_init_0 : oC tS_init.2.1 0 wl_S_init_0 = true := by decide +kernel
theorem dS_init_0 : dl tS_init 0 .aload_n .aload 0 1 := qr_42 (oW (K := 0) (r := 0) wi_S_init_0 (by decide +kernel))
theorem dS_init_1 : dn tS_init 1 (.invokespecial 3) 3 4 := qr_183 0 3 3 (oWd (K := 0) (r := 1) wi_S_init_0 (by decide +kernel))
theorem dS_init_4 : dl tS_init 4 .aload_n .aload 0 5 := qr_42 (oW (K := 0) (r := 4) wi_S_init_0 (by decide +kernel))
theorem dS_init_5 : dl tS_init 5 .aload_n .aload 1 6 := qr_43 (oW (K := 0) (r := 5) wi_S_init_0 (by decide +kernel))
theorem dS_init_6 : dn tS_init 6 (.putfield 9) 3 9 := qr_181 0 9 9 (oWd (K := 0) (r := 6) wi_S_init_0 (by decide +kernel))
theorem dS_init_9 : dl tS_init 9 .aload_n .aload 0 10 := qr_42 (oW (K := 0) (r := 9) wi_S_init_0 (by decide +kernel))
theorem dS_init_10 : dl tS_init 10 .aload_n .aload 2 11 := qr_44 (oW (K := 0) (r := 10) wi_S_init_0 (by decide +kernel))
theorem dS_init_11 : dn tS_init 11 (.putfield 15) 3 14 := qr_181 0 15 15 (oWd (K := 0) (r := 11) wi_S_init_0 (by decide +kernel))
theorem dS_init_14 : dl tS_init 14 .aload_n .aload 0 15 := qr_42 (oW (K := 0) (r := 14) wi_S_init_0 (by decide +kernel))
theorem dS_init_15 : dl tS_init 15 .aload_n .aload 3 16 := qr_45 (oW (K := 0) (r := 15) wi_S_init_0 (by decide +kernel))
theorem dS_init_16 : dn tS_init 16 (.putfield 19) 3 19 := qr_181 0 19 19 (oWd (K := 0) (r := 16) wi_S_init_0 (by decide +kernel))
theorem dS_init_19 : dl tS_init 19 .aload_n .aload 0 20 := qr_42 (oW (K := 0) (r := 19) wi_S_init_0 (by decide +kernel))
theorem dS_init_20 : dl tS_init 20 .iload_n .iload 4 22 := qs_21 4 (oW (K := 0) (r := 20) wi_S_init_0 (by decide +kernel))
theorem dS_init_22 : dn tS_init 22 (.putfield 23) 3 25 := qr_181 0 23 23 (oWd (K := 0) (r := 22) wi_S_init_0 (by decide +kernel))
theorem dS_init_25 : dn tS_init 25 (.return_) 1 26 := qr_177 (oW (K := 0) (r := 25) wi_S_init_0 (by decide +kernel))
noncomputable def wl_L_init_0 : List Nat := [42, 183, 0, 5, 42, 17, 4, 0, 188, 10, 181, 0, 11, 177]
theorem wi_L_init_0 : oC tL_init.2.1 0 wl_L_init_0 = true := by decide +kernel
theorem dL_init_0 : dl tL_init 0 .aload_n .aload 0 1 := qr_42 (oW (K := 0) (r := 0) wi_L_init_0 (by decide +kernel))
theorem dL_init_1 : dn tL_init 1 (.invokespecial 5) 3 4 := qr_183 0 5 5 (oWd (K := 0) (r := 1) wi_L_init_0 (by decide +kernel))
theorem dL_init_4 : dl tL_init 4 .aload_n .aload 0 5 := qr_42 (oW (K := 0) (r := 4) wi_L_init_0 (by decide +kernel))
theorem dL_init_5 : dn tL_init 5 (.sipush 1024) 3 8 := qr_17 4 0 1024 (oWd (K := 0) (r := 5) wi_L_init_0 (by decide +kernel))
theorem dL_init_8 : dn tL_init 8 (.newarray .int) 2 10 := qr_188_10 (oW (K := 0) (r := 8) wi_L_init_0 (by decide +kernel))
theorem dL_init_10 : dn tL_init 10 (.putfield 11) 3 13 := qr_181 0 11 11 (oWd (K := 0) (r := 10) wi_L_init_0 (by decide +kernel))
theorem dL_init_13 : dn tL_init 13 (.return_) 1 14 := qr_177 (oW (K := 0) (r := 13) wi_L_init_0 (by decide +kernel))
noncomputable def wl_T_init_0 : List Nat := [42, 183, 0, 3, 42, 16, 12, 188, 10, 181, 0, 9, 42, 16, 12, 188, 10, 181, 0, 15, 177]
theorem wi_T_init_0 : oC tT_init.2.1 0 wl_T_init_0 = true := by decide +kernel
theorem dT_init_0 : dl tT_init 0 .aload_n .aload 0 1 := qr_42 (oW (K := 0) (r := 0) wi_T_init_0 (by decide +kernel))
theorem dT_init_1 : dn tT_init 1 (.invokespecial 3) 3 4 := qr_183 0 3 3 (oWd (K := 0) (r := 1) wi_T_init_0 (by decide +kernel))
theorem dT_init_4 : dl tT_init 4 .aload_n .aload 0 5 := qr_42 (oW (K := 0) (r := 4) wi_T_init_0 (by decide +kernel))
theorem dT_init_5 : dn tT_init 5 (.bipush 12) 2 7 := qr_16 12 12 (oWd (K := 0) (r := 5) wi_T_init_0 (by decide +kernel))
theorem dT_init_7 : dn tT_init 7 (.newarray .int) 2 9 := qr_188_10 (oW (K := 0) (r := 7) wi_T_init_0 (by decide +kernel))
theorem dT_init_9 : dn tT_init 9 (.putfield 9) 3 12 := qr_181 0 9 9 (oWd (K := 0) (r := 9) wi_T_init_0 (by decide +kernel))
theorem dT_init_12 : dl tT_init 12 .aload_n .aload 0 13 := qr_42 (oW (K := 0) (r := 12) wi_T_init_0 (by decide +kernel))
theorem dT_init_13 : dn tT_init 13 (.bipush 12) 2 15 := qr_16 12 12 (oWd (K := 0) (r := 13) wi_T_init_0 (by decide +kernel))
theorem dT_init_15 : dn tT_init 15 (.newarray .int) 2 17 := qr_188_10 (oW (K := 0) (r := 15) wi_T_init_0 (by decide +kernel))
theorem dT_init_17 : dn tT_init 17 (.putfield 15) 3 20 := qr_181 0 15 15 (oWd (K := 0) (r := 17) wi_T_init_0 (by decide +kernel))
theorem dT_init_20 : dn tT_init 20 (.return_) 1 21 := qr_177 (oW (K := 0) (r := 20) wi_T_init_0 (by decide +kernel))
noncomputable def wl_A_init_0 : List Nat := [42, 183, 0, 3, 42, 17, 1, 144, 188, 8, 181, 0, 9, 42, 17, 1, 145, 188, 10, 181, 0, 15, 42, 17, 1, 145, 188, 10, 181, 0, 19, 42, 17, 1, 145, 188, 10, 181]
theorem wi_A_init_0 : oC tA_init.2.1 0 wl_A_init_0 = true := by decide +kernel
theorem dA_init_0 : dl tA_init 0 .aload_n .aload 0 1 := qr_42 (oW (K := 0) (r := 0) wi_A_init_0 (by decide +kernel))
theorem dA_init_1 : dn tA_init 1 (.invokespecial 3) 3 4 := qr_183 0 3 3 (oWd (K := 0) (r := 1) wi_A_init_0 (by decide +kernel))
theorem dA_init_4 : dl tA_init 4 .aload_n .aload 0 5 := qr_42 (oW (K := 0) (r := 4) wi_A_init_0 (by decide +kernel))
theorem dA_init_5 : dn tA_init 5 (.sipush 400) 3 8 := qr_17 1 144 400 (oWd (K := 0) (r := 5) wi_A_init_0 (by decide +kernel))
theorem dA_init_8 : dn tA_init 8 (.newarray .byte) 2 10 := qr_188_8 (oW (K := 0) (r := 8) wi_A_init_0 (by decide +kernel))
theorem dA_init_10 : dn tA_init 10 (.putfield 9) 3 13 := qr_181 0 9 9 (oWd (K := 0) (r := 10) wi_A_init_0 (by decide +kernel))
theorem dA_init_13 : dl tA_init 13 .aload_n .aload 0 14 := qr_42 (oW (K := 0) (r := 13) wi_A_init_0 (by decide +kernel))
theorem dA_init_14 : dn tA_init 14 (.sipush 401) 3 17 := qr_17 1 145 401 (oWd (K := 0) (r := 14) wi_A_init_0 (by decide +kernel))
theorem dA_init_17 : dn tA_init 17 (.newarray .int) 2 19 := qr_188_10 (oW (K := 0) (r := 17) wi_A_init_0 (by decide +kernel))
theorem dA_init_19 : dn tA_init 19 (.putfield 15) 3 22 := qr_181 0 15 15 (oWd (K := 0) (r := 19) wi_A_init_0 (by decide +kernel))
theorem dA_init_22 : dl tA_init 22 .aload_n .aload 0 23 := qr_42 (oW (K := 0) (r := 22) wi_A_init_0 (by decide +kernel))
theorem dA_init_23 : dn tA_init 23 (.sipush 401) 3 26 := qr_17 1 145 401 (oWd (K := 0) (r := 23) wi_A_init_0 (by decide +kernel))
theorem dA_init_26 : dn tA_init 26 (.newarray .int) 2 28 := qr_188_10 (oW (K := 0) (r := 26) wi_A_init_0 (by decide +kernel))
theorem dA_init_28 : dn tA_init 28 (.putfield 19) 3 31 := qr_181 0 19 19 (oWd (K := 0) (r := 28) wi_A_init_0 (by decide +kernel))
theorem dA_init_31 : dl tA_init 31 .aload_n .aload 0 32 := qr_42 (oW (K := 0) (r := 31) wi_A_init_0 (by decide +kernel))
noncomputable def wl_A_init_32 : List Nat := [17, 1, 145, 188, 10, 181, 0, 22, 177]
theorem wi_A_init_32 : oC tA_init.2.1 32 wl_A_init_32 = true := by decide +kernel
theorem dA_init_32 : dn tA_init 32 (.sipush 401) 3 35 := qr_17 1 145 401 (oWd (K := 32) (r := 0) wi_A_init_32 (by decide +kernel))
theorem dA_init_35 : dn tA_init 35 (.newarray .int) 2 37 := qr_188_10 (oW (K := 32) (r := 3) wi_A_init_32 (by decide +kernel))
theorem dA_init_37 : dn tA_init 37 (.putfield 22) 3 40 := qr_181 0 22 22 (oWd (K := 32) (r := 5) wi_A_init_32 (by decide +kernel))
theorem dA_init_40 : dn tA_init 40 (.return_) 1 41 := qr_177 (oW (K := 32) (r := 8) wi_A_init_32 (by decide +kernel))
noncomputable def wl_O_init_0 : List Nat := [42, 183, 0, 3, 42, 187, 0, 9, 89, 16, 16, 8, 183, 0, 11, 181, 0, 14, 42, 187, 0, 9, 89, 17, 1, 144, 5, 183, 0, 11, 181, 0, 20, 42, 187, 0, 9, 89]
theorem wi_O_init_0 : oC tO_init.2.1 0 wl_O_init_0 = true := by decide +kernel
theorem dO_init_0 : dl tO_init 0 .aload_n .aload 0 1 := qr_42 (oW (K := 0) (r := 0) wi_O_init_0 (by decide +kernel))
theorem dO_init_1 : dn tO_init 1 (.invokespecial 3) 3 4 := qr_183 0 3 3 (oWd (K := 0) (r := 1) wi_O_init_0 (by decide +kernel))
theorem dO_init_4 : dl tO_init 4 .aload_n .aload 0 5 := qr_42 (oW (K := 0) (r := 4) wi_O_init_0 (by decide +kernel))
theorem dO_init_5 : dn tO_init 5 (.new 9) 3 8 := qr_187 0 9 9 (oWd (K := 0) (r := 5) wi_O_init_0 (by decide +kernel))
theorem dO_init_8 : dn tO_init 8 (.dup) 1 9 := qr_89 (oW (K := 0) (r := 8) wi_O_init_0 (by decide +kernel))
theorem dO_init_9 : dn tO_init 9 (.bipush 16) 2 11 := qr_16 16 16 (oWd (K := 0) (r := 9) wi_O_init_0 (by decide +kernel))
theorem dO_init_11 : dn tO_init 11 (.iconst 5) 1 12 := qr_8 (oW (K := 0) (r := 11) wi_O_init_0 (by decide +kernel))
theorem dO_init_12 : dn tO_init 12 (.invokespecial 11) 3 15 := qr_183 0 11 11 (oWd (K := 0) (r := 12) wi_O_init_0 (by decide +kernel))
theorem dO_init_15 : dn tO_init 15 (.putfield 14) 3 18 := qr_181 0 14 14 (oWd (K := 0) (r := 15) wi_O_init_0 (by decide +kernel))
theorem dO_init_18 : dl tO_init 18 .aload_n .aload 0 19 := qr_42 (oW (K := 0) (r := 18) wi_O_init_0 (by decide +kernel))
theorem dO_init_19 : dn tO_init 19 (.new 9) 3 22 := qr_187 0 9 9 (oWd (K := 0) (r := 19) wi_O_init_0 (by decide +kernel))
theorem dO_init_22 : dn tO_init 22 (.dup) 1 23 := qr_89 (oW (K := 0) (r := 22) wi_O_init_0 (by decide +kernel))
theorem dO_init_23 : dn tO_init 23 (.sipush 400) 3 26 := qr_17 1 144 400 (oWd (K := 0) (r := 23) wi_O_init_0 (by decide +kernel))
theorem dO_init_26 : dn tO_init 26 (.iconst 2) 1 27 := qr_5 (oW (K := 0) (r := 26) wi_O_init_0 (by decide +kernel))
theorem dO_init_27 : dn tO_init 27 (.invokespecial 11) 3 30 := qr_183 0 11 11 (oWd (K := 0) (r := 27) wi_O_init_0 (by decide +kernel))
theorem dO_init_30 : dn tO_init 30 (.putfield 20) 3 33 := qr_181 0 20 20 (oWd (K := 0) (r := 30) wi_O_init_0 (by decide +kernel))
noncomputable def wl_O_init_32 : List Nat := [20, 42, 187, 0, 9, 89, 16, 16, 8, 183, 0, 11, 181, 0, 23, 42, 187, 0, 9, 89, 16, 16, 8, 183, 0, 11, 181, 0, 26, 42, 187, 0, 9, 89, 16, 16, 8, 183]
theorem wi_O_init_32 : oC tO_init.2.1 32 wl_O_init_32 = true := by decide +kernel
theorem dO_init_33 : dl tO_init 33 .aload_n .aload 0 34 := qr_42 (oW (K := 32) (r := 1) wi_O_init_32 (by decide +kernel))
theorem dO_init_34 : dn tO_init 34 (.new 9) 3 37 := qr_187 0 9 9 (oWd (K := 32) (r := 2) wi_O_init_32 (by decide +kernel))
theorem dO_init_37 : dn tO_init 37 (.dup) 1 38 := qr_89 (oW (K := 32) (r := 5) wi_O_init_32 (by decide +kernel))
theorem dO_init_38 : dn tO_init 38 (.bipush 16) 2 40 := qr_16 16 16 (oWd (K := 32) (r := 6) wi_O_init_32 (by decide +kernel))
theorem dO_init_40 : dn tO_init 40 (.iconst 5) 1 41 := qr_8 (oW (K := 32) (r := 8) wi_O_init_32 (by decide +kernel))
theorem dO_init_41 : dn tO_init 41 (.invokespecial 11) 3 44 := qr_183 0 11 11 (oWd (K := 32) (r := 9) wi_O_init_32 (by decide +kernel))
theorem dO_init_44 : dn tO_init 44 (.putfield 23) 3 47 := qr_181 0 23 23 (oWd (K := 32) (r := 12) wi_O_init_32 (by decide +kernel))
theorem dO_init_47 : dl tO_init 47 .aload_n .aload 0 48 := qr_42 (oW (K := 32) (r := 15) wi_O_init_32 (by decide +kernel))
theorem dO_init_48 : dn tO_init 48 (.new 9) 3 51 := qr_187 0 9 9 (oWd (K := 32) (r := 16) wi_O_init_32 (by decide +kernel))
theorem dO_init_51 : dn tO_init 51 (.dup) 1 52 := qr_89 (oW (K := 32) (r := 19) wi_O_init_32 (by decide +kernel))
theorem dO_init_52 : dn tO_init 52 (.bipush 16) 2 54 := qr_16 16 16 (oWd (K := 32) (r := 20) wi_O_init_32 (by decide +kernel))
theorem dO_init_54 : dn tO_init 54 (.iconst 5) 1 55 := qr_8 (oW (K := 32) (r := 22) wi_O_init_32 (by decide +kernel))
theorem dO_init_55 : dn tO_init 55 (.invokespecial 11) 3 58 := qr_183 0 11 11 (oWd (K := 32) (r := 23) wi_O_init_32 (by decide +kernel))
theorem dO_init_58 : dn tO_init 58 (.putfield 26) 3 61 := qr_181 0 26 26 (oWd (K := 32) (r := 26) wi_O_init_32 (by decide +kernel))
theorem dO_init_61 : dl tO_init 61 .aload_n .aload 0 62 := qr_42 (oW (K := 32) (r := 29) wi_O_init_32 (by decide +kernel))
theorem dO_init_62 : dn tO_init 62 (.new 9) 3 65 := qr_187 0 9 9 (oWd (K := 32) (r := 30) wi_O_init_32 (by decide +kernel))
noncomputable def wl_O_init_64 : List Nat := [9, 89, 16, 16, 8, 183, 0, 11, 181, 0, 29, 42, 187, 0, 9, 89, 17, 0, 150, 7, 183, 0, 11, 181, 0, 32, 42, 187, 0, 9, 89, 16, 9, 4, 183, 0, 11, 181]
theorem wi_O_init_64 : oC tO_init.2.1 64 wl_O_init_64 = true := by decide +kernel
theorem dO_init_65 : dn tO_init 65 (.dup) 1 66 := qr_89 (oW (K := 64) (r := 1) wi_O_init_64 (by decide +kernel))
theorem dO_init_66 : dn tO_init 66 (.bipush 16) 2 68 := qr_16 16 16 (oWd (K := 64) (r := 2) wi_O_init_64 (by decide +kernel))
theorem dO_init_68 : dn tO_init 68 (.iconst 5) 1 69 := qr_8 (oW (K := 64) (r := 4) wi_O_init_64 (by decide +kernel))
theorem dO_init_69 : dn tO_init 69 (.invokespecial 11) 3 72 := qr_183 0 11 11 (oWd (K := 64) (r := 5) wi_O_init_64 (by decide +kernel))
theorem dO_init_72 : dn tO_init 72 (.putfield 29) 3 75 := qr_181 0 29 29 (oWd (K := 64) (r := 8) wi_O_init_64 (by decide +kernel))
theorem dO_init_75 : dl tO_init 75 .aload_n .aload 0 76 := qr_42 (oW (K := 64) (r := 11) wi_O_init_64 (by decide +kernel))
theorem dO_init_76 : dn tO_init 76 (.new 9) 3 79 := qr_187 0 9 9 (oWd (K := 64) (r := 12) wi_O_init_64 (by decide +kernel))
theorem dO_init_79 : dn tO_init 79 (.dup) 1 80 := qr_89 (oW (K := 64) (r := 15) wi_O_init_64 (by decide +kernel))
theorem dO_init_80 : dn tO_init 80 (.sipush 150) 3 83 := qr_17 0 150 150 (oWd (K := 64) (r := 16) wi_O_init_64 (by decide +kernel))
theorem dO_init_83 : dn tO_init 83 (.iconst 4) 1 84 := qr_7 (oW (K := 64) (r := 19) wi_O_init_64 (by decide +kernel))
theorem dO_init_84 : dn tO_init 84 (.invokespecial 11) 3 87 := qr_183 0 11 11 (oWd (K := 64) (r := 20) wi_O_init_64 (by decide +kernel))
theorem dO_init_87 : dn tO_init 87 (.putfield 32) 3 90 := qr_181 0 32 32 (oWd (K := 64) (r := 23) wi_O_init_64 (by decide +kernel))
theorem dO_init_90 : dl tO_init 90 .aload_n .aload 0 91 := qr_42 (oW (K := 64) (r := 26) wi_O_init_64 (by decide +kernel))
theorem dO_init_91 : dn tO_init 91 (.new 9) 3 94 := qr_187 0 9 9 (oWd (K := 64) (r := 27) wi_O_init_64 (by decide +kernel))
theorem dO_init_94 : dn tO_init 94 (.dup) 1 95 := qr_89 (oW (K := 64) (r := 30) wi_O_init_64 (by decide +kernel))
theorem dO_init_95 : dn tO_init 95 (.bipush 9) 2 97 := qr_16 9 9 (oWd (K := 64) (r := 31) wi_O_init_64 (by decide +kernel))
noncomputable def wl_O_init_96 : List Nat := [9, 4, 183, 0, 11, 181, 0, 35, 42, 187, 0, 9, 89, 16, 8, 4, 183, 0, 11, 181, 0, 40, 42, 187, 0, 9, 89, 8, 4, 183, 0, 11, 181, 0, 43, 42, 187, 0]
theorem wi_O_init_96 : oC tO_init.2.1 96 wl_O_init_96 = true := by decide +kernel
theorem dO_init_97 : dn tO_init 97 (.iconst 1) 1 98 := qr_4 (oW (K := 96) (r := 1) wi_O_init_96 (by decide +kernel))
theorem dO_init_98 : dn tO_init 98 (.invokespecial 11) 3 101 := qr_183 0 11 11 (oWd (K := 96) (r := 2) wi_O_init_96 (by decide +kernel))
theorem dO_init_101 : dn tO_init 101 (.putfield 35) 3 104 := qr_181 0 35 35 (oWd (K := 96) (r := 5) wi_O_init_96 (by decide +kernel))
theorem dO_init_104 : dl tO_init 104 .aload_n .aload 0 105 := qr_42 (oW (K := 96) (r := 8) wi_O_init_96 (by decide +kernel))
theorem dO_init_105 : dn tO_init 105 (.new 9) 3 108 := qr_187 0 9 9 (oWd (K := 96) (r := 9) wi_O_init_96 (by decide +kernel))
theorem dO_init_108 : dn tO_init 108 (.dup) 1 109 := qr_89 (oW (K := 96) (r := 12) wi_O_init_96 (by decide +kernel))
theorem dO_init_109 : dn tO_init 109 (.bipush 8) 2 111 := qr_16 8 8 (oWd (K := 96) (r := 13) wi_O_init_96 (by decide +kernel))
theorem dO_init_111 : dn tO_init 111 (.iconst 1) 1 112 := qr_4 (oW (K := 96) (r := 15) wi_O_init_96 (by decide +kernel))
theorem dO_init_112 : dn tO_init 112 (.invokespecial 11) 3 115 := qr_183 0 11 11 (oWd (K := 96) (r := 16) wi_O_init_96 (by decide +kernel))
theorem dO_init_115 : dn tO_init 115 (.putfield 40) 3 118 := qr_181 0 40 40 (oWd (K := 96) (r := 19) wi_O_init_96 (by decide +kernel))
theorem dO_init_118 : dl tO_init 118 .aload_n .aload 0 119 := qr_42 (oW (K := 96) (r := 22) wi_O_init_96 (by decide +kernel))
theorem dO_init_119 : dn tO_init 119 (.new 9) 3 122 := qr_187 0 9 9 (oWd (K := 96) (r := 23) wi_O_init_96 (by decide +kernel))
theorem dO_init_122 : dn tO_init 122 (.dup) 1 123 := qr_89 (oW (K := 96) (r := 26) wi_O_init_96 (by decide +kernel))
theorem dO_init_123 : dn tO_init 123 (.iconst 5) 1 124 := qr_8 (oW (K := 96) (r := 27) wi_O_init_96 (by decide +kernel))
theorem dO_init_124 : dn tO_init 124 (.iconst 1) 1 125 := qr_4 (oW (K := 96) (r := 28) wi_O_init_96 (by decide +kernel))
theorem dO_init_125 : dn tO_init 125 (.invokespecial 11) 3 128 := qr_183 0 11 11 (oWd (K := 96) (r := 29) wi_O_init_96 (by decide +kernel))
noncomputable def wl_O_init_128 : List Nat := [181, 0, 43, 42, 187, 0, 9, 89, 16, 8, 5, 183, 0, 11, 181, 0, 46, 42, 187, 0, 9, 89, 16, 16, 4, 183, 0, 11, 181, 0, 49, 42, 187, 0, 9, 89, 16, 6]
theorem wi_O_init_128 : oC tO_init.2.1 128 wl_O_init_128 = true := by decide +kernel
theorem dO_init_128 : dn tO_init 128 (.putfield 43) 3 131 := qr_181 0 43 43 (oWd (K := 128) (r := 0) wi_O_init_128 (by decide +kernel))
theorem dO_init_131 : dl tO_init 131 .aload_n .aload 0 132 := qr_42 (oW (K := 128) (r := 3) wi_O_init_128 (by decide +kernel))
theorem dO_init_132 : dn tO_init 132 (.new 9) 3 135 := qr_187 0 9 9 (oWd (K := 128) (r := 4) wi_O_init_128 (by decide +kernel))
theorem dO_init_135 : dn tO_init 135 (.dup) 1 136 := qr_89 (oW (K := 128) (r := 7) wi_O_init_128 (by decide +kernel))
theorem dO_init_136 : dn tO_init 136 (.bipush 8) 2 138 := qr_16 8 8 (oWd (K := 128) (r := 8) wi_O_init_128 (by decide +kernel))
theorem dO_init_138 : dn tO_init 138 (.iconst 2) 1 139 := qr_5 (oW (K := 128) (r := 10) wi_O_init_128 (by decide +kernel))
theorem dO_init_139 : dn tO_init 139 (.invokespecial 11) 3 142 := qr_183 0 11 11 (oWd (K := 128) (r := 11) wi_O_init_128 (by decide +kernel))
theorem dO_init_142 : dn tO_init 142 (.putfield 46) 3 145 := qr_181 0 46 46 (oWd (K := 128) (r := 14) wi_O_init_128 (by decide +kernel))
theorem dO_init_145 : dl tO_init 145 .aload_n .aload 0 146 := qr_42 (oW (K := 128) (r := 17) wi_O_init_128 (by decide +kernel))
theorem dO_init_146 : dn tO_init 146 (.new 9) 3 149 := qr_187 0 9 9 (oWd (K := 128) (r := 18) wi_O_init_128 (by decide +kernel))
theorem dO_init_149 : dn tO_init 149 (.dup) 1 150 := qr_89 (oW (K := 128) (r := 21) wi_O_init_128 (by decide +kernel))
theorem dO_init_150 : dn tO_init 150 (.bipush 16) 2 152 := qr_16 16 16 (oWd (K := 128) (r := 22) wi_O_init_128 (by decide +kernel))
theorem dO_init_152 : dn tO_init 152 (.iconst 1) 1 153 := qr_4 (oW (K := 128) (r := 24) wi_O_init_128 (by decide +kernel))
theorem dO_init_153 : dn tO_init 153 (.invokespecial 11) 3 156 := qr_183 0 11 11 (oWd (K := 128) (r := 25) wi_O_init_128 (by decide +kernel))
theorem dO_init_156 : dn tO_init 156 (.putfield 49) 3 159 := qr_181 0 49 49 (oWd (K := 128) (r := 28) wi_O_init_128 (by decide +kernel))
theorem dO_init_159 : dl tO_init 159 .aload_n .aload 0 160 := qr_42 (oW (K := 128) (r := 31) wi_O_init_128 (by decide +kernel))
noncomputable def wl_O_init_160 : List Nat := [187, 0, 9, 89, 16, 6, 5, 183, 0, 11, 181, 0, 52, 42, 187, 0, 9, 89, 16, 12, 5, 183, 0, 11, 181, 0, 55, 42, 187, 0, 9, 89, 16, 8, 5, 183, 0, 11]
theorem wi_O_init_160 : oC tO_init.2.1 160 wl_O_init_160 = true := by decide +kernel
theorem dO_init_160 : dn tO_init 160 (.new 9) 3 163 := qr_187 0 9 9 (oWd (K := 160) (r := 0) wi_O_init_160 (by decide +kernel))
theorem dO_init_163 : dn tO_init 163 (.dup) 1 164 := qr_89 (oW (K := 160) (r := 3) wi_O_init_160 (by decide +kernel))
theorem dO_init_164 : dn tO_init 164 (.bipush 6) 2 166 := qr_16 6 6 (oWd (K := 160) (r := 4) wi_O_init_160 (by decide +kernel))
theorem dO_init_166 : dn tO_init 166 (.iconst 2) 1 167 := qr_5 (oW (K := 160) (r := 6) wi_O_init_160 (by decide +kernel))
theorem dO_init_167 : dn tO_init 167 (.invokespecial 11) 3 170 := qr_183 0 11 11 (oWd (K := 160) (r := 7) wi_O_init_160 (by decide +kernel))
theorem dO_init_170 : dn tO_init 170 (.putfield 52) 3 173 := qr_181 0 52 52 (oWd (K := 160) (r := 10) wi_O_init_160 (by decide +kernel))
theorem dO_init_173 : dl tO_init 173 .aload_n .aload 0 174 := qr_42 (oW (K := 160) (r := 13) wi_O_init_160 (by decide +kernel))
theorem dO_init_174 : dn tO_init 174 (.new 9) 3 177 := qr_187 0 9 9 (oWd (K := 160) (r := 14) wi_O_init_160 (by decide +kernel))
theorem dO_init_177 : dn tO_init 177 (.dup) 1 178 := qr_89 (oW (K := 160) (r := 17) wi_O_init_160 (by decide +kernel))
theorem dO_init_178 : dn tO_init 178 (.bipush 12) 2 180 := qr_16 12 12 (oWd (K := 160) (r := 18) wi_O_init_160 (by decide +kernel))
theorem dO_init_180 : dn tO_init 180 (.iconst 2) 1 181 := qr_5 (oW (K := 160) (r := 20) wi_O_init_160 (by decide +kernel))
theorem dO_init_181 : dn tO_init 181 (.invokespecial 11) 3 184 := qr_183 0 11 11 (oWd (K := 160) (r := 21) wi_O_init_160 (by decide +kernel))
theorem dO_init_184 : dn tO_init 184 (.putfield 55) 3 187 := qr_181 0 55 55 (oWd (K := 160) (r := 24) wi_O_init_160 (by decide +kernel))
theorem dO_init_187 : dl tO_init 187 .aload_n .aload 0 188 := qr_42 (oW (K := 160) (r := 27) wi_O_init_160 (by decide +kernel))
theorem dO_init_188 : dn tO_init 188 (.new 9) 3 191 := qr_187 0 9 9 (oWd (K := 160) (r := 28) wi_O_init_160 (by decide +kernel))
theorem dO_init_191 : dn tO_init 191 (.dup) 1 192 := qr_89 (oW (K := 160) (r := 31) wi_O_init_160 (by decide +kernel))
noncomputable def wl_O_init_192 : List Nat := [16, 8, 5, 183, 0, 11, 181, 0, 58, 177]
theorem wi_O_init_192 : oC tO_init.2.1 192 wl_O_init_192 = true := by decide +kernel
theorem dO_init_192 : dn tO_init 192 (.bipush 8) 2 194 := qr_16 8 8 (oWd (K := 192) (r := 0) wi_O_init_192 (by decide +kernel))
theorem dO_init_194 : dn tO_init 194 (.iconst 2) 1 195 := qr_5 (oW (K := 192) (r := 2) wi_O_init_192 (by decide +kernel))
theorem dO_init_195 : dn tO_init 195 (.invokespecial 11) 3 198 := qr_183 0 11 11 (oWd (K := 192) (r := 3) wi_O_init_192 (by decide +kernel))
theorem dO_init_198 : dn tO_init 198 (.putfield 58) 3 201 := qr_181 0 58 58 (oWd (K := 192) (r := 6) wi_O_init_192 (by decide +kernel))
theorem dO_init_201 : dn tO_init 201 (.return_) 1 202 := qr_177 (oW (K := 192) (r := 9) wi_O_init_192 (by decide +kernel))
noncomputable def wl_m_init_0 : List Nat := [42, 183, 0, 1, 42, 16, 115, 188, 10, 181, 0, 7, 42, 17, 2, 178, 188, 10, 181, 0, 13, 42, 16, 115, 188, 10, 181, 0, 16, 42, 16, 12, 188, 10, 181, 0, 19, 42]
theorem wi_m_init_0 : oC tm_init.2.1 0 wl_m_init_0 = true := by decide +kernel
theorem dm_init_0 : dl tm_init 0 .aload_n .aload 0 1 := qr_42 (oW (K := 0) (r := 0) wi_m_init_0 (by decide +kernel))
theorem dm_init_1 : dn tm_init 1 (.invokespecial 1) 3 4 := qr_183 0 1 1 (oWd (K := 0) (r := 1) wi_m_init_0 (by decide +kernel))
theorem dm_init_4 : dl tm_init 4 .aload_n .aload 0 5 := qr_42 (oW (K := 0) (r := 4) wi_m_init_0 (by decide +kernel))
theorem dm_init_5 : dn tm_init 5 (.bipush 115) 2 7 := qr_16 115 115 (oWd (K := 0) (r := 5) wi_m_init_0 (by decide +kernel))
theorem dm_init_7 : dn tm_init 7 (.newarray .int) 2 9 := qr_188_10 (oW (K := 0) (r := 7) wi_m_init_0 (by decide +kernel))
theorem dm_init_9 : dn tm_init 9 (.putfield 7) 3 12 := qr_181 0 7 7 (oWd (K := 0) (r := 9) wi_m_init_0 (by decide +kernel))
theorem dm_init_12 : dl tm_init 12 .aload_n .aload 0 13 := qr_42 (oW (K := 0) (r := 12) wi_m_init_0 (by decide +kernel))
theorem dm_init_13 : dn tm_init 13 (.sipush 690) 3 16 := qr_17 2 178 690 (oWd (K := 0) (r := 13) wi_m_init_0 (by decide +kernel))
theorem dm_init_16 : dn tm_init 16 (.newarray .int) 2 18 := qr_188_10 (oW (K := 0) (r := 16) wi_m_init_0 (by decide +kernel))
theorem dm_init_18 : dn tm_init 18 (.putfield 13) 3 21 := qr_181 0 13 13 (oWd (K := 0) (r := 18) wi_m_init_0 (by decide +kernel))
theorem dm_init_21 : dl tm_init 21 .aload_n .aload 0 22 := qr_42 (oW (K := 0) (r := 21) wi_m_init_0 (by decide +kernel))
theorem dm_init_22 : dn tm_init 22 (.bipush 115) 2 24 := qr_16 115 115 (oWd (K := 0) (r := 22) wi_m_init_0 (by decide +kernel))
theorem dm_init_24 : dn tm_init 24 (.newarray .int) 2 26 := qr_188_10 (oW (K := 0) (r := 24) wi_m_init_0 (by decide +kernel))
theorem dm_init_26 : dn tm_init 26 (.putfield 16) 3 29 := qr_181 0 16 16 (oWd (K := 0) (r := 26) wi_m_init_0 (by decide +kernel))
theorem dm_init_29 : dl tm_init 29 .aload_n .aload 0 30 := qr_42 (oW (K := 0) (r := 29) wi_m_init_0 (by decide +kernel))
theorem dm_init_30 : dn tm_init 30 (.bipush 12) 2 32 := qr_16 12 12 (oWd (K := 0) (r := 30) wi_m_init_0 (by decide +kernel))
noncomputable def wl_m_init_32 : List Nat := [188, 10, 181, 0, 19, 42, 16, 12, 188, 10, 181, 0, 22, 42, 17, 2, 88, 188, 10, 181, 0, 25, 42, 17, 1, 144, 188, 10, 181, 0, 28, 42, 17, 0, 141, 188, 10, 89]
theorem wi_m_init_32 : oC tm_init.2.1 32 wl_m_init_32 = true := by decide +kernel
theorem dm_init_32 : dn tm_init 32 (.newarray .int) 2 34 := qr_188_10 (oW (K := 32) (r := 0) wi_m_init_32 (by decide +kernel))
theorem dm_init_34 : dn tm_init 34 (.putfield 19) 3 37 := qr_181 0 19 19 (oWd (K := 32) (r := 2) wi_m_init_32 (by decide +kernel))
theorem dm_init_37 : dl tm_init 37 .aload_n .aload 0 38 := qr_42 (oW (K := 32) (r := 5) wi_m_init_32 (by decide +kernel))
theorem dm_init_38 : dn tm_init 38 (.bipush 12) 2 40 := qr_16 12 12 (oWd (K := 32) (r := 6) wi_m_init_32 (by decide +kernel))
theorem dm_init_40 : dn tm_init 40 (.newarray .int) 2 42 := qr_188_10 (oW (K := 32) (r := 8) wi_m_init_32 (by decide +kernel))
theorem dm_init_42 : dn tm_init 42 (.putfield 22) 3 45 := qr_181 0 22 22 (oWd (K := 32) (r := 10) wi_m_init_32 (by decide +kernel))
theorem dm_init_45 : dl tm_init 45 .aload_n .aload 0 46 := qr_42 (oW (K := 32) (r := 13) wi_m_init_32 (by decide +kernel))
theorem dm_init_46 : dn tm_init 46 (.sipush 600) 3 49 := qr_17 2 88 600 (oWd (K := 32) (r := 14) wi_m_init_32 (by decide +kernel))
theorem dm_init_49 : dn tm_init 49 (.newarray .int) 2 51 := qr_188_10 (oW (K := 32) (r := 17) wi_m_init_32 (by decide +kernel))
theorem dm_init_51 : dn tm_init 51 (.putfield 25) 3 54 := qr_181 0 25 25 (oWd (K := 32) (r := 19) wi_m_init_32 (by decide +kernel))
theorem dm_init_54 : dl tm_init 54 .aload_n .aload 0 55 := qr_42 (oW (K := 32) (r := 22) wi_m_init_32 (by decide +kernel))
theorem dm_init_55 : dn tm_init 55 (.sipush 400) 3 58 := qr_17 1 144 400 (oWd (K := 32) (r := 23) wi_m_init_32 (by decide +kernel))
theorem dm_init_58 : dn tm_init 58 (.newarray .int) 2 60 := qr_188_10 (oW (K := 32) (r := 26) wi_m_init_32 (by decide +kernel))
theorem dm_init_60 : dn tm_init 60 (.putfield 28) 3 63 := qr_181 0 28 28 (oWd (K := 32) (r := 28) wi_m_init_32 (by decide +kernel))
theorem dm_init_63 : dl tm_init 63 .aload_n .aload 0 64 := qr_42 (oW (K := 32) (r := 31) wi_m_init_32 (by decide +kernel))
noncomputable def wl_m_init_64 : List Nat := [17, 0, 141, 188, 10, 89, 3, 16, 32, 79, 89, 4, 16, 114, 79, 89, 5, 16, 101, 79, 89, 6, 16, 110, 79, 89, 7, 16, 116, 79, 89, 8, 16, 32, 79, 89, 16, 6]
theorem wi_m_init_64 : oC tm_init.2.1 64 wl_m_init_64 = true := by decide +kernel
theorem dm_init_64 : dn tm_init 64 (.sipush 141) 3 67 := qr_17 0 141 141 (oWd (K := 64) (r := 0) wi_m_init_64 (by decide +kernel))
theorem dm_init_67 : dn tm_init 67 (.newarray .int) 2 69 := qr_188_10 (oW (K := 64) (r := 3) wi_m_init_64 (by decide +kernel))
theorem dm_init_69 : dn tm_init 69 (.dup) 1 70 := qr_89 (oW (K := 64) (r := 5) wi_m_init_64 (by decide +kernel))
theorem dm_init_70 : dn tm_init 70 (.iconst 0) 1 71 := qr_3 (oW (K := 64) (r := 6) wi_m_init_64 (by decide +kernel))
theorem dm_init_71 : dn tm_init 71 (.bipush 32) 2 73 := qr_16 32 32 (oWd (K := 64) (r := 7) wi_m_init_64 (by decide +kernel))
theorem dm_init_73 : dn tm_init 73 (.iastore) 1 74 := qr_79 (oW (K := 64) (r := 9) wi_m_init_64 (by decide +kernel))
theorem dm_init_74 : dn tm_init 74 (.dup) 1 75 := qr_89 (oW (K := 64) (r := 10) wi_m_init_64 (by decide +kernel))
theorem dm_init_75 : dn tm_init 75 (.iconst 1) 1 76 := qr_4 (oW (K := 64) (r := 11) wi_m_init_64 (by decide +kernel))
theorem dm_init_76 : dn tm_init 76 (.bipush 114) 2 78 := qr_16 114 114 (oWd (K := 64) (r := 12) wi_m_init_64 (by decide +kernel))
theorem dm_init_78 : dn tm_init 78 (.iastore) 1 79 := qr_79 (oW (K := 64) (r := 14) wi_m_init_64 (by decide +kernel))
theorem dm_init_79 : dn tm_init 79 (.dup) 1 80 := qr_89 (oW (K := 64) (r := 15) wi_m_init_64 (by decide +kernel))
theorem dm_init_80 : dn tm_init 80 (.iconst 2) 1 81 := qr_5 (oW (K := 64) (r := 16) wi_m_init_64 (by decide +kernel))
theorem dm_init_81 : dn tm_init 81 (.bipush 101) 2 83 := qr_16 101 101 (oWd (K := 64) (r := 17) wi_m_init_64 (by decide +kernel))
theorem dm_init_83 : dn tm_init 83 (.iastore) 1 84 := qr_79 (oW (K := 64) (r := 19) wi_m_init_64 (by decide +kernel))
theorem dm_init_84 : dn tm_init 84 (.dup) 1 85 := qr_89 (oW (K := 64) (r := 20) wi_m_init_64 (by decide +kernel))
theorem dm_init_85 : dn tm_init 85 (.iconst 3) 1 86 := qr_6 (oW (K := 64) (r := 21) wi_m_init_64 (by decide +kernel))
theorem dm_init_86 : dn tm_init 86 (.bipush 110) 2 88 := qr_16 110 110 (oWd (K := 64) (r := 22) wi_m_init_64 (by decide +kernel))
theorem dm_init_88 : dn tm_init 88 (.iastore) 1 89 := qr_79 (oW (K := 64) (r := 24) wi_m_init_64 (by decide +kernel))
theorem dm_init_89 : dn tm_init 89 (.dup) 1 90 := qr_89 (oW (K := 64) (r := 25) wi_m_init_64 (by decide +kernel))
theorem dm_init_90 : dn tm_init 90 (.iconst 4) 1 91 := qr_7 (oW (K := 64) (r := 26) wi_m_init_64 (by decide +kernel))
theorem dm_init_91 : dn tm_init 91 (.bipush 116) 2 93 := qr_16 116 116 (oWd (K := 64) (r := 27) wi_m_init_64 (by decide +kernel))
theorem dm_init_93 : dn tm_init 93 (.iastore) 1 94 := qr_79 (oW (K := 64) (r := 29) wi_m_init_64 (by decide +kernel))
theorem dm_init_94 : dn tm_init 94 (.dup) 1 95 := qr_89 (oW (K := 64) (r := 30) wi_m_init_64 (by decide +kernel))
theorem dm_init_95 : dn tm_init 95 (.iconst 5) 1 96 := qr_8 (oW (K := 64) (r := 31) wi_m_init_64 (by decide +kernel))
noncomputable def wl_m_init_96 : List Nat := [16, 32, 79, 89, 16, 6, 16, 103, 79, 89, 16, 7, 16, 110, 79, 89, 16, 8, 16, 97, 79, 89, 16, 9, 16, 119, 79, 89, 16, 10, 16, 115, 79, 89, 16, 11, 16, 32]
theorem wi_m_init_96 : oC tm_init.2.1 96 wl_m_init_96 = true := by decide +kernel
theorem dm_init_96 : dn tm_init 96 (.bipush 32) 2 98 := qr_16 32 32 (oWd (K := 96) (r := 0) wi_m_init_96 (by decide +kernel))
theorem dm_init_98 : dn tm_init 98 (.iastore) 1 99 := qr_79 (oW (K := 96) (r := 2) wi_m_init_96 (by decide +kernel))
theorem dm_init_99 : dn tm_init 99 (.dup) 1 100 := qr_89 (oW (K := 96) (r := 3) wi_m_init_96 (by decide +kernel))
theorem dm_init_100 : dn tm_init 100 (.bipush 6) 2 102 := qr_16 6 6 (oWd (K := 96) (r := 4) wi_m_init_96 (by decide +kernel))
theorem dm_init_102 : dn tm_init 102 (.bipush 103) 2 104 := qr_16 103 103 (oWd (K := 96) (r := 6) wi_m_init_96 (by decide +kernel))
theorem dm_init_104 : dn tm_init 104 (.iastore) 1 105 := qr_79 (oW (K := 96) (r := 8) wi_m_init_96 (by decide +kernel))
theorem dm_init_105 : dn tm_init 105 (.dup) 1 106 := qr_89 (oW (K := 96) (r := 9) wi_m_init_96 (by decide +kernel))
theorem dm_init_106 : dn tm_init 106 (.bipush 7) 2 108 := qr_16 7 7 (oWd (K := 96) (r := 10) wi_m_init_96 (by decide +kernel))
theorem dm_init_108 : dn tm_init 108 (.bipush 110) 2 110 := qr_16 110 110 (oWd (K := 96) (r := 12) wi_m_init_96 (by decide +kernel))
theorem dm_init_110 : dn tm_init 110 (.iastore) 1 111 := qr_79 (oW (K := 96) (r := 14) wi_m_init_96 (by decide +kernel))
theorem dm_init_111 : dn tm_init 111 (.dup) 1 112 := qr_89 (oW (K := 96) (r := 15) wi_m_init_96 (by decide +kernel))
theorem dm_init_112 : dn tm_init 112 (.bipush 8) 2 114 := qr_16 8 8 (oWd (K := 96) (r := 16) wi_m_init_96 (by decide +kernel))
theorem dm_init_114 : dn tm_init 114 (.bipush 97) 2 116 := qr_16 97 97 (oWd (K := 96) (r := 18) wi_m_init_96 (by decide +kernel))
theorem dm_init_116 : dn tm_init 116 (.iastore) 1 117 := qr_79 (oW (K := 96) (r := 20) wi_m_init_96 (by decide +kernel))
theorem dm_init_117 : dn tm_init 117 (.dup) 1 118 := qr_89 (oW (K := 96) (r := 21) wi_m_init_96 (by decide +kernel))
theorem dm_init_118 : dn tm_init 118 (.bipush 9) 2 120 := qr_16 9 9 (oWd (K := 96) (r := 22) wi_m_init_96 (by decide +kernel))
theorem dm_init_120 : dn tm_init 120 (.bipush 119) 2 122 := qr_16 119 119 (oWd (K := 96) (r := 24) wi_m_init_96 (by decide +kernel))
theorem dm_init_122 : dn tm_init 122 (.iastore) 1 123 := qr_79 (oW (K := 96) (r := 26) wi_m_init_96 (by decide +kernel))
theorem dm_init_123 : dn tm_init 123 (.dup) 1 124 := qr_89 (oW (K := 96) (r := 27) wi_m_init_96 (by decide +kernel))
theorem dm_init_124 : dn tm_init 124 (.bipush 10) 2 126 := qr_16 10 10 (oWd (K := 96) (r := 28) wi_m_init_96 (by decide +kernel))
theorem dm_init_126 : dn tm_init 126 (.bipush 115) 2 128 := qr_16 115 115 (oWd (K := 96) (r := 30) wi_m_init_96 (by decide +kernel))
noncomputable def wl_m_init_128 : List Nat := [79, 89, 16, 11, 16, 32, 79, 89, 16, 12, 16, 109, 79, 89, 16, 13, 16, 101, 79, 89, 16, 14, 16, 108, 79, 89, 16, 15, 16, 116, 79, 89, 16, 16, 16, 115, 79, 89]
theorem wi_m_init_128 : oC tm_init.2.1 128 wl_m_init_128 = true := by decide +kernel
theorem dm_init_128 : dn tm_init 128 (.iastore) 1 129 := qr_79 (oW (K := 128) (r := 0) wi_m_init_128 (by decide +kernel))
theorem dm_init_129 : dn tm_init 129 (.dup) 1 130 := qr_89 (oW (K := 128) (r := 1) wi_m_init_128 (by decide +kernel))
theorem dm_init_130 : dn tm_init 130 (.bipush 11) 2 132 := qr_16 11 11 (oWd (K := 128) (r := 2) wi_m_init_128 (by decide +kernel))
theorem dm_init_132 : dn tm_init 132 (.bipush 32) 2 134 := qr_16 32 32 (oWd (K := 128) (r := 4) wi_m_init_128 (by decide +kernel))
theorem dm_init_134 : dn tm_init 134 (.iastore) 1 135 := qr_79 (oW (K := 128) (r := 6) wi_m_init_128 (by decide +kernel))
theorem dm_init_135 : dn tm_init 135 (.dup) 1 136 := qr_89 (oW (K := 128) (r := 7) wi_m_init_128 (by decide +kernel))
theorem dm_init_136 : dn tm_init 136 (.bipush 12) 2 138 := qr_16 12 12 (oWd (K := 128) (r := 8) wi_m_init_128 (by decide +kernel))
theorem dm_init_138 : dn tm_init 138 (.bipush 109) 2 140 := qr_16 109 109 (oWd (K := 128) (r := 10) wi_m_init_128 (by decide +kernel))
theorem dm_init_140 : dn tm_init 140 (.iastore) 1 141 := qr_79 (oW (K := 128) (r := 12) wi_m_init_128 (by decide +kernel))
theorem dm_init_141 : dn tm_init 141 (.dup) 1 142 := qr_89 (oW (K := 128) (r := 13) wi_m_init_128 (by decide +kernel))
theorem dm_init_142 : dn tm_init 142 (.bipush 13) 2 144 := qr_16 13 13 (oWd (K := 128) (r := 14) wi_m_init_128 (by decide +kernel))
theorem dm_init_144 : dn tm_init 144 (.bipush 101) 2 146 := qr_16 101 101 (oWd (K := 128) (r := 16) wi_m_init_128 (by decide +kernel))
theorem dm_init_146 : dn tm_init 146 (.iastore) 1 147 := qr_79 (oW (K := 128) (r := 18) wi_m_init_128 (by decide +kernel))
theorem dm_init_147 : dn tm_init 147 (.dup) 1 148 := qr_89 (oW (K := 128) (r := 19) wi_m_init_128 (by decide +kernel))
theorem dm_init_148 : dn tm_init 148 (.bipush 14) 2 150 := qr_16 14 14 (oWd (K := 128) (r := 20) wi_m_init_128 (by decide +kernel))
theorem dm_init_150 : dn tm_init 150 (.bipush 108) 2 152 := qr_16 108 108 (oWd (K := 128) (r := 22) wi_m_init_128 (by decide +kernel))
theorem dm_init_152 : dn tm_init 152 (.iastore) 1 153 := qr_79 (oW (K := 128) (r := 24) wi_m_init_128 (by decide +kernel))
theorem dm_init_153 : dn tm_init 153 (.dup) 1 154 := qr_89 (oW (K := 128) (r := 25) wi_m_init_128 (by decide +kernel))
theorem dm_init_154 : dn tm_init 154 (.bipush 15) 2 156 := qr_16 15 15 (oWd (K := 128) (r := 26) wi_m_init_128 (by decide +kernel))
theorem dm_init_156 : dn tm_init 156 (.bipush 116) 2 158 := qr_16 116 116 (oWd (K := 128) (r := 28) wi_m_init_128 (by decide +kernel))
theorem dm_init_158 : dn tm_init 158 (.iastore) 1 159 := qr_79 (oW (K := 128) (r := 30) wi_m_init_128 (by decide +kernel))
theorem dm_init_159 : dn tm_init 159 (.dup) 1 160 := qr_89 (oW (K := 128) (r := 31) wi_m_init_128 (by decide +kernel))
noncomputable def wl_m_init_160 : List Nat := [16, 16, 16, 115, 79, 89, 16, 17, 16, 32, 79, 89, 16, 18, 16, 119, 79, 89, 16, 19, 16, 104, 79, 89, 16, 20, 16, 101, 79, 89, 16, 21, 16, 110, 79, 89, 16, 22]
theorem wi_m_init_160 : oC tm_init.2.1 160 wl_m_init_160 = true := by decide +kernel
theorem dm_init_160 : dn tm_init 160 (.bipush 16) 2 162 := qr_16 16 16 (oWd (K := 160) (r := 0) wi_m_init_160 (by decide +kernel))
theorem dm_init_162 : dn tm_init 162 (.bipush 115) 2 164 := qr_16 115 115 (oWd (K := 160) (r := 2) wi_m_init_160 (by decide +kernel))
theorem dm_init_164 : dn tm_init 164 (.iastore) 1 165 := qr_79 (oW (K := 160) (r := 4) wi_m_init_160 (by decide +kernel))
theorem dm_init_165 : dn tm_init 165 (.dup) 1 166 := qr_89 (oW (K := 160) (r := 5) wi_m_init_160 (by decide +kernel))
theorem dm_init_166 : dn tm_init 166 (.bipush 17) 2 168 := qr_16 17 17 (oWd (K := 160) (r := 6) wi_m_init_160 (by decide +kernel))
theorem dm_init_168 : dn tm_init 168 (.bipush 32) 2 170 := qr_16 32 32 (oWd (K := 160) (r := 8) wi_m_init_160 (by decide +kernel))
theorem dm_init_170 : dn tm_init 170 (.iastore) 1 171 := qr_79 (oW (K := 160) (r := 10) wi_m_init_160 (by decide +kernel))
theorem dm_init_171 : dn tm_init 171 (.dup) 1 172 := qr_89 (oW (K := 160) (r := 11) wi_m_init_160 (by decide +kernel))
theorem dm_init_172 : dn tm_init 172 (.bipush 18) 2 174 := qr_16 18 18 (oWd (K := 160) (r := 12) wi_m_init_160 (by decide +kernel))
theorem dm_init_174 : dn tm_init 174 (.bipush 119) 2 176 := qr_16 119 119 (oWd (K := 160) (r := 14) wi_m_init_160 (by decide +kernel))
theorem dm_init_176 : dn tm_init 176 (.iastore) 1 177 := qr_79 (oW (K := 160) (r := 16) wi_m_init_160 (by decide +kernel))
theorem dm_init_177 : dn tm_init 177 (.dup) 1 178 := qr_89 (oW (K := 160) (r := 17) wi_m_init_160 (by decide +kernel))
theorem dm_init_178 : dn tm_init 178 (.bipush 19) 2 180 := qr_16 19 19 (oWd (K := 160) (r := 18) wi_m_init_160 (by decide +kernel))
theorem dm_init_180 : dn tm_init 180 (.bipush 104) 2 182 := qr_16 104 104 (oWd (K := 160) (r := 20) wi_m_init_160 (by decide +kernel))
theorem dm_init_182 : dn tm_init 182 (.iastore) 1 183 := qr_79 (oW (K := 160) (r := 22) wi_m_init_160 (by decide +kernel))
theorem dm_init_183 : dn tm_init 183 (.dup) 1 184 := qr_89 (oW (K := 160) (r := 23) wi_m_init_160 (by decide +kernel))
theorem dm_init_184 : dn tm_init 184 (.bipush 20) 2 186 := qr_16 20 20 (oWd (K := 160) (r := 24) wi_m_init_160 (by decide +kernel))
theorem dm_init_186 : dn tm_init 186 (.bipush 101) 2 188 := qr_16 101 101 (oWd (K := 160) (r := 26) wi_m_init_160 (by decide +kernel))
theorem dm_init_188 : dn tm_init 188 (.iastore) 1 189 := qr_79 (oW (K := 160) (r := 28) wi_m_init_160 (by decide +kernel))
theorem dm_init_189 : dn tm_init 189 (.dup) 1 190 := qr_89 (oW (K := 160) (r := 29) wi_m_init_160 (by decide +kernel))
theorem dm_init_190 : dn tm_init 190 (.bipush 21) 2 192 := qr_16 21 21 (oWd (K := 160) (r := 30) wi_m_init_160 (by decide +kernel))
noncomputable def wl_m_init_192 : List Nat := [16, 110, 79, 89, 16, 22, 16, 32, 79, 89, 16, 23, 16, 111, 79, 89, 16, 24, 16, 114, 79, 89, 16, 25, 16, 32, 79, 89, 16, 26, 16, 97, 79, 89, 16, 27, 16, 110]
theorem wi_m_init_192 : oC tm_init.2.1 192 wl_m_init_192 = true := by decide +kernel
theorem dm_init_192 : dn tm_init 192 (.bipush 110) 2 194 := qr_16 110 110 (oWd (K := 192) (r := 0) wi_m_init_192 (by decide +kernel))
theorem dm_init_194 : dn tm_init 194 (.iastore) 1 195 := qr_79 (oW (K := 192) (r := 2) wi_m_init_192 (by decide +kernel))
theorem dm_init_195 : dn tm_init 195 (.dup) 1 196 := qr_89 (oW (K := 192) (r := 3) wi_m_init_192 (by decide +kernel))
theorem dm_init_196 : dn tm_init 196 (.bipush 22) 2 198 := qr_16 22 22 (oWd (K := 192) (r := 4) wi_m_init_192 (by decide +kernel))
theorem dm_init_198 : dn tm_init 198 (.bipush 32) 2 200 := qr_16 32 32 (oWd (K := 192) (r := 6) wi_m_init_192 (by decide +kernel))
theorem dm_init_200 : dn tm_init 200 (.iastore) 1 201 := qr_79 (oW (K := 192) (r := 8) wi_m_init_192 (by decide +kernel))
theorem dm_init_201 : dn tm_init 201 (.dup) 1 202 := qr_89 (oW (K := 192) (r := 9) wi_m_init_192 (by decide +kernel))
theorem dm_init_202 : dn tm_init 202 (.bipush 23) 2 204 := qr_16 23 23 (oWd (K := 192) (r := 10) wi_m_init_192 (by decide +kernel))
theorem dm_init_204 : dn tm_init 204 (.bipush 111) 2 206 := qr_16 111 111 (oWd (K := 192) (r := 12) wi_m_init_192 (by decide +kernel))
theorem dm_init_206 : dn tm_init 206 (.iastore) 1 207 := qr_79 (oW (K := 192) (r := 14) wi_m_init_192 (by decide +kernel))
theorem dm_init_207 : dn tm_init 207 (.dup) 1 208 := qr_89 (oW (K := 192) (r := 15) wi_m_init_192 (by decide +kernel))
theorem dm_init_208 : dn tm_init 208 (.bipush 24) 2 210 := qr_16 24 24 (oWd (K := 192) (r := 16) wi_m_init_192 (by decide +kernel))
theorem dm_init_210 : dn tm_init 210 (.bipush 114) 2 212 := qr_16 114 114 (oWd (K := 192) (r := 18) wi_m_init_192 (by decide +kernel))
theorem dm_init_212 : dn tm_init 212 (.iastore) 1 213 := qr_79 (oW (K := 192) (r := 20) wi_m_init_192 (by decide +kernel))
theorem dm_init_213 : dn tm_init 213 (.dup) 1 214 := qr_89 (oW (K := 192) (r := 21) wi_m_init_192 (by decide +kernel))
theorem dm_init_214 : dn tm_init 214 (.bipush 25) 2 216 := qr_16 25 25 (oWd (K := 192) (r := 22) wi_m_init_192 (by decide +kernel))
theorem dm_init_216 : dn tm_init 216 (.bipush 32) 2 218 := qr_16 32 32 (oWd (K := 192) (r := 24) wi_m_init_192 (by decide +kernel))
theorem dm_init_218 : dn tm_init 218 (.iastore) 1 219 := qr_79 (oW (K := 192) (r := 26) wi_m_init_192 (by decide +kernel))
theorem dm_init_219 : dn tm_init 219 (.dup) 1 220 := qr_89 (oW (K := 192) (r := 27) wi_m_init_192 (by decide +kernel))
theorem dm_init_220 : dn tm_init 220 (.bipush 26) 2 222 := qr_16 26 26 (oWd (K := 192) (r := 28) wi_m_init_192 (by decide +kernel))
theorem dm_init_222 : dn tm_init 222 (.bipush 97) 2 224 := qr_16 97 97 (oWd (K := 192) (r := 30) wi_m_init_192 (by decide +kernel))
noncomputable def wl_m_init_224 : List Nat := [79, 89, 16, 27, 16, 110, 79, 89, 16, 28, 16, 100, 79, 89, 16, 29, 16, 32, 79, 89, 16, 30, 16, 110, 79, 89, 16, 31, 16, 111, 79, 89, 16, 32, 16, 116, 79, 89]
theorem wi_m_init_224 : oC tm_init.2.1 224 wl_m_init_224 = true := by decide +kernel
theorem dm_init_224 : dn tm_init 224 (.iastore) 1 225 := qr_79 (oW (K := 224) (r := 0) wi_m_init_224 (by decide +kernel))
theorem dm_init_225 : dn tm_init 225 (.dup) 1 226 := qr_89 (oW (K := 224) (r := 1) wi_m_init_224 (by decide +kernel))
theorem dm_init_226 : dn tm_init 226 (.bipush 27) 2 228 := qr_16 27 27 (oWd (K := 224) (r := 2) wi_m_init_224 (by decide +kernel))
theorem dm_init_228 : dn tm_init 228 (.bipush 110) 2 230 := qr_16 110 110 (oWd (K := 224) (r := 4) wi_m_init_224 (by decide +kernel))
theorem dm_init_230 : dn tm_init 230 (.iastore) 1 231 := qr_79 (oW (K := 224) (r := 6) wi_m_init_224 (by decide +kernel))
theorem dm_init_231 : dn tm_init 231 (.dup) 1 232 := qr_89 (oW (K := 224) (r := 7) wi_m_init_224 (by decide +kernel))
theorem dm_init_232 : dn tm_init 232 (.bipush 28) 2 234 := qr_16 28 28 (oWd (K := 224) (r := 8) wi_m_init_224 (by decide +kernel))
theorem dm_init_234 : dn tm_init 234 (.bipush 100) 2 236 := qr_16 100 100 (oWd (K := 224) (r := 10) wi_m_init_224 (by decide +kernel))
theorem dm_init_236 : dn tm_init 236 (.iastore) 1 237 := qr_79 (oW (K := 224) (r := 12) wi_m_init_224 (by decide +kernel))
theorem dm_init_237 : dn tm_init 237 (.dup) 1 238 := qr_89 (oW (K := 224) (r := 13) wi_m_init_224 (by decide +kernel))
theorem dm_init_238 : dn tm_init 238 (.bipush 29) 2 240 := qr_16 29 29 (oWd (K := 224) (r := 14) wi_m_init_224 (by decide +kernel))
theorem dm_init_240 : dn tm_init 240 (.bipush 32) 2 242 := qr_16 32 32 (oWd (K := 224) (r := 16) wi_m_init_224 (by decide +kernel))
theorem dm_init_242 : dn tm_init 242 (.iastore) 1 243 := qr_79 (oW (K := 224) (r := 18) wi_m_init_224 (by decide +kernel))
theorem dm_init_243 : dn tm_init 243 (.dup) 1 244 := qr_89 (oW (K := 224) (r := 19) wi_m_init_224 (by decide +kernel))
theorem dm_init_244 : dn tm_init 244 (.bipush 30) 2 246 := qr_16 30 30 (oWd (K := 224) (r := 20) wi_m_init_224 (by decide +kernel))
theorem dm_init_246 : dn tm_init 246 (.bipush 110) 2 248 := qr_16 110 110 (oWd (K := 224) (r := 22) wi_m_init_224 (by decide +kernel))
theorem dm_init_248 : dn tm_init 248 (.iastore) 1 249 := qr_79 (oW (K := 224) (r := 24) wi_m_init_224 (by decide +kernel))
theorem dm_init_249 : dn tm_init 249 (.dup) 1 250 := qr_89 (oW (K := 224) (r := 25) wi_m_init_224 (by decide +kernel))
theorem dm_init_250 : dn tm_init 250 (.bipush 31) 2 252 := qr_16 31 31 (oWd (K := 224) (r := 26) wi_m_init_224 (by decide +kernel))
theorem dm_init_252 : dn tm_init 252 (.bipush 111) 2 254 := qr_16 111 111 (oWd (K := 224) (r := 28) wi_m_init_224 (by decide +kernel))
theorem dm_init_254 : dn tm_init 254 (.iastore) 1 255 := qr_79 (oW (K := 224) (r := 30) wi_m_init_224 (by decide +kernel))
theorem dm_init_255 : dn tm_init 255 (.dup) 1 256 := qr_89 (oW (K := 224) (r := 31) wi_m_init_224 (by decide +kernel))
noncomputable def wl_m_init_256 : List Nat := [16, 32, 16, 116, 79, 89, 16, 33, 16, 32, 79, 89, 16, 34, 16, 119, 79, 89, 16, 35, 16, 97, 79, 89, 16, 36, 16, 108, 79, 89, 16, 37, 16, 108, 79, 89, 16, 38]
theorem wi_m_init_256 : oC tm_init.2.1 256 wl_m_init_256 = true := by decide +kernel
theorem dm_init_256 : dn tm_init 256 (.bipush 32) 2 258 := qr_16 32 32 (oWd (K := 256) (r := 0) wi_m_init_256 (by decide +kernel))
theorem dm_init_258 : dn tm_init 258 (.bipush 116) 2 260 := qr_16 116 116 (oWd (K := 256) (r := 2) wi_m_init_256 (by decide +kernel))
theorem dm_init_260 : dn tm_init 260 (.iastore) 1 261 := qr_79 (oW (K := 256) (r := 4) wi_m_init_256 (by decide +kernel))
theorem dm_init_261 : dn tm_init 261 (.dup) 1 262 := qr_89 (oW (K := 256) (r := 5) wi_m_init_256 (by decide +kernel))
theorem dm_init_262 : dn tm_init 262 (.bipush 33) 2 264 := qr_16 33 33 (oWd (K := 256) (r := 6) wi_m_init_256 (by decide +kernel))
theorem dm_init_264 : dn tm_init 264 (.bipush 32) 2 266 := qr_16 32 32 (oWd (K := 256) (r := 8) wi_m_init_256 (by decide +kernel))
theorem dm_init_266 : dn tm_init 266 (.iastore) 1 267 := qr_79 (oW (K := 256) (r := 10) wi_m_init_256 (by decide +kernel))
theorem dm_init_267 : dn tm_init 267 (.dup) 1 268 := qr_89 (oW (K := 256) (r := 11) wi_m_init_256 (by decide +kernel))
theorem dm_init_268 : dn tm_init 268 (.bipush 34) 2 270 := qr_16 34 34 (oWd (K := 256) (r := 12) wi_m_init_256 (by decide +kernel))
theorem dm_init_270 : dn tm_init 270 (.bipush 119) 2 272 := qr_16 119 119 (oWd (K := 256) (r := 14) wi_m_init_256 (by decide +kernel))
theorem dm_init_272 : dn tm_init 272 (.iastore) 1 273 := qr_79 (oW (K := 256) (r := 16) wi_m_init_256 (by decide +kernel))
theorem dm_init_273 : dn tm_init 273 (.dup) 1 274 := qr_89 (oW (K := 256) (r := 17) wi_m_init_256 (by decide +kernel))
theorem dm_init_274 : dn tm_init 274 (.bipush 35) 2 276 := qr_16 35 35 (oWd (K := 256) (r := 18) wi_m_init_256 (by decide +kernel))
theorem dm_init_276 : dn tm_init 276 (.bipush 97) 2 278 := qr_16 97 97 (oWd (K := 256) (r := 20) wi_m_init_256 (by decide +kernel))
theorem dm_init_278 : dn tm_init 278 (.iastore) 1 279 := qr_79 (oW (K := 256) (r := 22) wi_m_init_256 (by decide +kernel))
theorem dm_init_279 : dn tm_init 279 (.dup) 1 280 := qr_89 (oW (K := 256) (r := 23) wi_m_init_256 (by decide +kernel))
theorem dm_init_280 : dn tm_init 280 (.bipush 36) 2 282 := qr_16 36 36 (oWd (K := 256) (r := 24) wi_m_init_256 (by decide +kernel))
theorem dm_init_282 : dn tm_init 282 (.bipush 108) 2 284 := qr_16 108 108 (oWd (K := 256) (r := 26) wi_m_init_256 (by decide +kernel))
theorem dm_init_284 : dn tm_init 284 (.iastore) 1 285 := qr_79 (oW (K := 256) (r := 28) wi_m_init_256 (by decide +kernel))
theorem dm_init_285 : dn tm_init 285 (.dup) 1 286 := qr_89 (oW (K := 256) (r := 29) wi_m_init_256 (by decide +kernel))
theorem dm_init_286 : dn tm_init 286 (.bipush 37) 2 288 := qr_16 37 37 (oWd (K := 256) (r := 30) wi_m_init_256 (by decide +kernel))
noncomputable def wl_m_init_288 : List Nat := [16, 108, 79, 89, 16, 38, 16, 32, 79, 89, 16, 39, 16, 115, 79, 89, 16, 40, 16, 117, 79, 89, 16, 41, 16, 109, 79, 89, 16, 42, 16, 32, 79, 89, 16, 43, 16, 97]
theorem wi_m_init_288 : oC tm_init.2.1 288 wl_m_init_288 = true := by decide +kernel
theorem dm_init_288 : dn tm_init 288 (.bipush 108) 2 290 := qr_16 108 108 (oWd (K := 288) (r := 0) wi_m_init_288 (by decide +kernel))
theorem dm_init_290 : dn tm_init 290 (.iastore) 1 291 := qr_79 (oW (K := 288) (r := 2) wi_m_init_288 (by decide +kernel))
theorem dm_init_291 : dn tm_init 291 (.dup) 1 292 := qr_89 (oW (K := 288) (r := 3) wi_m_init_288 (by decide +kernel))
theorem dm_init_292 : dn tm_init 292 (.bipush 38) 2 294 := qr_16 38 38 (oWd (K := 288) (r := 4) wi_m_init_288 (by decide +kernel))
theorem dm_init_294 : dn tm_init 294 (.bipush 32) 2 296 := qr_16 32 32 (oWd (K := 288) (r := 6) wi_m_init_288 (by decide +kernel))
theorem dm_init_296 : dn tm_init 296 (.iastore) 1 297 := qr_79 (oW (K := 288) (r := 8) wi_m_init_288 (by decide +kernel))
theorem dm_init_297 : dn tm_init 297 (.dup) 1 298 := qr_89 (oW (K := 288) (r := 9) wi_m_init_288 (by decide +kernel))
theorem dm_init_298 : dn tm_init 298 (.bipush 39) 2 300 := qr_16 39 39 (oWd (K := 288) (r := 10) wi_m_init_288 (by decide +kernel))
theorem dm_init_300 : dn tm_init 300 (.bipush 115) 2 302 := qr_16 115 115 (oWd (K := 288) (r := 12) wi_m_init_288 (by decide +kernel))
theorem dm_init_302 : dn tm_init 302 (.iastore) 1 303 := qr_79 (oW (K := 288) (r := 14) wi_m_init_288 (by decide +kernel))
theorem dm_init_303 : dn tm_init 303 (.dup) 1 304 := qr_89 (oW (K := 288) (r := 15) wi_m_init_288 (by decide +kernel))
theorem dm_init_304 : dn tm_init 304 (.bipush 40) 2 306 := qr_16 40 40 (oWd (K := 288) (r := 16) wi_m_init_288 (by decide +kernel))
theorem dm_init_306 : dn tm_init 306 (.bipush 117) 2 308 := qr_16 117 117 (oWd (K := 288) (r := 18) wi_m_init_288 (by decide +kernel))
theorem dm_init_308 : dn tm_init 308 (.iastore) 1 309 := qr_79 (oW (K := 288) (r := 20) wi_m_init_288 (by decide +kernel))
theorem dm_init_309 : dn tm_init 309 (.dup) 1 310 := qr_89 (oW (K := 288) (r := 21) wi_m_init_288 (by decide +kernel))
theorem dm_init_310 : dn tm_init 310 (.bipush 41) 2 312 := qr_16 41 41 (oWd (K := 288) (r := 22) wi_m_init_288 (by decide +kernel))
theorem dm_init_312 : dn tm_init 312 (.bipush 109) 2 314 := qr_16 109 109 (oWd (K := 288) (r := 24) wi_m_init_288 (by decide +kernel))
theorem dm_init_314 : dn tm_init 314 (.iastore) 1 315 := qr_79 (oW (K := 288) (r := 26) wi_m_init_288 (by decide +kernel))
theorem dm_init_315 : dn tm_init 315 (.dup) 1 316 := qr_89 (oW (K := 288) (r := 27) wi_m_init_288 (by decide +kernel))
theorem dm_init_316 : dn tm_init 316 (.bipush 42) 2 318 := qr_16 42 42 (oWd (K := 288) (r := 28) wi_m_init_288 (by decide +kernel))
theorem dm_init_318 : dn tm_init 318 (.bipush 32) 2 320 := qr_16 32 32 (oWd (K := 288) (r := 30) wi_m_init_288 (by decide +kernel))
noncomputable def wl_m_init_320 : List Nat := [79, 89, 16, 43, 16, 97, 79, 89, 16, 44, 16, 108, 79, 89, 16, 45, 16, 109, 79, 89, 16, 46, 16, 111, 79, 89, 16, 47, 16, 110, 79, 89, 16, 48, 16, 100, 79, 89]
theorem wi_m_init_320 : oC tm_init.2.1 320 wl_m_init_320 = true := by decide +kernel
theorem dm_init_320 : dn tm_init 320 (.iastore) 1 321 := qr_79 (oW (K := 320) (r := 0) wi_m_init_320 (by decide +kernel))
theorem dm_init_321 : dn tm_init 321 (.dup) 1 322 := qr_89 (oW (K := 320) (r := 1) wi_m_init_320 (by decide +kernel))
theorem dm_init_322 : dn tm_init 322 (.bipush 43) 2 324 := qr_16 43 43 (oWd (K := 320) (r := 2) wi_m_init_320 (by decide +kernel))
theorem dm_init_324 : dn tm_init 324 (.bipush 97) 2 326 := qr_16 97 97 (oWd (K := 320) (r := 4) wi_m_init_320 (by decide +kernel))
theorem dm_init_326 : dn tm_init 326 (.iastore) 1 327 := qr_79 (oW (K := 320) (r := 6) wi_m_init_320 (by decide +kernel))
theorem dm_init_327 : dn tm_init 327 (.dup) 1 328 := qr_89 (oW (K := 320) (r := 7) wi_m_init_320 (by decide +kernel))
theorem dm_init_328 : dn tm_init 328 (.bipush 44) 2 330 := qr_16 44 44 (oWd (K := 320) (r := 8) wi_m_init_320 (by decide +kernel))
theorem dm_init_330 : dn tm_init 330 (.bipush 108) 2 332 := qr_16 108 108 (oWd (K := 320) (r := 10) wi_m_init_320 (by decide +kernel))
theorem dm_init_332 : dn tm_init 332 (.iastore) 1 333 := qr_79 (oW (K := 320) (r := 12) wi_m_init_320 (by decide +kernel))
theorem dm_init_333 : dn tm_init 333 (.dup) 1 334 := qr_89 (oW (K := 320) (r := 13) wi_m_init_320 (by decide +kernel))
theorem dm_init_334 : dn tm_init 334 (.bipush 45) 2 336 := qr_16 45 45 (oWd (K := 320) (r := 14) wi_m_init_320 (by decide +kernel))
theorem dm_init_336 : dn tm_init 336 (.bipush 109) 2 338 := qr_16 109 109 (oWd (K := 320) (r := 16) wi_m_init_320 (by decide +kernel))
theorem dm_init_338 : dn tm_init 338 (.iastore) 1 339 := qr_79 (oW (K := 320) (r := 18) wi_m_init_320 (by decide +kernel))
